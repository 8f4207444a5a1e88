theorem dX11_init_144 : decode cX11_init 144 = .ok (.newarray .long, 2) := by decide +kernel
theorem dX11_init_146 : decode cX11_init 146 = .ok (.putfield 67, 3) := @dq_o181 cX11_init 146 0 67 (qX11_init_9 2 181 rfl) (qX11_init_9 3 0 rfl) (qX11_init_9 4 67 rfl)
theorem dX11_init_149 : decode cX11_init 149 = .ok (.aload_n 0, 1) := @dq_o42 cX11_init 149 (qX11_init_9 5 42 rfl)
theorem dX11_init_150 : decode cX11_init 150 = .ok (.sipush 300, 3) := @dq_o17 cX11_init 150 1 44 (qX11_init_9 6 17 rfl) (qX11_init_9 7 1 rfl) (qX11_init_9 8 44 rfl)
theorem dX11_init_153 : decode cX11_init 153 = .ok (.newarray .int, 2) := by decide +kernel
theorem dX11_init_155 : decode cX11_init 155 = .ok (.putfield 70, 3) := @dq_o181 cX11_init 155 0 70 (qX11_init_9 11 181 rfl) (qX11_init_9 12 0 rfl) (qX11_init_9 13 70 rfl)
theorem dX11_init_158 : decode cX11_init 158 = .ok (.aload_n 0, 1) := @dq_o42 cX11_init 158 (qX11_init_9 14 42 rfl)
theorem dX11_init_159 : decode cX11_init 159 = .ok (.invokevirtual 73, 3) := @dq_o182 cX11_init 159 0 73 (qX11_init_9 15 182 rfl) (qX11_init_10 0 0 rfl) (qX11_init_10 1 73 rfl)
theorem dX11_init_162 : decode cX11_init 162 = .ok (.return_, 1) := @dq_o177 cX11_init 162 (qX11_init_10 2 177 rfl)
abbrev qaX11_plain_0 : List Nat := [42, 6, 182, 0, 76, 42, 180, 0, 13, 4, 4, 79, 42, 180, 0, 13]
abbrev qaX11_plain_1 : List Nat := [5, 4, 79, 42, 180, 0, 13, 6, 5, 79, 42, 4, 3, 5, 4, 182]
abbrev qaX11_plain_2 : List Nat := [0, 80, 177]
def qtX11_plain_3 : List Nat := []
def qtX11_plain_2 : List Nat := qaX11_plain_2 ++ qtX11_plain_3
def qtX11_plain_1 : List Nat := qaX11_plain_1 ++ qtX11_plain_2
def qtX11_plain_0 : List Nat := qaX11_plain_0 ++ qtX11_plain_1
theorem qeX11_plain : cX11_plain.data.toList.map UInt8.toNat = qtX11_plain_0 := by decide +kernel
theorem qsX11_plain_0 : ∀ i, dqNth qtX11_plain_0 (0 + i) = dqNth qtX11_plain_0 i := fun i => by rw [Nat.zero_add]
theorem qsX11_plain_1 : ∀ i, dqNth qtX11_plain_0 (16 + i) = dqNth qtX11_plain_1 i := dq_step qsX11_plain_0 rfl rfl
theorem qsX11_plain_2 : ∀ i, dqNth qtX11_plain_0 (32 + i) = dqNth qtX11_plain_2 i := dq_step qsX11_plain_1 rfl rfl
theorem qX11_plain_0 (i b : Nat) (h : dqNth qaX11_plain_0 i = some b) : DqBy cX11_plain (0 + i) b := dqBy_of qeX11_plain ((qsX11_plain_0 i).trans (dq_in h))
theorem qX11_plain_1 (i b : Nat) (h : dqNth qaX11_plain_1 i = some b) : DqBy cX11_plain (16 + i) b := dqBy_of qeX11_plain ((qsX11_plain_1 i).trans (dq_in h))
theorem qX11_plain_2 (i b : Nat) (h : dqNth qaX11_plain_2 i = some b) : DqBy cX11_plain (32 + i) b := dqBy_of qeX11_plain ((qsX11_plain_2 i).trans (dq_in h))
theorem dX11_plain_0 : decode cX11_plain 0 = .ok (.aload_n 0, 1) := @dq_o42 cX11_plain 0 (qX11_plain_0 0 42 rfl)
theorem dX11_plain_1 : decode cX11_plain 1 = .ok (.iconst 3, 1) := @dq_o6 cX11_plain 1 (qX11_plain_0 1 6 rfl)
theorem dX11_plain_2 : decode cX11_plain 2 = .ok (.invokevirtual 76, 3) := @dq_o182 cX11_plain 2 0 76 (qX11_plain_0 2 182 rfl) (qX11_plain_0 3 0 rfl) (qX11_plain_0 4 76 rfl)
theorem dX11_plain_5 : decode cX11_plain 5 = .ok (.aload_n 0, 1) := @dq_o42 cX11_plain 5 (qX11_plain_0 5 42 rfl)
theorem dX11_plain_6 : decode cX11_plain 6 = .ok (.getfield 13, 3) := @dq_o180 cX11_plain 6 0 13 (qX11_plain_0 6 180 rfl) (qX11_plain_0 7 0 rfl) (qX11_plain_0 8 13 rfl)
theorem dX11_plain_9 : decode cX11_plain 9 = .ok (.iconst 1, 1) := @dq_o4 cX11_plain 9 (qX11_plain_0 9 4 rfl)
theorem dX11_plain_10 : decode cX11_plain 10 = .ok (.iconst 1, 1) := @dq_o4 cX11_plain 10 (qX11_plain_0 10 4 rfl)
theorem dX11_plain_11 : decode cX11_plain 11 = .ok (.iastore, 1) := @dq_o79 cX11_plain 11 (qX11_plain_0 11 79 rfl)
theorem dX11_plain_12 : decode cX11_plain 12 = .ok (.aload_n 0, 1) := @dq_o42 cX11_plain 12 (qX11_plain_0 12 42 rfl)
theorem dX11_plain_13 : decode cX11_plain 13 = .ok (.getfield 13, 3) := @dq_o180 cX11_plain 13 0 13 (qX11_plain_0 13 180 rfl) (qX11_plain_0 14 0 rfl) (qX11_plain_0 15 13 rfl)
theorem dX11_plain_16 : decode cX11_plain 16 = .ok (.iconst 2, 1) := @dq_o5 cX11_plain 16 (qX11_plain_1 0 5 rfl)
theorem dX11_plain_17 : decode cX11_plain 17 = .ok (.iconst 1, 1) := @dq_o4 cX11_plain 17 (qX11_plain_1 1 4 rfl)
theorem dX11_plain_18 : decode cX11_plain 18 = .ok (.iastore, 1) := @dq_o79 cX11_plain 18 (qX11_plain_1 2 79 rfl)
theorem dX11_plain_19 : decode cX11_plain 19 = .ok (.aload_n 0, 1) := @dq_o42 cX11_plain 19 (qX11_plain_1 3 42 rfl)
theorem dX11_plain_20 : decode cX11_plain 20 = .ok (.getfield 13, 3) := @dq_o180 cX11_plain 20 0 13 (qX11_plain_1 4 180 rfl) (qX11_plain_1 5 0 rfl) (qX11_plain_1 6 13 rfl)
theorem dX11_plain_23 : decode cX11_plain 23 = .ok (.iconst 3, 1) := @dq_o6 cX11_plain 23 (qX11_plain_1 7 6 rfl)
theorem dX11_plain_24 : decode cX11_plain 24 = .ok (.iconst 2, 1) := @dq_o5 cX11_plain 24 (qX11_plain_1 8 5 rfl)
theorem dX11_plain_25 : decode cX11_plain 25 = .ok (.iastore, 1) := @dq_o79 cX11_plain 25 (qX11_plain_1 9 79 rfl)
theorem dX11_plain_26 : decode cX11_plain 26 = .ok (.aload_n 0, 1) := @dq_o42 cX11_plain 26 (qX11_plain_1 10 42 rfl)
theorem dX11_plain_27 : decode cX11_plain 27 = .ok (.iconst 1, 1) := @dq_o4 cX11_plain 27 (qX11_plain_1 11 4 rfl)
theorem dX11_plain_28 : decode cX11_plain 28 = .ok (.iconst 0, 1) := @dq_o3 cX11_plain 28 (qX11_plain_1 12 3 rfl)
theorem dX11_plain_29 : decode cX11_plain 29 = .ok (.iconst 2, 1) := @dq_o5 cX11_plain 29 (qX11_plain_1 13 5 rfl)
theorem dX11_plain_30 : decode cX11_plain 30 = .ok (.iconst 1, 1) := @dq_o4 cX11_plain 30 (qX11_plain_1 14 4 rfl)
theorem dX11_plain_31 : decode cX11_plain 31 = .ok (.invokevirtual 80, 3) := @dq_o182 cX11_plain 31 0 80 (qX11_plain_1 15 182 rfl) (qX11_plain_2 0 0 rfl) (qX11_plain_2 1 80 rfl)
theorem dX11_plain_34 : decode cX11_plain 34 = .ok (.return_, 1) := @dq_o177 cX11_plain 34 (qX11_plain_2 2 177 rfl)
abbrev qaX11_clears_0 : List Nat := [3, 61, 28, 17, 1, 27, 162, 0, 16, 42, 180, 0, 13, 28, 3, 79]
abbrev qaX11_clears_1 : List Nat := [132, 2, 1, 167, 255, 239, 42, 180, 0, 13, 3, 27, 79, 42, 3, 181]
abbrev qaX11_clears_2 : List Nat := [0, 84, 177]
def qtX11_clears_3 : List Nat := []
def qtX11_clears_2 : List Nat := qaX11_clears_2 ++ qtX11_clears_3
def qtX11_clears_1 : List Nat := qaX11_clears_1 ++ qtX11_clears_2
def qtX11_clears_0 : List Nat := qaX11_clears_0 ++ qtX11_clears_1
theorem qeX11_clears : cX11_clears.data.toList.map UInt8.toNat = qtX11_clears_0 := by decide +kernel
theorem qsX11_clears_0 : ∀ i, dqNth qtX11_clears_0 (0 + i) = dqNth qtX11_clears_0 i := fun i => by rw [Nat.zero_add]
theorem qsX11_clears_1 : ∀ i, dqNth qtX11_clears_0 (16 + i) = dqNth qtX11_clears_1 i := dq_step qsX11_clears_0 rfl rfl
theorem qsX11_clears_2 : ∀ i, dqNth qtX11_clears_0 (32 + i) = dqNth qtX11_clears_2 i := dq_step qsX11_clears_1 rfl rfl
theorem qX11_clears_0 (i b : Nat) (h : dqNth qaX11_clears_0 i = some b) : DqBy cX11_clears (0 + i) b := dqBy_of qeX11_clears ((qsX11_clears_0 i).trans (dq_in h))
theorem qX11_clears_1 (i b : Nat) (h : dqNth qaX11_clears_1 i = some b) : DqBy cX11_clears (16 + i) b := dqBy_of qeX11_clears ((qsX11_clears_1 i).trans (dq_in h))
theorem qX11_clears_2 (i b : Nat) (h : dqNth qaX11_clears_2 i = some b) : DqBy cX11_clears (32 + i) b := dqBy_of qeX11_clears ((qsX11_clears_2 i).trans (dq_in h))
theorem dX11_clears_0 : decode cX11_clears 0 = .ok (.iconst 0, 1) := @dq_o3 cX11_clears 0 (qX11_clears_0 0 3 rfl)
theorem dX11_clears_1 : decode cX11_clears 1 = .ok (.istore_n 2, 1) := @dq_o61 cX11_clears 1 (qX11_clears_0 1 61 rfl)
theorem dX11_clears_2 : decode cX11_clears 2 = .ok (.iload_n 2, 1) := @dq_o28 cX11_clears 2 (qX11_clears_0 2 28 rfl)
theorem dX11_clears_3 : decode cX11_clears 3 = .ok (.sipush 283, 3) := @dq_o17 cX11_clears 3 1 27 (qX11_clears_0 3 17 rfl) (qX11_clears_0 4 1 rfl) (qX11_clears_0 5 27 rfl)
theorem dX11_clears_6 : decode cX11_clears 6 = .ok (.if_icmp .ge 16, 3) := @dq_o162 cX11_clears 6 0 16 (qX11_clears_0 6 162 rfl) (qX11_clears_0 7 0 rfl) (qX11_clears_0 8 16 rfl)
theorem dX11_clears_9 : decode cX11_clears 9 = .ok (.aload_n 0, 1) := @dq_o42 cX11_clears 9 (qX11_clears_0 9 42 rfl)
theorem dX11_clears_10 : decode cX11_clears 10 = .ok (.getfield 13, 3) := @dq_o180 cX11_clears 10 0 13 (qX11_clears_0 10 180 rfl) (qX11_clears_0 11 0 rfl) (qX11_clears_0 12 13 rfl)
theorem dX11_clears_13 : decode cX11_clears 13 = .ok (.iload_n 2, 1) := @dq_o28 cX11_clears 13 (qX11_clears_0 13 28 rfl)
theorem dX11_clears_14 : decode cX11_clears 14 = .ok (.iconst 0, 1) := @dq_o3 cX11_clears 14 (qX11_clears_0 14 3 rfl)
theorem dX11_clears_15 : decode cX11_clears 15 = .ok (.iastore, 1) := @dq_o79 cX11_clears 15 (qX11_clears_0 15 79 rfl)
theorem dX11_clears_16 : decode cX11_clears 16 = .ok (.iinc 2 1, 3) := @dq_o132 cX11_clears 16 2 1 (qX11_clears_1 0 132 rfl) (qX11_clears_1 1 2 rfl) (qX11_clears_1 2 1 rfl)
theorem dX11_clears_19 : decode cX11_clears 19 = .ok (.goto (-17), 3) := @dq_o167 cX11_clears 19 255 239 (qX11_clears_1 3 167 rfl) (qX11_clears_1 4 255 rfl) (qX11_clears_1 5 239 rfl)
theorem dX11_clears_22 : decode cX11_clears 22 = .ok (.aload_n 0, 1) := @dq_o42 cX11_clears 22 (qX11_clears_1 6 42 rfl)
theorem dX11_clears_23 : decode cX11_clears 23 = .ok (.getfield 13, 3) := @dq_o180 cX11_clears 23 0 13 (qX11_clears_1 7 180 rfl) (qX11_clears_1 8 0 rfl) (qX11_clears_1 9 13 rfl)
theorem dX11_clears_26 : decode cX11_clears 26 = .ok (.iconst 0, 1) := @dq_o3 cX11_clears 26 (qX11_clears_1 10 3 rfl)
theorem dX11_clears_27 : decode cX11_clears 27 = .ok (.iload_n 1, 1) := @dq_o27 cX11_clears 27 (qX11_clears_1 11 27 rfl)
theorem dX11_clears_28 : decode cX11_clears 28 = .ok (.iastore, 1) := @dq_o79 cX11_clears 28 (qX11_clears_1 12 79 rfl)
theorem dX11_clears_29 : decode cX11_clears 29 = .ok (.aload_n 0, 1) := @dq_o42 cX11_clears 29 (qX11_clears_1 13 42 rfl)
theorem dX11_clears_30 : decode cX11_clears 30 = .ok (.iconst 0, 1) := @dq_o3 cX11_clears 30 (qX11_clears_1 14 3 rfl)
theorem dX11_clears_31 : decode cX11_clears 31 = .ok (.putfield 84, 3) := @dq_o181 cX11_clears 31 0 84 (qX11_clears_1 15 181 rfl) (qX11_clears_2 0 0 rfl) (qX11_clears_2 1 84 rfl)
theorem dX11_clears_34 : decode cX11_clears 34 = .ok (.return_, 1) := @dq_o177 cX11_clears 34 (qX11_clears_2 2 177 rfl)
abbrev qaX11_n_0 : List Nat := [42, 180, 0, 13, 3, 46, 172]
def qtX11_n_1 : List Nat := []
def qtX11_n_0 : List Nat := qaX11_n_0 ++ qtX11_n_1
theorem qeX11_n : cX11_n.data.toList.map UInt8.toNat = qtX11_n_0 := by decide +kernel
theorem qsX11_n_0 : ∀ i, dqNth qtX11_n_0 (0 + i) = dqNth qtX11_n_0 i := fun i => by rw [Nat.zero_add]
theorem qX11_n_0 (i b : Nat) (h : dqNth qaX11_n_0 i = some b) : DqBy cX11_n (0 + i) b := dqBy_of qeX11_n ((qsX11_n_0 i).trans (dq_in h))
theorem dX11_n_0 : decode cX11_n 0 = .ok (.aload_n 0, 1) := @dq_o42 cX11_n 0 (qX11_n_0 0 42 rfl)
theorem dX11_n_1 : decode cX11_n 1 = .ok (.getfield 13, 3) := @dq_o180 cX11_n 1 0 13 (qX11_n_0 1 180 rfl) (qX11_n_0 2 0 rfl) (qX11_n_0 3 13 rfl)
theorem dX11_n_4 : decode cX11_n 4 = .ok (.iconst 0, 1) := @dq_o3 cX11_n 4 (qX11_n_0 4 3 rfl)
theorem dX11_n_5 : decode cX11_n 5 = .ok (.iaload, 1) := @dq_o46 cX11_n 5 (qX11_n_0 5 46 rfl)
theorem dX11_n_6 : decode cX11_n 6 = .ok (.ireturn, 1) := @dq_o172 cX11_n 6 (qX11_n_0 6 172 rfl)
abbrev qaX11_weight_0 : List Nat := [42, 180, 0, 13, 4, 27, 96, 46, 172]
def qtX11_weight_1 : List Nat := []
def qtX11_weight_0 : List Nat := qaX11_weight_0 ++ qtX11_weight_1
theorem qeX11_weight : cX11_weight.data.toList.map UInt8.toNat = qtX11_weight_0 := by decide +kernel
theorem qsX11_weight_0 : ∀ i, dqNth qtX11_weight_0 (0 + i) = dqNth qtX11_weight_0 i := fun i => by rw [Nat.zero_add]
theorem qX11_weight_0 (i b : Nat) (h : dqNth qaX11_weight_0 i = some b) : DqBy cX11_weight (0 + i) b := dqBy_of qeX11_weight ((qsX11_weight_0 i).trans (dq_in h))
theorem dX11_weight_0 : decode cX11_weight 0 = .ok (.aload_n 0, 1) := @dq_o42 cX11_weight 0 (qX11_weight_0 0 42 rfl)
theorem dX11_weight_1 : decode cX11_weight 1 = .ok (.getfield 13, 3) := @dq_o180 cX11_weight 1 0 13 (qX11_weight_0 1 180 rfl) (qX11_weight_0 2 0 rfl) (qX11_weight_0 3 13 rfl)
theorem dX11_weight_4 : decode cX11_weight 4 = .ok (.iconst 1, 1) := @dq_o4 cX11_weight 4 (qX11_weight_0 4 4 rfl)
theorem dX11_weight_5 : decode cX11_weight 5 = .ok (.iload_n 1, 1) := @dq_o27 cX11_weight 5 (qX11_weight_0 5 27 rfl)
theorem dX11_weight_6 : decode cX11_weight 6 = .ok (.iadd, 1) := @dq_o96 cX11_weight 6 (qX11_weight_0 6 96 rfl)
theorem dX11_weight_7 : decode cX11_weight 7 = .ok (.iaload, 1) := @dq_o46 cX11_weight 7 (qX11_weight_0 7 46 rfl)
theorem dX11_weight_8 : decode cX11_weight 8 = .ok (.ireturn, 1) := @dq_o172 cX11_weight 8 (qX11_weight_0 8 172 rfl)
abbrev qaX11_level_0 : List Nat := [42, 42, 182, 0, 88, 4, 100, 182, 0, 92, 172]
def qtX11_level_1 : List Nat := []
def qtX11_level_0 : List Nat := qaX11_level_0 ++ qtX11_level_1
theorem qeX11_level : cX11_level.data.toList.map UInt8.toNat = qtX11_level_0 := by decide +kernel
theorem qsX11_level_0 : ∀ i, dqNth qtX11_level_0 (0 + i) = dqNth qtX11_level_0 i := fun i => by rw [Nat.zero_add]
theorem qX11_level_0 (i b : Nat) (h : dqNth qaX11_level_0 i = some b) : DqBy cX11_level (0 + i) b := dqBy_of qeX11_level ((qsX11_level_0 i).trans (dq_in h))
theorem dX11_level_0 : decode cX11_level 0 = .ok (.aload_n 0, 1) := @dq_o42 cX11_level 0 (qX11_level_0 0 42 rfl)
theorem dX11_level_1 : decode cX11_level 1 = .ok (.aload_n 0, 1) := @dq_o42 cX11_level 1 (qX11_level_0 1 42 rfl)
theorem dX11_level_2 : decode cX11_level 2 = .ok (.invokevirtual 88, 3) := @dq_o182 cX11_level 2 0 88 (qX11_level_0 2 182 rfl) (qX11_level_0 3 0 rfl) (qX11_level_0 4 88 rfl)
theorem dX11_level_5 : decode cX11_level 5 = .ok (.iconst 1, 1) := @dq_o4 cX11_level 5 (qX11_level_0 5 4 rfl)
theorem dX11_level_6 : decode cX11_level 6 = .ok (.isub, 1) := @dq_o100 cX11_level 6 (qX11_level_0 6 100 rfl)
theorem dX11_level_7 : decode cX11_level 7 = .ok (.invokevirtual 92, 3) := @dq_o182 cX11_level 7 0 92 (qX11_level_0 7 182 rfl) (qX11_level_0 8 0 rfl) (qX11_level_0 9 92 rfl)
theorem dX11_level_10 : decode cX11_level 10 = .ok (.ireturn, 1) := @dq_o172 cX11_level 10 (qX11_level_0 10 172 rfl)
abbrev qaX11_tail_0 : List Nat := [42, 180, 0, 13, 16, 7, 16, 36, 27, 104, 96, 16, 6, 28, 104, 96]
abbrev qaX11_tail_1 : List Nat := [29, 96, 46, 172]
def qtX11_tail_2 : List Nat := []
def qtX11_tail_1 : List Nat := qaX11_tail_1 ++ qtX11_tail_2
def qtX11_tail_0 : List Nat := qaX11_tail_0 ++ qtX11_tail_1
theorem qeX11_tail : cX11_tail.data.toList.map UInt8.toNat = qtX11_tail_0 := by decide +kernel
theorem qsX11_tail_0 : ∀ i, dqNth qtX11_tail_0 (0 + i) = dqNth qtX11_tail_0 i := fun i => by rw [Nat.zero_add]
theorem qsX11_tail_1 : ∀ i, dqNth qtX11_tail_0 (16 + i) = dqNth qtX11_tail_1 i := dq_step qsX11_tail_0 rfl rfl
theorem qX11_tail_0 (i b : Nat) (h : dqNth qaX11_tail_0 i = some b) : DqBy cX11_tail (0 + i) b := dqBy_of qeX11_tail ((qsX11_tail_0 i).trans (dq_in h))
theorem qX11_tail_1 (i b : Nat) (h : dqNth qaX11_tail_1 i = some b) : DqBy cX11_tail (16 + i) b := dqBy_of qeX11_tail ((qsX11_tail_1 i).trans (dq_in h))
theorem dX11_tail_0 : decode cX11_tail 0 = .ok (.aload_n 0, 1) := @dq_o42 cX11_tail 0 (qX11_tail_0 0 42 rfl)
theorem dX11_tail_1 : decode cX11_tail 1 = .ok (.getfield 13, 3) := @dq_o180 cX11_tail 1 0 13 (qX11_tail_0 1 180 rfl) (qX11_tail_0 2 0 rfl) (qX11_tail_0 3 13 rfl)
theorem dX11_tail_4 : decode cX11_tail 4 = .ok (.bipush 7, 2) := @dq_o16 cX11_tail 4 7 (qX11_tail_0 4 16 rfl) (qX11_tail_0 5 7 rfl)
theorem dX11_tail_6 : decode cX11_tail 6 = .ok (.bipush 36, 2) := @dq_o16 cX11_tail 6 36 (qX11_tail_0 6 16 rfl) (qX11_tail_0 7 36 rfl)
theorem dX11_tail_8 : decode cX11_tail 8 = .ok (.iload_n 1, 1) := @dq_o27 cX11_tail 8 (qX11_tail_0 8 27 rfl)
theorem dX11_tail_9 : decode cX11_tail 9 = .ok (.imul, 1) := @dq_o104 cX11_tail 9 (qX11_tail_0 9 104 rfl)
theorem dX11_tail_10 : decode cX11_tail 10 = .ok (.iadd, 1) := @dq_o96 cX11_tail 10 (qX11_tail_0 10 96 rfl)
theorem dX11_tail_11 : decode cX11_tail 11 = .ok (.bipush 6, 2) := @dq_o16 cX11_tail 11 6 (qX11_tail_0 11 16 rfl) (qX11_tail_0 12 6 rfl)
theorem dX11_tail_13 : decode cX11_tail 13 = .ok (.iload_n 2, 1) := @dq_o28 cX11_tail 13 (qX11_tail_0 13 28 rfl)
theorem dX11_tail_14 : decode cX11_tail 14 = .ok (.imul, 1) := @dq_o104 cX11_tail 14 (qX11_tail_0 14 104 rfl)
theorem dX11_tail_15 : decode cX11_tail 15 = .ok (.iadd, 1) := @dq_o96 cX11_tail 15 (qX11_tail_0 15 96 rfl)
theorem dX11_tail_16 : decode cX11_tail 16 = .ok (.iload_n 3, 1) := @dq_o29 cX11_tail 16 (qX11_tail_1 0 29 rfl)
theorem dX11_tail_17 : decode cX11_tail 17 = .ok (.iadd, 1) := @dq_o96 cX11_tail 17 (qX11_tail_1 1 96 rfl)
theorem dX11_tail_18 : decode cX11_tail 18 = .ok (.iaload, 1) := @dq_o46 cX11_tail 18 (qX11_tail_1 2 46 rfl)
theorem dX11_tail_19 : decode cX11_tail 19 = .ok (.ireturn, 1) := @dq_o172 cX11_tail 19 (qX11_tail_1 3 172 rfl)
abbrev qaX11_putsTail_0 : List Nat := [42, 180, 0, 13, 16, 7, 16, 36, 27, 104, 96, 16, 6, 28, 104, 96]
abbrev qaX11_putsTail_1 : List Nat := [29, 96, 21, 4, 79, 42, 3, 181, 0, 84, 177]
def qtX11_putsTail_2 : List Nat := []
def qtX11_putsTail_1 : List Nat := qaX11_putsTail_1 ++ qtX11_putsTail_2
def qtX11_putsTail_0 : List Nat := qaX11_putsTail_0 ++ qtX11_putsTail_1
theorem qeX11_putsTail : cX11_putsTail.data.toList.map UInt8.toNat = qtX11_putsTail_0 := by decide +kernel
theorem qsX11_putsTail_0 : ∀ i, dqNth qtX11_putsTail_0 (0 + i) = dqNth qtX11_putsTail_0 i := fun i => by rw [Nat.zero_add]
theorem qsX11_putsTail_1 : ∀ i, dqNth qtX11_putsTail_0 (16 + i) = dqNth qtX11_putsTail_1 i := dq_step qsX11_putsTail_0 rfl rfl
theorem qX11_putsTail_0 (i b : Nat) (h : dqNth qaX11_putsTail_0 i = some b) : DqBy cX11_putsTail (0 + i) b := dqBy_of qeX11_putsTail ((qsX11_putsTail_0 i).trans (dq_in h))
theorem qX11_putsTail_1 (i b : Nat) (h : dqNth qaX11_putsTail_1 i = some b) : DqBy cX11_putsTail (16 + i) b := dqBy_of qeX11_putsTail ((qsX11_putsTail_1 i).trans (dq_in h))
theorem dX11_putsTail_0 : decode cX11_putsTail 0 = .ok (.aload_n 0, 1) := @dq_o42 cX11_putsTail 0 (qX11_putsTail_0 0 42 rfl)
theorem dX11_putsTail_1 : decode cX11_putsTail 1 = .ok (.getfield 13, 3) := @dq_o180 cX11_putsTail 1 0 13 (qX11_putsTail_0 1 180 rfl) (qX11_putsTail_0 2 0 rfl) (qX11_putsTail_0 3 13 rfl)
theorem dX11_putsTail_4 : decode cX11_putsTail 4 = .ok (.bipush 7, 2) := @dq_o16 cX11_putsTail 4 7 (qX11_putsTail_0 4 16 rfl) (qX11_putsTail_0 5 7 rfl)
theorem dX11_putsTail_6 : decode cX11_putsTail 6 = .ok (.bipush 36, 2) := @dq_o16 cX11_putsTail 6 36 (qX11_putsTail_0 6 16 rfl) (qX11_putsTail_0 7 36 rfl)
theorem dX11_putsTail_8 : decode cX11_putsTail 8 = .ok (.iload_n 1, 1) := @dq_o27 cX11_putsTail 8 (qX11_putsTail_0 8 27 rfl)
theorem dX11_putsTail_9 : decode cX11_putsTail 9 = .ok (.imul, 1) := @dq_o104 cX11_putsTail 9 (qX11_putsTail_0 9 104 rfl)
theorem dX11_putsTail_10 : decode cX11_putsTail 10 = .ok (.iadd, 1) := @dq_o96 cX11_putsTail 10 (qX11_putsTail_0 10 96 rfl)
theorem dX11_putsTail_11 : decode cX11_putsTail 11 = .ok (.bipush 6, 2) := @dq_o16 cX11_putsTail 11 6 (qX11_putsTail_0 11 16 rfl) (qX11_putsTail_0 12 6 rfl)
theorem dX11_putsTail_13 : decode cX11_putsTail 13 = .ok (.iload_n 2, 1) := @dq_o28 cX11_putsTail 13 (qX11_putsTail_0 13 28 rfl)
theorem dX11_putsTail_14 : decode cX11_putsTail 14 = .ok (.imul, 1) := @dq_o104 cX11_putsTail 14 (qX11_putsTail_0 14 104 rfl)
theorem dX11_putsTail_15 : decode cX11_putsTail 15 = .ok (.iadd, 1) := @dq_o96 cX11_putsTail 15 (qX11_putsTail_0 15 96 rfl)
theorem dX11_putsTail_16 : decode cX11_putsTail 16 = .ok (.iload_n 3, 1) := @dq_o29 cX11_putsTail 16 (qX11_putsTail_1 0 29 rfl)
theorem dX11_putsTail_17 : decode cX11_putsTail 17 = .ok (.iadd, 1) := @dq_o96 cX11_putsTail 17 (qX11_putsTail_1 1 96 rfl)
theorem dX11_putsTail_18 : decode cX11_putsTail 18 = .ok (.iload 4, 2) := @dq_o21 cX11_putsTail 18 4 (qX11_putsTail_1 2 21 rfl) (qX11_putsTail_1 3 4 rfl)
theorem dX11_putsTail_20 : decode cX11_putsTail 20 = .ok (.iastore, 1) := @dq_o79 cX11_putsTail 20 (qX11_putsTail_1 4 79 rfl)
theorem dX11_putsTail_21 : decode cX11_putsTail 21 = .ok (.aload_n 0, 1) := @dq_o42 cX11_putsTail 21 (qX11_putsTail_1 5 42 rfl)
theorem dX11_putsTail_22 : decode cX11_putsTail 22 = .ok (.iconst 0, 1) := @dq_o3 cX11_putsTail 22 (qX11_putsTail_1 6 3 rfl)
theorem dX11_putsTail_23 : decode cX11_putsTail 23 = .ok (.putfield 84, 3) := @dq_o181 cX11_putsTail 23 0 84 (qX11_putsTail_1 7 181 rfl) (qX11_putsTail_1 8 0 rfl) (qX11_putsTail_1 9 84 rfl)
theorem dX11_putsTail_26 : decode cX11_putsTail 26 = .ok (.return_, 1) := @dq_o177 cX11_putsTail 26 (qX11_putsTail_1 10 177 rfl)
abbrev qaX11_ofRow_0 : List Nat := [42, 180, 0, 13, 17, 0, 223, 16, 6, 27, 104, 96, 28, 96, 46, 172]
def qtX11_ofRow_1 : List Nat := []
def qtX11_ofRow_0 : List Nat := qaX11_ofRow_0 ++ qtX11_ofRow_1
theorem qeX11_ofRow : cX11_ofRow.data.toList.map UInt8.toNat = qtX11_ofRow_0 := by decide +kernel
theorem qsX11_ofRow_0 : ∀ i, dqNth qtX11_ofRow_0 (0 + i) = dqNth qtX11_ofRow_0 i := fun i => by rw [Nat.zero_add]
theorem qX11_ofRow_0 (i b : Nat) (h : dqNth qaX11_ofRow_0 i = some b) : DqBy cX11_ofRow (0 + i) b := dqBy_of qeX11_ofRow ((qsX11_ofRow_0 i).trans (dq_in h))
theorem dX11_ofRow_0 : decode cX11_ofRow 0 = .ok (.aload_n 0, 1) := @dq_o42 cX11_ofRow 0 (qX11_ofRow_0 0 42 rfl)
theorem dX11_ofRow_1 : decode cX11_ofRow 1 = .ok (.getfield 13, 3) := @dq_o180 cX11_ofRow 1 0 13 (qX11_ofRow_0 1 180 rfl) (qX11_ofRow_0 2 0 rfl) (qX11_ofRow_0 3 13 rfl)
theorem dX11_ofRow_4 : decode cX11_ofRow 4 = .ok (.sipush 223, 3) := @dq_o17 cX11_ofRow 4 0 223 (qX11_ofRow_0 4 17 rfl) (qX11_ofRow_0 5 0 rfl) (qX11_ofRow_0 6 223 rfl)
theorem dX11_ofRow_7 : decode cX11_ofRow 7 = .ok (.bipush 6, 2) := @dq_o16 cX11_ofRow 7 6 (qX11_ofRow_0 7 16 rfl) (qX11_ofRow_0 8 6 rfl)
theorem dX11_ofRow_9 : decode cX11_ofRow 9 = .ok (.iload_n 1, 1) := @dq_o27 cX11_ofRow 9 (qX11_ofRow_0 9 27 rfl)
theorem dX11_ofRow_10 : decode cX11_ofRow 10 = .ok (.imul, 1) := @dq_o104 cX11_ofRow 10 (qX11_ofRow_0 10 104 rfl)
theorem dX11_ofRow_11 : decode cX11_ofRow 11 = .ok (.iadd, 1) := @dq_o96 cX11_ofRow 11 (qX11_ofRow_0 11 96 rfl)
theorem dX11_ofRow_12 : decode cX11_ofRow 12 = .ok (.iload_n 2, 1) := @dq_o28 cX11_ofRow 12 (qX11_ofRow_0 12 28 rfl)
theorem dX11_ofRow_13 : decode cX11_ofRow 13 = .ok (.iadd, 1) := @dq_o96 cX11_ofRow 13 (qX11_ofRow_0 13 96 rfl)
theorem dX11_ofRow_14 : decode cX11_ofRow 14 = .ok (.iaload, 1) := @dq_o46 cX11_ofRow 14 (qX11_ofRow_0 14 46 rfl)
theorem dX11_ofRow_15 : decode cX11_ofRow 15 = .ok (.ireturn, 1) := @dq_o172 cX11_ofRow 15 (qX11_ofRow_0 15 172 rfl)
abbrev qaX11_keepsAct_0 : List Nat := [42, 180, 0, 96, 16, 8, 160, 0, 40, 3, 60, 27, 17, 7, 189, 162]
abbrev qaX11_keepsAct_1 : List Nat := [0, 25, 42, 180, 0, 17, 27, 42, 180, 0, 17, 27, 17, 1, 27, 96]
abbrev qaX11_keepsAct_2 : List Nat := [46, 79, 132, 1, 1, 167, 255, 230, 42, 16, 7, 181, 0, 96, 3, 60]
abbrev qaX11_keepsAct_3 : List Nat := [27, 17, 1, 27, 162, 0, 30, 42, 180, 0, 17, 42, 180, 0, 96, 17]
abbrev qaX11_keepsAct_4 : List Nat := [1, 27, 104, 27, 96, 42, 180, 0, 13, 27, 46, 79, 132, 1, 1, 167]
abbrev qaX11_keepsAct_5 : List Nat := [255, 225, 42, 42, 180, 0, 96, 4, 96, 181, 0, 96, 177]
def qtX11_keepsAct_6 : List Nat := []
def qtX11_keepsAct_5 : List Nat := qaX11_keepsAct_5 ++ qtX11_keepsAct_6
def qtX11_keepsAct_4 : List Nat := qaX11_keepsAct_4 ++ qtX11_keepsAct_5
def qtX11_keepsAct_3 : List Nat := qaX11_keepsAct_3 ++ qtX11_keepsAct_4
def qtX11_keepsAct_2 : List Nat := qaX11_keepsAct_2 ++ qtX11_keepsAct_3
def qtX11_keepsAct_1 : List Nat := qaX11_keepsAct_1 ++ qtX11_keepsAct_2
def qtX11_keepsAct_0 : List Nat := qaX11_keepsAct_0 ++ qtX11_keepsAct_1
theorem qeX11_keepsAct : cX11_keepsAct.data.toList.map UInt8.toNat = qtX11_keepsAct_0 := by decide +kernel
theorem qsX11_keepsAct_0 : ∀ i, dqNth qtX11_keepsAct_0 (0 + i) = dqNth qtX11_keepsAct_0 i := fun i => by rw [Nat.zero_add]
theorem qsX11_keepsAct_1 : ∀ i, dqNth qtX11_keepsAct_0 (16 + i) = dqNth qtX11_keepsAct_1 i := dq_step qsX11_keepsAct_0 rfl rfl
theorem qsX11_keepsAct_2 : ∀ i, dqNth qtX11_keepsAct_0 (32 + i) = dqNth qtX11_keepsAct_2 i := dq_step qsX11_keepsAct_1 rfl rfl
theorem qsX11_keepsAct_3 : ∀ i, dqNth qtX11_keepsAct_0 (48 + i) = dqNth qtX11_keepsAct_3 i := dq_step qsX11_keepsAct_2 rfl rfl
theorem qsX11_keepsAct_4 : ∀ i, dqNth qtX11_keepsAct_0 (64 + i) = dqNth qtX11_keepsAct_4 i := dq_step qsX11_keepsAct_3 rfl rfl
theorem qsX11_keepsAct_5 : ∀ i, dqNth qtX11_keepsAct_0 (80 + i) = dqNth qtX11_keepsAct_5 i := dq_step qsX11_keepsAct_4 rfl rfl
theorem qX11_keepsAct_0 (i b : Nat) (h : dqNth qaX11_keepsAct_0 i = some b) : DqBy cX11_keepsAct (0 + i) b := dqBy_of qeX11_keepsAct ((qsX11_keepsAct_0 i).trans (dq_in h))
theorem qX11_keepsAct_1 (i b : Nat) (h : dqNth qaX11_keepsAct_1 i = some b) : DqBy cX11_keepsAct (16 + i) b := dqBy_of qeX11_keepsAct ((qsX11_keepsAct_1 i).trans (dq_in h))
theorem qX11_keepsAct_2 (i b : Nat) (h : dqNth qaX11_keepsAct_2 i = some b) : DqBy cX11_keepsAct (32 + i) b := dqBy_of qeX11_keepsAct ((qsX11_keepsAct_2 i).trans (dq_in h))
theorem qX11_keepsAct_3 (i b : Nat) (h : dqNth qaX11_keepsAct_3 i = some b) : DqBy cX11_keepsAct (48 + i) b := dqBy_of qeX11_keepsAct ((qsX11_keepsAct_3 i).trans (dq_in h))
theorem qX11_keepsAct_4 (i b : Nat) (h : dqNth qaX11_keepsAct_4 i = some b) : DqBy cX11_keepsAct (64 + i) b := dqBy_of qeX11_keepsAct ((qsX11_keepsAct_4 i).trans (dq_in h))
theorem qX11_keepsAct_5 (i b : Nat) (h : dqNth qaX11_keepsAct_5 i = some b) : DqBy cX11_keepsAct (80 + i) b := dqBy_of qeX11_keepsAct ((qsX11_keepsAct_5 i).trans (dq_in h))
theorem dX11_keepsAct_0 : decode cX11_keepsAct 0 = .ok (.aload_n 0, 1) := @dq_o42 cX11_keepsAct 0 (qX11_keepsAct_0 0 42 rfl)
theorem dX11_keepsAct_1 : decode cX11_keepsAct 1 = .ok (.getfield 96, 3) := @dq_o180 cX11_keepsAct 1 0 96 (qX11_keepsAct_0 1 180 rfl) (qX11_keepsAct_0 2 0 rfl) (qX11_keepsAct_0 3 96 rfl)
theorem dX11_keepsAct_4 : decode cX11_keepsAct 4 = .ok (.bipush 8, 2) := @dq_o16 cX11_keepsAct 4 8 (qX11_keepsAct_0 4 16 rfl) (qX11_keepsAct_0 5 8 rfl)
theorem dX11_keepsAct_6 : decode cX11_keepsAct 6 = .ok (.if_icmp .ne 40, 3) := @dq_o160 cX11_keepsAct 6 0 40 (qX11_keepsAct_0 6 160 rfl) (qX11_keepsAct_0 7 0 rfl) (qX11_keepsAct_0 8 40 rfl)
theorem dX11_keepsAct_9 : decode cX11_keepsAct 9 = .ok (.iconst 0, 1) := @dq_o3 cX11_keepsAct 9 (qX11_keepsAct_0 9 3 rfl)
theorem dX11_keepsAct_10 : decode cX11_keepsAct 10 = .ok (.istore_n 1, 1) := @dq_o60 cX11_keepsAct 10 (qX11_keepsAct_0 10 60 rfl)
theorem dX11_keepsAct_11 : decode cX11_keepsAct 11 = .ok (.iload_n 1, 1) := @dq_o27 cX11_keepsAct 11 (qX11_keepsAct_0 11 27 rfl)
theorem dX11_keepsAct_12 : decode cX11_keepsAct 12 = .ok (.sipush 1981, 3) := @dq_o17 cX11_keepsAct 12 7 189 (qX11_keepsAct_0 12 17 rfl) (qX11_keepsAct_0 13 7 rfl) (qX11_keepsAct_0 14 189 rfl)
theorem dX11_keepsAct_15 : decode cX11_keepsAct 15 = .ok (.if_icmp .ge 25, 3) := @dq_o162 cX11_keepsAct 15 0 25 (qX11_keepsAct_0 15 162 rfl) (qX11_keepsAct_1 0 0 rfl) (qX11_keepsAct_1 1 25 rfl)
theorem dX11_keepsAct_18 : decode cX11_keepsAct 18 = .ok (.aload_n 0, 1) := @dq_o42 cX11_keepsAct 18 (qX11_keepsAct_1 2 42 rfl)
theorem dX11_keepsAct_19 : decode cX11_keepsAct 19 = .ok (.getfield 17, 3) := @dq_o180 cX11_keepsAct 19 0 17 (qX11_keepsAct_1 3 180 rfl) (qX11_keepsAct_1 4 0 rfl) (qX11_keepsAct_1 5 17 rfl)
theorem dX11_keepsAct_22 : decode cX11_keepsAct 22 = .ok (.iload_n 1, 1) := @dq_o27 cX11_keepsAct 22 (qX11_keepsAct_1 6 27 rfl)
theorem dX11_keepsAct_23 : decode cX11_keepsAct 23 = .ok (.aload_n 0, 1) := @dq_o42 cX11_keepsAct 23 (qX11_keepsAct_1 7 42 rfl)
theorem dX11_keepsAct_24 : decode cX11_keepsAct 24 = .ok (.getfield 17, 3) := @dq_o180 cX11_keepsAct 24 0 17 (qX11_keepsAct_1 8 180 rfl) (qX11_keepsAct_1 9 0 rfl) (qX11_keepsAct_1 10 17 rfl)
theorem dX11_keepsAct_27 : decode cX11_keepsAct 27 = .ok (.iload_n 1, 1) := @dq_o27 cX11_keepsAct 27 (qX11_keepsAct_1 11 27 rfl)
theorem dX11_keepsAct_28 : decode cX11_keepsAct 28 = .ok (.sipush 283, 3) := @dq_o17 cX11_keepsAct 28 1 27 (qX11_keepsAct_1 12 17 rfl) (qX11_keepsAct_1 13 1 rfl) (qX11_keepsAct_1 14 27 rfl)
theorem dX11_keepsAct_31 : decode cX11_keepsAct 31 = .ok (.iadd, 1) := @dq_o96 cX11_keepsAct 31 (qX11_keepsAct_1 15 96 rfl)
theorem dX11_keepsAct_32 : decode cX11_keepsAct 32 = .ok (.iaload, 1) := @dq_o46 cX11_keepsAct 32 (qX11_keepsAct_2 0 46 rfl)
theorem dX11_keepsAct_33 : decode cX11_keepsAct 33 = .ok (.iastore, 1) := @dq_o79 cX11_keepsAct 33 (qX11_keepsAct_2 1 79 rfl)
theorem dX11_keepsAct_34 : decode cX11_keepsAct 34 = .ok (.iinc 1 1, 3) := @dq_o132 cX11_keepsAct 34 1 1 (qX11_keepsAct_2 2 132 rfl) (qX11_keepsAct_2 3 1 rfl) (qX11_keepsAct_2 4 1 rfl)
theorem dX11_keepsAct_37 : decode cX11_keepsAct 37 = .ok (.goto (-26), 3) := @dq_o167 cX11_keepsAct 37 255 230 (qX11_keepsAct_2 5 167 rfl) (qX11_keepsAct_2 6 255 rfl) (qX11_keepsAct_2 7 230 rfl)
theorem dX11_keepsAct_40 : decode cX11_keepsAct 40 = .ok (.aload_n 0, 1) := @dq_o42 cX11_keepsAct 40 (qX11_keepsAct_2 8 42 rfl)
theorem dX11_keepsAct_41 : decode cX11_keepsAct 41 = .ok (.bipush 7, 2) := @dq_o16 cX11_keepsAct 41 7 (qX11_keepsAct_2 9 16 rfl) (qX11_keepsAct_2 10 7 rfl)
theorem dX11_keepsAct_43 : decode cX11_keepsAct 43 = .ok (.putfield 96, 3) := @dq_o181 cX11_keepsAct 43 0 96 (qX11_keepsAct_2 11 181 rfl) (qX11_keepsAct_2 12 0 rfl) (qX11_keepsAct_2 13 96 rfl)
theorem dX11_keepsAct_46 : decode cX11_keepsAct 46 = .ok (.iconst 0, 1) := @dq_o3 cX11_keepsAct 46 (qX11_keepsAct_2 14 3 rfl)
theorem dX11_keepsAct_47 : decode cX11_keepsAct 47 = .ok (.istore_n 1, 1) := @dq_o60 cX11_keepsAct 47 (qX11_keepsAct_2 15 60 rfl)
theorem dX11_keepsAct_48 : decode cX11_keepsAct 48 = .ok (.iload_n 1, 1) := @dq_o27 cX11_keepsAct 48 (qX11_keepsAct_3 0 27 rfl)
theorem dX11_keepsAct_49 : decode cX11_keepsAct 49 = .ok (.sipush 283, 3) := @dq_o17 cX11_keepsAct 49 1 27 (qX11_keepsAct_3 1 17 rfl) (qX11_keepsAct_3 2 1 rfl) (qX11_keepsAct_3 3 27 rfl)
theorem dX11_keepsAct_52 : decode cX11_keepsAct 52 = .ok (.if_icmp .ge 30, 3) := @dq_o162 cX11_keepsAct 52 0 30 (qX11_keepsAct_3 4 162 rfl) (qX11_keepsAct_3 5 0 rfl) (qX11_keepsAct_3 6 30 rfl)
theorem dX11_keepsAct_55 : decode cX11_keepsAct 55 = .ok (.aload_n 0, 1) := @dq_o42 cX11_keepsAct 55 (qX11_keepsAct_3 7 42 rfl)
theorem dX11_keepsAct_56 : decode cX11_keepsAct 56 = .ok (.getfield 17, 3) := @dq_o180 cX11_keepsAct 56 0 17 (qX11_keepsAct_3 8 180 rfl) (qX11_keepsAct_3 9 0 rfl) (qX11_keepsAct_3 10 17 rfl)
theorem dX11_keepsAct_59 : decode cX11_keepsAct 59 = .ok (.aload_n 0, 1) := @dq_o42 cX11_keepsAct 59 (qX11_keepsAct_3 11 42 rfl)
theorem dX11_keepsAct_60 : decode cX11_keepsAct 60 = .ok (.getfield 96, 3) := @dq_o180 cX11_keepsAct 60 0 96 (qX11_keepsAct_3 12 180 rfl) (qX11_keepsAct_3 13 0 rfl) (qX11_keepsAct_3 14 96 rfl)
theorem dX11_keepsAct_63 : decode cX11_keepsAct 63 = .ok (.sipush 283, 3) := @dq_o17 cX11_keepsAct 63 1 27 (qX11_keepsAct_3 15 17 rfl) (qX11_keepsAct_4 0 1 rfl) (qX11_keepsAct_4 1 27 rfl)
theorem dX11_keepsAct_66 : decode cX11_keepsAct 66 = .ok (.imul, 1) := @dq_o104 cX11_keepsAct 66 (qX11_keepsAct_4 2 104 rfl)
theorem dX11_keepsAct_67 : decode cX11_keepsAct 67 = .ok (.iload_n 1, 1) := @dq_o27 cX11_keepsAct 67 (qX11_keepsAct_4 3 27 rfl)
theorem dX11_keepsAct_68 : decode cX11_keepsAct 68 = .ok (.iadd, 1) := @dq_o96 cX11_keepsAct 68 (qX11_keepsAct_4 4 96 rfl)
theorem dX11_keepsAct_69 : decode cX11_keepsAct 69 = .ok (.aload_n 0, 1) := @dq_o42 cX11_keepsAct 69 (qX11_keepsAct_4 5 42 rfl)
theorem dX11_keepsAct_70 : decode cX11_keepsAct 70 = .ok (.getfield 13, 3) := @dq_o180 cX11_keepsAct 70 0 13 (qX11_keepsAct_4 6 180 rfl) (qX11_keepsAct_4 7 0 rfl) (qX11_keepsAct_4 8 13 rfl)
theorem dX11_keepsAct_73 : decode cX11_keepsAct 73 = .ok (.iload_n 1, 1) := @dq_o27 cX11_keepsAct 73 (qX11_keepsAct_4 9 27 rfl)
theorem dX11_keepsAct_74 : decode cX11_keepsAct 74 = .ok (.iaload, 1) := @dq_o46 cX11_keepsAct 74 (qX11_keepsAct_4 10 46 rfl)
theorem dX11_keepsAct_75 : decode cX11_keepsAct 75 = .ok (.iastore, 1) := @dq_o79 cX11_keepsAct 75 (qX11_keepsAct_4 11 79 rfl)
theorem dX11_keepsAct_76 : decode cX11_keepsAct 76 = .ok (.iinc 1 1, 3) := @dq_o132 cX11_keepsAct 76 1 1 (qX11_keepsAct_4 12 132 rfl) (qX11_keepsAct_4 13 1 rfl) (qX11_keepsAct_4 14 1 rfl)
theorem dX11_keepsAct_79 : decode cX11_keepsAct 79 = .ok (.goto (-31), 3) := @dq_o167 cX11_keepsAct 79 255 225 (qX11_keepsAct_4 15 167 rfl) (qX11_keepsAct_5 0 255 rfl) (qX11_keepsAct_5 1 225 rfl)
theorem dX11_keepsAct_82 : decode cX11_keepsAct 82 = .ok (.aload_n 0, 1) := @dq_o42 cX11_keepsAct 82 (qX11_keepsAct_5 2 42 rfl)
theorem dX11_keepsAct_83 : decode cX11_keepsAct 83 = .ok (.aload_n 0, 1) := @dq_o42 cX11_keepsAct 83 (qX11_keepsAct_5 3 42 rfl)
theorem dX11_keepsAct_84 : decode cX11_keepsAct 84 = .ok (.getfield 96, 3) := @dq_o180 cX11_keepsAct 84 0 96 (qX11_keepsAct_5 4 180 rfl) (qX11_keepsAct_5 5 0 rfl) (qX11_keepsAct_5 6 96 rfl)
theorem dX11_keepsAct_87 : decode cX11_keepsAct 87 = .ok (.iconst 1, 1) := @dq_o4 cX11_keepsAct 87 (qX11_keepsAct_5 7 4 rfl)
theorem dX11_keepsAct_88 : decode cX11_keepsAct 88 = .ok (.iadd, 1) := @dq_o96 cX11_keepsAct 88 (qX11_keepsAct_5 8 96 rfl)
theorem dX11_keepsAct_89 : decode cX11_keepsAct 89 = .ok (.putfield 96, 3) := @dq_o181 cX11_keepsAct 89 0 96 (qX11_keepsAct_5 9 181 rfl) (qX11_keepsAct_5 10 0 rfl) (qX11_keepsAct_5 11 96 rfl)
theorem dX11_keepsAct_92 : decode cX11_keepsAct 92 = .ok (.return_, 1) := @dq_o177 cX11_keepsAct 92 (qX11_keepsAct_5 12 177 rfl)
abbrev qaX11_undo_0 : List Nat := [42, 3, 181, 0, 1, 42, 180, 0, 96, 154, 0, 5, 2, 172, 42, 42]
abbrev qaX11_undo_1 : List Nat := [180, 0, 96, 4, 100, 181, 0, 96, 3, 60, 27, 17, 1, 27, 162, 0]
abbrev qaX11_undo_2 : List Nat := [30, 42, 180, 0, 13, 27, 42, 180, 0, 17, 42, 180, 0, 96, 17, 1]
abbrev qaX11_undo_3 : List Nat := [27, 104, 27, 96, 46, 79, 132, 1, 1, 167, 255, 225, 42, 3, 181, 0]
abbrev qaX11_undo_4 : List Nat := [84, 42, 180, 0, 96, 172]
def qtX11_undo_5 : List Nat := []
def qtX11_undo_4 : List Nat := qaX11_undo_4 ++ qtX11_undo_5
def qtX11_undo_3 : List Nat := qaX11_undo_3 ++ qtX11_undo_4
def qtX11_undo_2 : List Nat := qaX11_undo_2 ++ qtX11_undo_3
def qtX11_undo_1 : List Nat := qaX11_undo_1 ++ qtX11_undo_2
def qtX11_undo_0 : List Nat := qaX11_undo_0 ++ qtX11_undo_1
theorem qeX11_undo : cX11_undo.data.toList.map UInt8.toNat = qtX11_undo_0 := by decide +kernel
theorem qsX11_undo_0 : ∀ i, dqNth qtX11_undo_0 (0 + i) = dqNth qtX11_undo_0 i := fun i => by rw [Nat.zero_add]
theorem qsX11_undo_1 : ∀ i, dqNth qtX11_undo_0 (16 + i) = dqNth qtX11_undo_1 i := dq_step qsX11_undo_0 rfl rfl
theorem qsX11_undo_2 : ∀ i, dqNth qtX11_undo_0 (32 + i) = dqNth qtX11_undo_2 i := dq_step qsX11_undo_1 rfl rfl
theorem qsX11_undo_3 : ∀ i, dqNth qtX11_undo_0 (48 + i) = dqNth qtX11_undo_3 i := dq_step qsX11_undo_2 rfl rfl
theorem qsX11_undo_4 : ∀ i, dqNth qtX11_undo_0 (64 + i) = dqNth qtX11_undo_4 i := dq_step qsX11_undo_3 rfl rfl
theorem qX11_undo_0 (i b : Nat) (h : dqNth qaX11_undo_0 i = some b) : DqBy cX11_undo (0 + i) b := dqBy_of qeX11_undo ((qsX11_undo_0 i).trans (dq_in h))
theorem qX11_undo_1 (i b : Nat) (h : dqNth qaX11_undo_1 i = some b) : DqBy cX11_undo (16 + i) b := dqBy_of qeX11_undo ((qsX11_undo_1 i).trans (dq_in h))
theorem qX11_undo_2 (i b : Nat) (h : dqNth qaX11_undo_2 i = some b) : DqBy cX11_undo (32 + i) b := dqBy_of qeX11_undo ((qsX11_undo_2 i).trans (dq_in h))
theorem qX11_undo_3 (i b : Nat) (h : dqNth qaX11_undo_3 i = some b) : DqBy cX11_undo (48 + i) b := dqBy_of qeX11_undo ((qsX11_undo_3 i).trans (dq_in h))
theorem qX11_undo_4 (i b : Nat) (h : dqNth qaX11_undo_4 i = some b) : DqBy cX11_undo (64 + i) b := dqBy_of qeX11_undo ((qsX11_undo_4 i).trans (dq_in h))
theorem dX11_undo_0 : decode cX11_undo 0 = .ok (.aload_n 0, 1) := @dq_o42 cX11_undo 0 (qX11_undo_0 0 42 rfl)
theorem dX11_undo_1 : decode cX11_undo 1 = .ok (.iconst 0, 1) := @dq_o3 cX11_undo 1 (qX11_undo_0 1 3 rfl)
theorem dX11_undo_2 : decode cX11_undo 2 = .ok (.putfield 1, 3) := @dq_o181 cX11_undo 2 0 1 (qX11_undo_0 2 181 rfl) (qX11_undo_0 3 0 rfl) (qX11_undo_0 4 1 rfl)
theorem dX11_undo_5 : decode cX11_undo 5 = .ok (.aload_n 0, 1) := @dq_o42 cX11_undo 5 (qX11_undo_0 5 42 rfl)
theorem dX11_undo_6 : decode cX11_undo 6 = .ok (.getfield 96, 3) := @dq_o180 cX11_undo 6 0 96 (qX11_undo_0 6 180 rfl) (qX11_undo_0 7 0 rfl) (qX11_undo_0 8 96 rfl)
theorem dX11_undo_9 : decode cX11_undo 9 = .ok (.ifCond .ne 5, 3) := @dq_o154 cX11_undo 9 0 5 (qX11_undo_0 9 154 rfl) (qX11_undo_0 10 0 rfl) (qX11_undo_0 11 5 rfl)
theorem dX11_undo_12 : decode cX11_undo 12 = .ok (.iconst (-1), 1) := @dq_o2 cX11_undo 12 (qX11_undo_0 12 2 rfl)
theorem dX11_undo_13 : decode cX11_undo 13 = .ok (.ireturn, 1) := @dq_o172 cX11_undo 13 (qX11_undo_0 13 172 rfl)
theorem dX11_undo_14 : decode cX11_undo 14 = .ok (.aload_n 0, 1) := @dq_o42 cX11_undo 14 (qX11_undo_0 14 42 rfl)
theorem dX11_undo_15 : decode cX11_undo 15 = .ok (.aload_n 0, 1) := @dq_o42 cX11_undo 15 (qX11_undo_0 15 42 rfl)
theorem dX11_undo_16 : decode cX11_undo 16 = .ok (.getfield 96, 3) := @dq_o180 cX11_undo 16 0 96 (qX11_undo_1 0 180 rfl) (qX11_undo_1 1 0 rfl) (qX11_undo_1 2 96 rfl)
theorem dX11_undo_19 : decode cX11_undo 19 = .ok (.iconst 1, 1) := @dq_o4 cX11_undo 19 (qX11_undo_1 3 4 rfl)
theorem dX11_undo_20 : decode cX11_undo 20 = .ok (.isub, 1) := @dq_o100 cX11_undo 20 (qX11_undo_1 4 100 rfl)
theorem dX11_undo_21 : decode cX11_undo 21 = .ok (.putfield 96, 3) := @dq_o181 cX11_undo 21 0 96 (qX11_undo_1 5 181 rfl) (qX11_undo_1 6 0 rfl) (qX11_undo_1 7 96 rfl)
theorem dX11_undo_24 : decode cX11_undo 24 = .ok (.iconst 0, 1) := @dq_o3 cX11_undo 24 (qX11_undo_1 8 3 rfl)
theorem dX11_undo_25 : decode cX11_undo 25 = .ok (.istore_n 1, 1) := @dq_o60 cX11_undo 25 (qX11_undo_1 9 60 rfl)
theorem dX11_undo_26 : decode cX11_undo 26 = .ok (.iload_n 1, 1) := @dq_o27 cX11_undo 26 (qX11_undo_1 10 27 rfl)
theorem dX11_undo_27 : decode cX11_undo 27 = .ok (.sipush 283, 3) := @dq_o17 cX11_undo 27 1 27 (qX11_undo_1 11 17 rfl) (qX11_undo_1 12 1 rfl) (qX11_undo_1 13 27 rfl)
theorem dX11_undo_30 : decode cX11_undo 30 = .ok (.if_icmp .ge 30, 3) := @dq_o162 cX11_undo 30 0 30 (qX11_undo_1 14 162 rfl) (qX11_undo_1 15 0 rfl) (qX11_undo_2 0 30 rfl)
theorem dX11_undo_33 : decode cX11_undo 33 = .ok (.aload_n 0, 1) := @dq_o42 cX11_undo 33 (qX11_undo_2 1 42 rfl)
theorem dX11_undo_34 : decode cX11_undo 34 = .ok (.getfield 13, 3) := @dq_o180 cX11_undo 34 0 13 (qX11_undo_2 2 180 rfl) (qX11_undo_2 3 0 rfl) (qX11_undo_2 4 13 rfl)
theorem dX11_undo_37 : decode cX11_undo 37 = .ok (.iload_n 1, 1) := @dq_o27 cX11_undo 37 (qX11_undo_2 5 27 rfl)
theorem dX11_undo_38 : decode cX11_undo 38 = .ok (.aload_n 0, 1) := @dq_o42 cX11_undo 38 (qX11_undo_2 6 42 rfl)
theorem dX11_undo_39 : decode cX11_undo 39 = .ok (.getfield 17, 3) := @dq_o180 cX11_undo 39 0 17 (qX11_undo_2 7 180 rfl) (qX11_undo_2 8 0 rfl) (qX11_undo_2 9 17 rfl)
theorem dX11_undo_42 : decode cX11_undo 42 = .ok (.aload_n 0, 1) := @dq_o42 cX11_undo 42 (qX11_undo_2 10 42 rfl)
theorem dX11_undo_43 : decode cX11_undo 43 = .ok (.getfield 96, 3) := @dq_o180 cX11_undo 43 0 96 (qX11_undo_2 11 180 rfl) (qX11_undo_2 12 0 rfl) (qX11_undo_2 13 96 rfl)
theorem dX11_undo_46 : decode cX11_undo 46 = .ok (.sipush 283, 3) := @dq_o17 cX11_undo 46 1 27 (qX11_undo_2 14 17 rfl) (qX11_undo_2 15 1 rfl) (qX11_undo_3 0 27 rfl)
theorem dX11_undo_49 : decode cX11_undo 49 = .ok (.imul, 1) := @dq_o104 cX11_undo 49 (qX11_undo_3 1 104 rfl)
theorem dX11_undo_50 : decode cX11_undo 50 = .ok (.iload_n 1, 1) := @dq_o27 cX11_undo 50 (qX11_undo_3 2 27 rfl)
theorem dX11_undo_51 : decode cX11_undo 51 = .ok (.iadd, 1) := @dq_o96 cX11_undo 51 (qX11_undo_3 3 96 rfl)
theorem dX11_undo_52 : decode cX11_undo 52 = .ok (.iaload, 1) := @dq_o46 cX11_undo 52 (qX11_undo_3 4 46 rfl)
theorem dX11_undo_53 : decode cX11_undo 53 = .ok (.iastore, 1) := @dq_o79 cX11_undo 53 (qX11_undo_3 5 79 rfl)
theorem dX11_undo_54 : decode cX11_undo 54 = .ok (.iinc 1 1, 3) := @dq_o132 cX11_undo 54 1 1 (qX11_undo_3 6 132 rfl) (qX11_undo_3 7 1 rfl) (qX11_undo_3 8 1 rfl)
theorem dX11_undo_57 : decode cX11_undo 57 = .ok (.goto (-31), 3) := @dq_o167 cX11_undo 57 255 225 (qX11_undo_3 9 167 rfl) (qX11_undo_3 10 255 rfl) (qX11_undo_3 11 225 rfl)
theorem dX11_undo_60 : decode cX11_undo 60 = .ok (.aload_n 0, 1) := @dq_o42 cX11_undo 60 (qX11_undo_3 12 42 rfl)
theorem dX11_undo_61 : decode cX11_undo 61 = .ok (.iconst 0, 1) := @dq_o3 cX11_undo 61 (qX11_undo_3 13 3 rfl)
theorem dX11_undo_62 : decode cX11_undo 62 = .ok (.putfield 84, 3) := @dq_o181 cX11_undo 62 0 84 (qX11_undo_3 14 181 rfl) (qX11_undo_3 15 0 rfl) (qX11_undo_4 0 84 rfl)
theorem dX11_undo_65 : decode cX11_undo 65 = .ok (.aload_n 0, 1) := @dq_o42 cX11_undo 65 (qX11_undo_4 1 42 rfl)
theorem dX11_undo_66 : decode cX11_undo 66 = .ok (.getfield 96, 3) := @dq_o180 cX11_undo 66 0 96 (qX11_undo_4 2 180 rfl) (qX11_undo_4 3 0 rfl) (qX11_undo_4 4 96 rfl)
theorem dX11_undo_69 : decode cX11_undo 69 = .ok (.ireturn, 1) := @dq_o172 cX11_undo 69 (qX11_undo_4 5 172 rfl)
abbrev qaX11_group_0 : List Nat := [42, 3, 181, 0, 1, 42, 27, 133, 10, 20, 0, 99, 182, 0, 101, 153]
abbrev qaX11_group_1 : List Nat := [0, 12, 42, 27, 28, 182, 0, 105, 154, 0, 5, 3, 172, 42, 182, 0]
abbrev qaX11_group_2 : List Nat := [109, 42, 27, 182, 0, 76, 3, 62, 29, 27, 162, 0, 24, 42, 180, 0]
abbrev qaX11_group_3 : List Nat := [13, 4, 29, 96, 28, 5, 29, 104, 122, 6, 126, 79, 132, 3, 1, 167]
abbrev qaX11_group_4 : List Nat := [255, 233, 4, 172]
def qtX11_group_5 : List Nat := []
def qtX11_group_4 : List Nat := qaX11_group_4 ++ qtX11_group_5
def qtX11_group_3 : List Nat := qaX11_group_3 ++ qtX11_group_4
def qtX11_group_2 : List Nat := qaX11_group_2 ++ qtX11_group_3
def qtX11_group_1 : List Nat := qaX11_group_1 ++ qtX11_group_2
def qtX11_group_0 : List Nat := qaX11_group_0 ++ qtX11_group_1
theorem qeX11_group : cX11_group.data.toList.map UInt8.toNat = qtX11_group_0 := by decide +kernel
theorem qsX11_group_0 : ∀ i, dqNth qtX11_group_0 (0 + i) = dqNth qtX11_group_0 i := fun i => by rw [Nat.zero_add]
theorem qsX11_group_1 : ∀ i, dqNth qtX11_group_0 (16 + i) = dqNth qtX11_group_1 i := dq_step qsX11_group_0 rfl rfl
theorem qsX11_group_2 : ∀ i, dqNth qtX11_group_0 (32 + i) = dqNth qtX11_group_2 i := dq_step qsX11_group_1 rfl rfl
theorem qsX11_group_3 : ∀ i, dqNth qtX11_group_0 (48 + i) = dqNth qtX11_group_3 i := dq_step qsX11_group_2 rfl rfl
theorem qsX11_group_4 : ∀ i, dqNth qtX11_group_0 (64 + i) = dqNth qtX11_group_4 i := dq_step qsX11_group_3 rfl rfl
theorem qX11_group_0 (i b : Nat) (h : dqNth qaX11_group_0 i = some b) : DqBy cX11_group (0 + i) b := dqBy_of qeX11_group ((qsX11_group_0 i).trans (dq_in h))
theorem qX11_group_1 (i b : Nat) (h : dqNth qaX11_group_1 i = some b) : DqBy cX11_group (16 + i) b := dqBy_of qeX11_group ((qsX11_group_1 i).trans (dq_in h))
theorem qX11_group_2 (i b : Nat) (h : dqNth qaX11_group_2 i = some b) : DqBy cX11_group (32 + i) b := dqBy_of qeX11_group ((qsX11_group_2 i).trans (dq_in h))
theorem qX11_group_3 (i b : Nat) (h : dqNth qaX11_group_3 i = some b) : DqBy cX11_group (48 + i) b := dqBy_of qeX11_group ((qsX11_group_3 i).trans (dq_in h))
theorem qX11_group_4 (i b : Nat) (h : dqNth qaX11_group_4 i = some b) : DqBy cX11_group (64 + i) b := dqBy_of qeX11_group ((qsX11_group_4 i).trans (dq_in h))
theorem dX11_group_0 : decode cX11_group 0 = .ok (.aload_n 0, 1) := @dq_o42 cX11_group 0 (qX11_group_0 0 42 rfl)
theorem dX11_group_1 : decode cX11_group 1 = .ok (.iconst 0, 1) := @dq_o3 cX11_group 1 (qX11_group_0 1 3 rfl)
theorem dX11_group_2 : decode cX11_group 2 = .ok (.putfield 1, 3) := @dq_o181 cX11_group 2 0 1 (qX11_group_0 2 181 rfl) (qX11_group_0 3 0 rfl) (qX11_group_0 4 1 rfl)
theorem dX11_group_5 : decode cX11_group 5 = .ok (.aload_n 0, 1) := @dq_o42 cX11_group 5 (qX11_group_0 5 42 rfl)
theorem dX11_group_6 : decode cX11_group 6 = .ok (.iload_n 1, 1) := @dq_o27 cX11_group 6 (qX11_group_0 6 27 rfl)
theorem dX11_group_7 : decode cX11_group 7 = .ok (.i2l, 1) := @dq_o133 cX11_group 7 (qX11_group_0 7 133 rfl)
theorem dX11_group_8 : decode cX11_group 8 = .ok (.lconst 1, 1) := @dq_o10 cX11_group 8 (qX11_group_0 8 10 rfl)
theorem dX11_group_9 : decode cX11_group 9 = .ok (.ldc2_w 99, 3) := @dq_o20 cX11_group 9 0 99 (qX11_group_0 9 20 rfl) (qX11_group_0 10 0 rfl) (qX11_group_0 11 99 rfl)
theorem dX11_group_12 : decode cX11_group 12 = .ok (.invokevirtual 101, 3) := @dq_o182 cX11_group 12 0 101 (qX11_group_0 12 182 rfl) (qX11_group_0 13 0 rfl) (qX11_group_0 14 101 rfl)
theorem dX11_group_15 : decode cX11_group 15 = .ok (.ifCond .eq 12, 3) := @dq_o153 cX11_group 15 0 12 (qX11_group_0 15 153 rfl) (qX11_group_1 0 0 rfl) (qX11_group_1 1 12 rfl)
theorem dX11_group_18 : decode cX11_group 18 = .ok (.aload_n 0, 1) := @dq_o42 cX11_group 18 (qX11_group_1 2 42 rfl)
theorem dX11_group_19 : decode cX11_group 19 = .ok (.iload_n 1, 1) := @dq_o27 cX11_group 19 (qX11_group_1 3 27 rfl)
theorem dX11_group_20 : decode cX11_group 20 = .ok (.iload_n 2, 1) := @dq_o28 cX11_group 20 (qX11_group_1 4 28 rfl)
theorem dX11_group_21 : decode cX11_group 21 = .ok (.invokevirtual 105, 3) := @dq_o182 cX11_group 21 0 105 (qX11_group_1 5 182 rfl) (qX11_group_1 6 0 rfl) (qX11_group_1 7 105 rfl)
theorem dX11_group_24 : decode cX11_group 24 = .ok (.ifCond .ne 5, 3) := @dq_o154 cX11_group 24 0 5 (qX11_group_1 8 154 rfl) (qX11_group_1 9 0 rfl) (qX11_group_1 10 5 rfl)
theorem dX11_group_27 : decode cX11_group 27 = .ok (.iconst 0, 1) := @dq_o3 cX11_group 27 (qX11_group_1 11 3 rfl)
theorem dX11_group_28 : decode cX11_group 28 = .ok (.ireturn, 1) := @dq_o172 cX11_group 28 (qX11_group_1 12 172 rfl)
theorem dX11_group_29 : decode cX11_group 29 = .ok (.aload_n 0, 1) := @dq_o42 cX11_group 29 (qX11_group_1 13 42 rfl)
theorem dX11_group_30 : decode cX11_group 30 = .ok (.invokevirtual 109, 3) := @dq_o182 cX11_group 30 0 109 (qX11_group_1 14 182 rfl) (qX11_group_1 15 0 rfl) (qX11_group_2 0 109 rfl)
theorem dX11_group_33 : decode cX11_group 33 = .ok (.aload_n 0, 1) := @dq_o42 cX11_group 33 (qX11_group_2 1 42 rfl)
theorem dX11_group_34 : decode cX11_group 34 = .ok (.iload_n 1, 1) := @dq_o27 cX11_group 34 (qX11_group_2 2 27 rfl)
theorem dX11_group_35 : decode cX11_group 35 = .ok (.invokevirtual 76, 3) := @dq_o182 cX11_group 35 0 76 (qX11_group_2 3 182 rfl) (qX11_group_2 4 0 rfl) (qX11_group_2 5 76 rfl)
theorem dX11_group_38 : decode cX11_group 38 = .ok (.iconst 0, 1) := @dq_o3 cX11_group 38 (qX11_group_2 6 3 rfl)
theorem dX11_group_39 : decode cX11_group 39 = .ok (.istore_n 3, 1) := @dq_o62 cX11_group 39 (qX11_group_2 7 62 rfl)
theorem dX11_group_40 : decode cX11_group 40 = .ok (.iload_n 3, 1) := @dq_o29 cX11_group 40 (qX11_group_2 8 29 rfl)
theorem dX11_group_41 : decode cX11_group 41 = .ok (.iload_n 1, 1) := @dq_o27 cX11_group 41 (qX11_group_2 9 27 rfl)
theorem dX11_group_42 : decode cX11_group 42 = .ok (.if_icmp .ge 24, 3) := @dq_o162 cX11_group 42 0 24 (qX11_group_2 10 162 rfl) (qX11_group_2 11 0 rfl) (qX11_group_2 12 24 rfl)
theorem dX11_group_45 : decode cX11_group 45 = .ok (.aload_n 0, 1) := @dq_o42 cX11_group 45 (qX11_group_2 13 42 rfl)
theorem dX11_group_46 : decode cX11_group 46 = .ok (.getfield 13, 3) := @dq_o180 cX11_group 46 0 13 (qX11_group_2 14 180 rfl) (qX11_group_2 15 0 rfl) (qX11_group_3 0 13 rfl)
theorem dX11_group_49 : decode cX11_group 49 = .ok (.iconst 1, 1) := @dq_o4 cX11_group 49 (qX11_group_3 1 4 rfl)
theorem dX11_group_50 : decode cX11_group 50 = .ok (.iload_n 3, 1) := @dq_o29 cX11_group 50 (qX11_group_3 2 29 rfl)
theorem dX11_group_51 : decode cX11_group 51 = .ok (.iadd, 1) := @dq_o96 cX11_group 51 (qX11_group_3 3 96 rfl)
theorem dX11_group_52 : decode cX11_group 52 = .ok (.iload_n 2, 1) := @dq_o28 cX11_group 52 (qX11_group_3 4 28 rfl)
theorem dX11_group_53 : decode cX11_group 53 = .ok (.iconst 2, 1) := @dq_o5 cX11_group 53 (qX11_group_3 5 5 rfl)
theorem dX11_group_54 : decode cX11_group 54 = .ok (.iload_n 3, 1) := @dq_o29 cX11_group 54 (qX11_group_3 6 29 rfl)
theorem dX11_group_55 : decode cX11_group 55 = .ok (.imul, 1) := @dq_o104 cX11_group 55 (qX11_group_3 7 104 rfl)
theorem dX11_group_56 : decode cX11_group 56 = .ok (.ishr, 1) := @dq_o122 cX11_group 56 (qX11_group_3 8 122 rfl)
theorem dX11_group_57 : decode cX11_group 57 = .ok (.iconst 3, 1) := @dq_o6 cX11_group 57 (qX11_group_3 9 6 rfl)
theorem dX11_group_58 : decode cX11_group 58 = .ok (.iand, 1) := @dq_o126 cX11_group 58 (qX11_group_3 10 126 rfl)
theorem dX11_group_59 : decode cX11_group 59 = .ok (.iastore, 1) := @dq_o79 cX11_group 59 (qX11_group_3 11 79 rfl)
theorem dX11_group_60 : decode cX11_group 60 = .ok (.iinc 3 1, 3) := @dq_o132 cX11_group 60 3 1 (qX11_group_3 12 132 rfl) (qX11_group_3 13 3 rfl) (qX11_group_3 14 1 rfl)
theorem dX11_group_63 : decode cX11_group 63 = .ok (.goto (-23), 3) := @dq_o167 cX11_group 63 255 233 (qX11_group_3 15 167 rfl) (qX11_group_4 0 255 rfl) (qX11_group_4 1 233 rfl)
theorem dX11_group_66 : decode cX11_group 66 = .ok (.iconst 1, 1) := @dq_o4 cX11_group 66 (qX11_group_4 2 4 rfl)
theorem dX11_group_67 : decode cX11_group 67 = .ok (.ireturn, 1) := @dq_o172 cX11_group 67 (qX11_group_4 3 172 rfl)
abbrev qaX11_areWeights_0 : List Nat := [42, 28, 133, 9, 20, 0, 112, 182, 0, 101, 154, 0, 5, 3, 172, 4]
abbrev qaX11_areWeights_1 : List Nat := [62, 3, 54, 4, 21, 4, 16, 6, 162, 0, 44, 28, 5, 21, 4, 104]
abbrev qaX11_areWeights_2 : List Nat := [122, 6, 126, 54, 5, 21, 4, 27, 162, 0, 12, 21, 5, 29, 162, 0]
abbrev qaX11_areWeights_3 : List Nat := [13, 167, 0, 8, 21, 5, 158, 0, 5, 3, 172, 21, 5, 62, 132, 4]
abbrev qaX11_areWeights_4 : List Nat := [1, 167, 255, 211, 4, 172]
def qtX11_areWeights_5 : List Nat := []
def qtX11_areWeights_4 : List Nat := qaX11_areWeights_4 ++ qtX11_areWeights_5
def qtX11_areWeights_3 : List Nat := qaX11_areWeights_3 ++ qtX11_areWeights_4
def qtX11_areWeights_2 : List Nat := qaX11_areWeights_2 ++ qtX11_areWeights_3
def qtX11_areWeights_1 : List Nat := qaX11_areWeights_1 ++ qtX11_areWeights_2
def qtX11_areWeights_0 : List Nat := qaX11_areWeights_0 ++ qtX11_areWeights_1
theorem qeX11_areWeights : cX11_areWeights.data.toList.map UInt8.toNat = qtX11_areWeights_0 := by decide +kernel
theorem qsX11_areWeights_0 : ∀ i, dqNth qtX11_areWeights_0 (0 + i) = dqNth qtX11_areWeights_0 i := fun i => by rw [Nat.zero_add]
theorem qsX11_areWeights_1 : ∀ i, dqNth qtX11_areWeights_0 (16 + i) = dqNth qtX11_areWeights_1 i := dq_step qsX11_areWeights_0 rfl rfl
theorem qsX11_areWeights_2 : ∀ i, dqNth qtX11_areWeights_0 (32 + i) = dqNth qtX11_areWeights_2 i := dq_step qsX11_areWeights_1 rfl rfl
theorem qsX11_areWeights_3 : ∀ i, dqNth qtX11_areWeights_0 (48 + i) = dqNth qtX11_areWeights_3 i := dq_step qsX11_areWeights_2 rfl rfl
theorem qsX11_areWeights_4 : ∀ i, dqNth qtX11_areWeights_0 (64 + i) = dqNth qtX11_areWeights_4 i := dq_step qsX11_areWeights_3 rfl rfl
theorem qX11_areWeights_0 (i b : Nat) (h : dqNth qaX11_areWeights_0 i = some b) : DqBy cX11_areWeights (0 + i) b := dqBy_of qeX11_areWeights ((qsX11_areWeights_0 i).trans (dq_in h))
theorem qX11_areWeights_1 (i b : Nat) (h : dqNth qaX11_areWeights_1 i = some b) : DqBy cX11_areWeights (16 + i) b := dqBy_of qeX11_areWeights ((qsX11_areWeights_1 i).trans (dq_in h))
theorem qX11_areWeights_2 (i b : Nat) (h : dqNth qaX11_areWeights_2 i = some b) : DqBy cX11_areWeights (32 + i) b := dqBy_of qeX11_areWeights ((qsX11_areWeights_2 i).trans (dq_in h))
theorem qX11_areWeights_3 (i b : Nat) (h : dqNth qaX11_areWeights_3 i = some b) : DqBy cX11_areWeights (48 + i) b := dqBy_of qeX11_areWeights ((qsX11_areWeights_3 i).trans (dq_in h))
theorem qX11_areWeights_4 (i b : Nat) (h : dqNth qaX11_areWeights_4 i = some b) : DqBy cX11_areWeights (64 + i) b := dqBy_of qeX11_areWeights ((qsX11_areWeights_4 i).trans (dq_in h))
theorem dX11_areWeights_0 : decode cX11_areWeights 0 = .ok (.aload_n 0, 1) := @dq_o42 cX11_areWeights 0 (qX11_areWeights_0 0 42 rfl)
theorem dX11_areWeights_1 : decode cX11_areWeights 1 = .ok (.iload_n 2, 1) := @dq_o28 cX11_areWeights 1 (qX11_areWeights_0 1 28 rfl)
theorem dX11_areWeights_2 : decode cX11_areWeights 2 = .ok (.i2l, 1) := @dq_o133 cX11_areWeights 2 (qX11_areWeights_0 2 133 rfl)
theorem dX11_areWeights_3 : decode cX11_areWeights 3 = .ok (.lconst 0, 1) := @dq_o9 cX11_areWeights 3 (qX11_areWeights_0 3 9 rfl)
theorem dX11_areWeights_4 : decode cX11_areWeights 4 = .ok (.ldc2_w 112, 3) := @dq_o20 cX11_areWeights 4 0 112 (qX11_areWeights_0 4 20 rfl) (qX11_areWeights_0 5 0 rfl) (qX11_areWeights_0 6 112 rfl)
theorem dX11_areWeights_7 : decode cX11_areWeights 7 = .ok (.invokevirtual 101, 3) := @dq_o182 cX11_areWeights 7 0 101 (qX11_areWeights_0 7 182 rfl) (qX11_areWeights_0 8 0 rfl) (qX11_areWeights_0 9 101 rfl)
theorem dX11_areWeights_10 : decode cX11_areWeights 10 = .ok (.ifCond .ne 5, 3) := @dq_o154 cX11_areWeights 10 0 5 (qX11_areWeights_0 10 154 rfl) (qX11_areWeights_0 11 0 rfl) (qX11_areWeights_0 12 5 rfl)
theorem dX11_areWeights_13 : decode cX11_areWeights 13 = .ok (.iconst 0, 1) := @dq_o3 cX11_areWeights 13 (qX11_areWeights_0 13 3 rfl)
theorem dX11_areWeights_14 : decode cX11_areWeights 14 = .ok (.ireturn, 1) := @dq_o172 cX11_areWeights 14 (qX11_areWeights_0 14 172 rfl)
theorem dX11_areWeights_15 : decode cX11_areWeights 15 = .ok (.iconst 1, 1) := @dq_o4 cX11_areWeights 15 (qX11_areWeights_0 15 4 rfl)
theorem dX11_areWeights_16 : decode cX11_areWeights 16 = .ok (.istore_n 3, 1) := @dq_o62 cX11_areWeights 16 (qX11_areWeights_1 0 62 rfl)
theorem dX11_areWeights_17 : decode cX11_areWeights 17 = .ok (.iconst 0, 1) := @dq_o3 cX11_areWeights 17 (qX11_areWeights_1 1 3 rfl)
theorem dX11_areWeights_18 : decode cX11_areWeights 18 = .ok (.istore 4, 2) := @dq_o54 cX11_areWeights 18 4 (qX11_areWeights_1 2 54 rfl) (qX11_areWeights_1 3 4 rfl)
theorem dX11_areWeights_20 : decode cX11_areWeights 20 = .ok (.iload 4, 2) := @dq_o21 cX11_areWeights 20 4 (qX11_areWeights_1 4 21 rfl) (qX11_areWeights_1 5 4 rfl)
theorem dX11_areWeights_22 : decode cX11_areWeights 22 = .ok (.bipush 6, 2) := @dq_o16 cX11_areWeights 22 6 (qX11_areWeights_1 6 16 rfl) (qX11_areWeights_1 7 6 rfl)
theorem dX11_areWeights_24 : decode cX11_areWeights 24 = .ok (.if_icmp .ge 44, 3) := @dq_o162 cX11_areWeights 24 0 44 (qX11_areWeights_1 8 162 rfl) (qX11_areWeights_1 9 0 rfl) (qX11_areWeights_1 10 44 rfl)
theorem dX11_areWeights_27 : decode cX11_areWeights 27 = .ok (.iload_n 2, 1) := @dq_o28 cX11_areWeights 27 (qX11_areWeights_1 11 28 rfl)
theorem dX11_areWeights_28 : decode cX11_areWeights 28 = .ok (.iconst 2, 1) := @dq_o5 cX11_areWeights 28 (qX11_areWeights_1 12 5 rfl)
theorem dX11_areWeights_29 : decode cX11_areWeights 29 = .ok (.iload 4, 2) := @dq_o21 cX11_areWeights 29 4 (qX11_areWeights_1 13 21 rfl) (qX11_areWeights_1 14 4 rfl)
theorem dX11_areWeights_31 : decode cX11_areWeights 31 = .ok (.imul, 1) := @dq_o104 cX11_areWeights 31 (qX11_areWeights_1 15 104 rfl)
theorem dX11_areWeights_32 : decode cX11_areWeights 32 = .ok (.ishr, 1) := @dq_o122 cX11_areWeights 32 (qX11_areWeights_2 0 122 rfl)
theorem dX11_areWeights_33 : decode cX11_areWeights 33 = .ok (.iconst 3, 1) := @dq_o6 cX11_areWeights 33 (qX11_areWeights_2 1 6 rfl)
theorem dX11_areWeights_34 : decode cX11_areWeights 34 = .ok (.iand, 1) := @dq_o126 cX11_areWeights 34 (qX11_areWeights_2 2 126 rfl)
theorem dX11_areWeights_35 : decode cX11_areWeights 35 = .ok (.istore 5, 2) := @dq_o54 cX11_areWeights 35 5 (qX11_areWeights_2 3 54 rfl) (qX11_areWeights_2 4 5 rfl)
theorem dX11_areWeights_37 : decode cX11_areWeights 37 = .ok (.iload 4, 2) := @dq_o21 cX11_areWeights 37 4 (qX11_areWeights_2 5 21 rfl) (qX11_areWeights_2 6 4 rfl)
theorem dX11_areWeights_39 : decode cX11_areWeights 39 = .ok (.iload_n 1, 1) := @dq_o27 cX11_areWeights 39 (qX11_areWeights_2 7 27 rfl)
theorem dX11_areWeights_40 : decode cX11_areWeights 40 = .ok (.if_icmp .ge 12, 3) := @dq_o162 cX11_areWeights 40 0 12 (qX11_areWeights_2 8 162 rfl) (qX11_areWeights_2 9 0 rfl) (qX11_areWeights_2 10 12 rfl)
theorem dX11_areWeights_43 : decode cX11_areWeights 43 = .ok (.iload 5, 2) := @dq_o21 cX11_areWeights 43 5 (qX11_areWeights_2 11 21 rfl) (qX11_areWeights_2 12 5 rfl)
theorem dX11_areWeights_45 : decode cX11_areWeights 45 = .ok (.iload_n 3, 1) := @dq_o29 cX11_areWeights 45 (qX11_areWeights_2 13 29 rfl)
theorem dX11_areWeights_46 : decode cX11_areWeights 46 = .ok (.if_icmp .ge 13, 3) := @dq_o162 cX11_areWeights 46 0 13 (qX11_areWeights_2 14 162 rfl) (qX11_areWeights_2 15 0 rfl) (qX11_areWeights_3 0 13 rfl)
theorem dX11_areWeights_49 : decode cX11_areWeights 49 = .ok (.goto 8, 3) := @dq_o167 cX11_areWeights 49 0 8 (qX11_areWeights_3 1 167 rfl) (qX11_areWeights_3 2 0 rfl) (qX11_areWeights_3 3 8 rfl)
theorem dX11_areWeights_52 : decode cX11_areWeights 52 = .ok (.iload 5, 2) := @dq_o21 cX11_areWeights 52 5 (qX11_areWeights_3 4 21 rfl) (qX11_areWeights_3 5 5 rfl)
theorem dX11_areWeights_54 : decode cX11_areWeights 54 = .ok (.ifCond .le 5, 3) := @dq_o158 cX11_areWeights 54 0 5 (qX11_areWeights_3 6 158 rfl) (qX11_areWeights_3 7 0 rfl) (qX11_areWeights_3 8 5 rfl)
theorem dX11_areWeights_57 : decode cX11_areWeights 57 = .ok (.iconst 0, 1) := @dq_o3 cX11_areWeights 57 (qX11_areWeights_3 9 3 rfl)
theorem dX11_areWeights_58 : decode cX11_areWeights 58 = .ok (.ireturn, 1) := @dq_o172 cX11_areWeights 58 (qX11_areWeights_3 10 172 rfl)
theorem dX11_areWeights_59 : decode cX11_areWeights 59 = .ok (.iload 5, 2) := @dq_o21 cX11_areWeights 59 5 (qX11_areWeights_3 11 21 rfl) (qX11_areWeights_3 12 5 rfl)
theorem dX11_areWeights_61 : decode cX11_areWeights 61 = .ok (.istore_n 3, 1) := @dq_o62 cX11_areWeights 61 (qX11_areWeights_3 13 62 rfl)
theorem dX11_areWeights_62 : decode cX11_areWeights 62 = .ok (.iinc 4 1, 3) := @dq_o132 cX11_areWeights 62 4 1 (qX11_areWeights_3 14 132 rfl) (qX11_areWeights_3 15 4 rfl) (qX11_areWeights_4 0 1 rfl)
theorem dX11_areWeights_65 : decode cX11_areWeights 65 = .ok (.goto (-45), 3) := @dq_o167 cX11_areWeights 65 255 211 (qX11_areWeights_4 1 167 rfl) (qX11_areWeights_4 2 255 rfl) (qX11_areWeights_4 3 211 rfl)
theorem dX11_areWeights_68 : decode cX11_areWeights 68 = .ok (.iconst 1, 1) := @dq_o4 cX11_areWeights 68 (qX11_areWeights_4 4 4 rfl)
theorem dX11_areWeights_69 : decode cX11_areWeights 69 = .ok (.ireturn, 1) := @dq_o172 cX11_areWeights 69 (qX11_areWeights_4 5 172 rfl)
abbrev qaX11_isTail_0 : List Nat := [42, 28, 133, 10, 42, 182, 0, 88, 133, 182, 0, 101, 153, 0, 43, 42]
abbrev qaX11_isTail_1 : List Nat := [27, 133, 28, 133, 10, 97, 42, 182, 0, 88, 133, 182, 0, 101, 153, 0]
abbrev qaX11_isTail_2 : List Nat := [25, 42, 29, 133, 27, 133, 10, 97, 42, 182, 0, 88, 133, 182, 0, 101]
abbrev qaX11_isTail_3 : List Nat := [153, 0, 7, 4, 167, 0, 4, 3, 172]
def qtX11_isTail_4 : List Nat := []
def qtX11_isTail_3 : List Nat := qaX11_isTail_3 ++ qtX11_isTail_4
def qtX11_isTail_2 : List Nat := qaX11_isTail_2 ++ qtX11_isTail_3
def qtX11_isTail_1 : List Nat := qaX11_isTail_1 ++ qtX11_isTail_2
def qtX11_isTail_0 : List Nat := qaX11_isTail_0 ++ qtX11_isTail_1
theorem qeX11_isTail : cX11_isTail.data.toList.map UInt8.toNat = qtX11_isTail_0 := by decide +kernel
theorem qsX11_isTail_0 : ∀ i, dqNth qtX11_isTail_0 (0 + i) = dqNth qtX11_isTail_0 i := fun i => by rw [Nat.zero_add]
theorem qsX11_isTail_1 : ∀ i, dqNth qtX11_isTail_0 (16 + i) = dqNth qtX11_isTail_1 i := dq_step qsX11_isTail_0 rfl rfl
theorem qsX11_isTail_2 : ∀ i, dqNth qtX11_isTail_0 (32 + i) = dqNth qtX11_isTail_2 i := dq_step qsX11_isTail_1 rfl rfl
theorem qsX11_isTail_3 : ∀ i, dqNth qtX11_isTail_0 (48 + i) = dqNth qtX11_isTail_3 i := dq_step qsX11_isTail_2 rfl rfl
theorem qX11_isTail_0 (i b : Nat) (h : dqNth qaX11_isTail_0 i = some b) : DqBy cX11_isTail (0 + i) b := dqBy_of qeX11_isTail ((qsX11_isTail_0 i).trans (dq_in h))
theorem qX11_isTail_1 (i b : Nat) (h : dqNth qaX11_isTail_1 i = some b) : DqBy cX11_isTail (16 + i) b := dqBy_of qeX11_isTail ((qsX11_isTail_1 i).trans (dq_in h))
theorem qX11_isTail_2 (i b : Nat) (h : dqNth qaX11_isTail_2 i = some b) : DqBy cX11_isTail (32 + i) b := dqBy_of qeX11_isTail ((qsX11_isTail_2 i).trans (dq_in h))
theorem qX11_isTail_3 (i b : Nat) (h : dqNth qaX11_isTail_3 i = some b) : DqBy cX11_isTail (48 + i) b := dqBy_of qeX11_isTail ((qsX11_isTail_3 i).trans (dq_in h))
theorem dX11_isTail_0 : decode cX11_isTail 0 = .ok (.aload_n 0, 1) := @dq_o42 cX11_isTail 0 (qX11_isTail_0 0 42 rfl)
theorem dX11_isTail_1 : decode cX11_isTail 1 = .ok (.iload_n 2, 1) := @dq_o28 cX11_isTail 1 (qX11_isTail_0 1 28 rfl)
theorem dX11_isTail_2 : decode cX11_isTail 2 = .ok (.i2l, 1) := @dq_o133 cX11_isTail 2 (qX11_isTail_0 2 133 rfl)
theorem dX11_isTail_3 : decode cX11_isTail 3 = .ok (.lconst 1, 1) := @dq_o10 cX11_isTail 3 (qX11_isTail_0 3 10 rfl)
theorem dX11_isTail_4 : decode cX11_isTail 4 = .ok (.aload_n 0, 1) := @dq_o42 cX11_isTail 4 (qX11_isTail_0 4 42 rfl)
theorem dX11_isTail_5 : decode cX11_isTail 5 = .ok (.invokevirtual 88, 3) := @dq_o182 cX11_isTail 5 0 88 (qX11_isTail_0 5 182 rfl) (qX11_isTail_0 6 0 rfl) (qX11_isTail_0 7 88 rfl)
theorem dX11_isTail_8 : decode cX11_isTail 8 = .ok (.i2l, 1) := @dq_o133 cX11_isTail 8 (qX11_isTail_0 8 133 rfl)
theorem dX11_isTail_9 : decode cX11_isTail 9 = .ok (.invokevirtual 101, 3) := @dq_o182 cX11_isTail 9 0 101 (qX11_isTail_0 9 182 rfl) (qX11_isTail_0 10 0 rfl) (qX11_isTail_0 11 101 rfl)
theorem dX11_isTail_12 : decode cX11_isTail 12 = .ok (.ifCond .eq 43, 3) := @dq_o153 cX11_isTail 12 0 43 (qX11_isTail_0 12 153 rfl) (qX11_isTail_0 13 0 rfl) (qX11_isTail_0 14 43 rfl)
theorem dX11_isTail_15 : decode cX11_isTail 15 = .ok (.aload_n 0, 1) := @dq_o42 cX11_isTail 15 (qX11_isTail_0 15 42 rfl)
theorem dX11_isTail_16 : decode cX11_isTail 16 = .ok (.iload_n 1, 1) := @dq_o27 cX11_isTail 16 (qX11_isTail_1 0 27 rfl)
theorem dX11_isTail_17 : decode cX11_isTail 17 = .ok (.i2l, 1) := @dq_o133 cX11_isTail 17 (qX11_isTail_1 1 133 rfl)
theorem dX11_isTail_18 : decode cX11_isTail 18 = .ok (.iload_n 2, 1) := @dq_o28 cX11_isTail 18 (qX11_isTail_1 2 28 rfl)
theorem dX11_isTail_19 : decode cX11_isTail 19 = .ok (.i2l, 1) := @dq_o133 cX11_isTail 19 (qX11_isTail_1 3 133 rfl)
theorem dX11_isTail_20 : decode cX11_isTail 20 = .ok (.lconst 1, 1) := @dq_o10 cX11_isTail 20 (qX11_isTail_1 4 10 rfl)
theorem dX11_isTail_21 : decode cX11_isTail 21 = .ok (.ladd, 1) := @dq_o97 cX11_isTail 21 (qX11_isTail_1 5 97 rfl)
theorem dX11_isTail_22 : decode cX11_isTail 22 = .ok (.aload_n 0, 1) := @dq_o42 cX11_isTail 22 (qX11_isTail_1 6 42 rfl)
theorem dX11_isTail_23 : decode cX11_isTail 23 = .ok (.invokevirtual 88, 3) := @dq_o182 cX11_isTail 23 0 88 (qX11_isTail_1 7 182 rfl) (qX11_isTail_1 8 0 rfl) (qX11_isTail_1 9 88 rfl)
theorem dX11_isTail_26 : decode cX11_isTail 26 = .ok (.i2l, 1) := @dq_o133 cX11_isTail 26 (qX11_isTail_1 10 133 rfl)
theorem dX11_isTail_27 : decode cX11_isTail 27 = .ok (.invokevirtual 101, 3) := @dq_o182 cX11_isTail 27 0 101 (qX11_isTail_1 11 182 rfl) (qX11_isTail_1 12 0 rfl) (qX11_isTail_1 13 101 rfl)
theorem dX11_isTail_30 : decode cX11_isTail 30 = .ok (.ifCond .eq 25, 3) := @dq_o153 cX11_isTail 30 0 25 (qX11_isTail_1 14 153 rfl) (qX11_isTail_1 15 0 rfl) (qX11_isTail_2 0 25 rfl)
theorem dX11_isTail_33 : decode cX11_isTail 33 = .ok (.aload_n 0, 1) := @dq_o42 cX11_isTail 33 (qX11_isTail_2 1 42 rfl)
theorem dX11_isTail_34 : decode cX11_isTail 34 = .ok (.iload_n 3, 1) := @dq_o29 cX11_isTail 34 (qX11_isTail_2 2 29 rfl)
theorem dX11_isTail_35 : decode cX11_isTail 35 = .ok (.i2l, 1) := @dq_o133 cX11_isTail 35 (qX11_isTail_2 3 133 rfl)
theorem dX11_isTail_36 : decode cX11_isTail 36 = .ok (.iload_n 1, 1) := @dq_o27 cX11_isTail 36 (qX11_isTail_2 4 27 rfl)
theorem dX11_isTail_37 : decode cX11_isTail 37 = .ok (.i2l, 1) := @dq_o133 cX11_isTail 37 (qX11_isTail_2 5 133 rfl)
theorem dX11_isTail_38 : decode cX11_isTail 38 = .ok (.lconst 1, 1) := @dq_o10 cX11_isTail 38 (qX11_isTail_2 6 10 rfl)
theorem dX11_isTail_39 : decode cX11_isTail 39 = .ok (.ladd, 1) := @dq_o97 cX11_isTail 39 (qX11_isTail_2 7 97 rfl)
theorem dX11_isTail_40 : decode cX11_isTail 40 = .ok (.aload_n 0, 1) := @dq_o42 cX11_isTail 40 (qX11_isTail_2 8 42 rfl)
theorem dX11_isTail_41 : decode cX11_isTail 41 = .ok (.invokevirtual 88, 3) := @dq_o182 cX11_isTail 41 0 88 (qX11_isTail_2 9 182 rfl) (qX11_isTail_2 10 0 rfl) (qX11_isTail_2 11 88 rfl)
theorem dX11_isTail_44 : decode cX11_isTail 44 = .ok (.i2l, 1) := @dq_o133 cX11_isTail 44 (qX11_isTail_2 12 133 rfl)
theorem dX11_isTail_45 : decode cX11_isTail 45 = .ok (.invokevirtual 101, 3) := @dq_o182 cX11_isTail 45 0 101 (qX11_isTail_2 13 182 rfl) (qX11_isTail_2 14 0 rfl) (qX11_isTail_2 15 101 rfl)
theorem dX11_isTail_48 : decode cX11_isTail 48 = .ok (.ifCond .eq 7, 3) := @dq_o153 cX11_isTail 48 0 7 (qX11_isTail_3 0 153 rfl) (qX11_isTail_3 1 0 rfl) (qX11_isTail_3 2 7 rfl)
theorem dX11_isTail_51 : decode cX11_isTail 51 = .ok (.iconst 1, 1) := @dq_o4 cX11_isTail 51 (qX11_isTail_3 3 4 rfl)
theorem dX11_isTail_52 : decode cX11_isTail 52 = .ok (.goto 4, 3) := @dq_o167 cX11_isTail 52 0 4 (qX11_isTail_3 4 167 rfl) (qX11_isTail_3 5 0 rfl) (qX11_isTail_3 6 4 rfl)
theorem dX11_isTail_55 : decode cX11_isTail 55 = .ok (.iconst 0, 1) := @dq_o3 cX11_isTail 55 (qX11_isTail_3 7 3 rfl)
theorem dX11_isTail_56 : decode cX11_isTail 56 = .ok (.ireturn, 1) := @dq_o172 cX11_isTail 56 (qX11_isTail_3 8 172 rfl)
abbrev qaX11_tail__0 : List Nat := [42, 3, 181, 0, 1, 42, 27, 28, 29, 182, 0, 114, 153, 0, 47, 42]
abbrev qaX11_tail__1 : List Nat := [21, 4, 133, 9, 20, 0, 118, 182, 0, 101, 153, 0, 33, 21, 4, 158]
abbrev qaX11_tail__2 : List Nat := [0, 30, 42, 29, 4, 100, 182, 0, 92, 42, 28, 4, 100, 182, 0, 92]
abbrev qaX11_tail__3 : List Nat := [42, 27, 4, 100, 182, 0, 92, 96, 162, 0, 5, 3, 172, 42, 182, 0]
abbrev qaX11_tail__4 : List Nat := [109, 42, 182, 0, 120, 42, 27, 4, 100, 28, 4, 100, 29, 4, 100, 21]
abbrev qaX11_tail__5 : List Nat := [4, 182, 0, 80, 4, 172]
def qtX11_tail__6 : List Nat := []
def qtX11_tail__5 : List Nat := qaX11_tail__5 ++ qtX11_tail__6
def qtX11_tail__4 : List Nat := qaX11_tail__4 ++ qtX11_tail__5
def qtX11_tail__3 : List Nat := qaX11_tail__3 ++ qtX11_tail__4
def qtX11_tail__2 : List Nat := qaX11_tail__2 ++ qtX11_tail__3
def qtX11_tail__1 : List Nat := qaX11_tail__1 ++ qtX11_tail__2
def qtX11_tail__0 : List Nat := qaX11_tail__0 ++ qtX11_tail__1
theorem qeX11_tail_ : cX11_tail_.data.toList.map UInt8.toNat = qtX11_tail__0 := by decide +kernel
theorem qsX11_tail__0 : ∀ i, dqNth qtX11_tail__0 (0 + i) = dqNth qtX11_tail__0 i := fun i => by rw [Nat.zero_add]
theorem qsX11_tail__1 : ∀ i, dqNth qtX11_tail__0 (16 + i) = dqNth qtX11_tail__1 i := dq_step qsX11_tail__0 rfl rfl
theorem qsX11_tail__2 : ∀ i, dqNth qtX11_tail__0 (32 + i) = dqNth qtX11_tail__2 i := dq_step qsX11_tail__1 rfl rfl
theorem qsX11_tail__3 : ∀ i, dqNth qtX11_tail__0 (48 + i) = dqNth qtX11_tail__3 i := dq_step qsX11_tail__2 rfl rfl
theorem qsX11_tail__4 : ∀ i, dqNth qtX11_tail__0 (64 + i) = dqNth qtX11_tail__4 i := dq_step qsX11_tail__3 rfl rfl
theorem qsX11_tail__5 : ∀ i, dqNth qtX11_tail__0 (80 + i) = dqNth qtX11_tail__5 i := dq_step qsX11_tail__4 rfl rfl
theorem qX11_tail__0 (i b : Nat) (h : dqNth qaX11_tail__0 i = some b) : DqBy cX11_tail_ (0 + i) b := dqBy_of qeX11_tail_ ((qsX11_tail__0 i).trans (dq_in h))
theorem qX11_tail__1 (i b : Nat) (h : dqNth qaX11_tail__1 i = some b) : DqBy cX11_tail_ (16 + i) b := dqBy_of qeX11_tail_ ((qsX11_tail__1 i).trans (dq_in h))
theorem qX11_tail__2 (i b : Nat) (h : dqNth qaX11_tail__2 i = some b) : DqBy cX11_tail_ (32 + i) b := dqBy_of qeX11_tail_ ((qsX11_tail__2 i).trans (dq_in h))
theorem qX11_tail__3 (i b : Nat) (h : dqNth qaX11_tail__3 i = some b) : DqBy cX11_tail_ (48 + i) b := dqBy_of qeX11_tail_ ((qsX11_tail__3 i).trans (dq_in h))
theorem qX11_tail__4 (i b : Nat) (h : dqNth qaX11_tail__4 i = some b) : DqBy cX11_tail_ (64 + i) b := dqBy_of qeX11_tail_ ((qsX11_tail__4 i).trans (dq_in h))
theorem qX11_tail__5 (i b : Nat) (h : dqNth qaX11_tail__5 i = some b) : DqBy cX11_tail_ (80 + i) b := dqBy_of qeX11_tail_ ((qsX11_tail__5 i).trans (dq_in h))
theorem dX11_tail__0 : decode cX11_tail_ 0 = .ok (.aload_n 0, 1) := @dq_o42 cX11_tail_ 0 (qX11_tail__0 0 42 rfl)
theorem dX11_tail__1 : decode cX11_tail_ 1 = .ok (.iconst 0, 1) := @dq_o3 cX11_tail_ 1 (qX11_tail__0 1 3 rfl)
theorem dX11_tail__2 : decode cX11_tail_ 2 = .ok (.putfield 1, 3) := @dq_o181 cX11_tail_ 2 0 1 (qX11_tail__0 2 181 rfl) (qX11_tail__0 3 0 rfl) (qX11_tail__0 4 1 rfl)
theorem dX11_tail__5 : decode cX11_tail_ 5 = .ok (.aload_n 0, 1) := @dq_o42 cX11_tail_ 5 (qX11_tail__0 5 42 rfl)
theorem dX11_tail__6 : decode cX11_tail_ 6 = .ok (.iload_n 1, 1) := @dq_o27 cX11_tail_ 6 (qX11_tail__0 6 27 rfl)
theorem dX11_tail__7 : decode cX11_tail_ 7 = .ok (.iload_n 2, 1) := @dq_o28 cX11_tail_ 7 (qX11_tail__0 7 28 rfl)
theorem dX11_tail__8 : decode cX11_tail_ 8 = .ok (.iload_n 3, 1) := @dq_o29 cX11_tail_ 8 (qX11_tail__0 8 29 rfl)
theorem dX11_tail__9 : decode cX11_tail_ 9 = .ok (.invokevirtual 114, 3) := @dq_o182 cX11_tail_ 9 0 114 (qX11_tail__0 9 182 rfl) (qX11_tail__0 10 0 rfl) (qX11_tail__0 11 114 rfl)
theorem dX11_tail__12 : decode cX11_tail_ 12 = .ok (.ifCond .eq 47, 3) := @dq_o153 cX11_tail_ 12 0 47 (qX11_tail__0 12 153 rfl) (qX11_tail__0 13 0 rfl) (qX11_tail__0 14 47 rfl)
theorem dX11_tail__15 : decode cX11_tail_ 15 = .ok (.aload_n 0, 1) := @dq_o42 cX11_tail_ 15 (qX11_tail__0 15 42 rfl)
theorem dX11_tail__16 : decode cX11_tail_ 16 = .ok (.iload 4, 2) := @dq_o21 cX11_tail_ 16 4 (qX11_tail__1 0 21 rfl) (qX11_tail__1 1 4 rfl)
theorem dX11_tail__18 : decode cX11_tail_ 18 = .ok (.i2l, 1) := @dq_o133 cX11_tail_ 18 (qX11_tail__1 2 133 rfl)
theorem dX11_tail__19 : decode cX11_tail_ 19 = .ok (.lconst 0, 1) := @dq_o9 cX11_tail_ 19 (qX11_tail__1 3 9 rfl)
theorem dX11_tail__20 : decode cX11_tail_ 20 = .ok (.ldc2_w 118, 3) := @dq_o20 cX11_tail_ 20 0 118 (qX11_tail__1 4 20 rfl) (qX11_tail__1 5 0 rfl) (qX11_tail__1 6 118 rfl)
theorem dX11_tail__23 : decode cX11_tail_ 23 = .ok (.invokevirtual 101, 3) := @dq_o182 cX11_tail_ 23 0 101 (qX11_tail__1 7 182 rfl) (qX11_tail__1 8 0 rfl) (qX11_tail__1 9 101 rfl)
theorem dX11_tail__26 : decode cX11_tail_ 26 = .ok (.ifCond .eq 33, 3) := @dq_o153 cX11_tail_ 26 0 33 (qX11_tail__1 10 153 rfl) (qX11_tail__1 11 0 rfl) (qX11_tail__1 12 33 rfl)
theorem dX11_tail__29 : decode cX11_tail_ 29 = .ok (.iload 4, 2) := @dq_o21 cX11_tail_ 29 4 (qX11_tail__1 13 21 rfl) (qX11_tail__1 14 4 rfl)
theorem dX11_tail__31 : decode cX11_tail_ 31 = .ok (.ifCond .le 30, 3) := @dq_o158 cX11_tail_ 31 0 30 (qX11_tail__1 15 158 rfl) (qX11_tail__2 0 0 rfl) (qX11_tail__2 1 30 rfl)
theorem dX11_tail__34 : decode cX11_tail_ 34 = .ok (.aload_n 0, 1) := @dq_o42 cX11_tail_ 34 (qX11_tail__2 2 42 rfl)
theorem dX11_tail__35 : decode cX11_tail_ 35 = .ok (.iload_n 3, 1) := @dq_o29 cX11_tail_ 35 (qX11_tail__2 3 29 rfl)
theorem dX11_tail__36 : decode cX11_tail_ 36 = .ok (.iconst 1, 1) := @dq_o4 cX11_tail_ 36 (qX11_tail__2 4 4 rfl)
theorem dX11_tail__37 : decode cX11_tail_ 37 = .ok (.isub, 1) := @dq_o100 cX11_tail_ 37 (qX11_tail__2 5 100 rfl)
theorem dX11_tail__38 : decode cX11_tail_ 38 = .ok (.invokevirtual 92, 3) := @dq_o182 cX11_tail_ 38 0 92 (qX11_tail__2 6 182 rfl) (qX11_tail__2 7 0 rfl) (qX11_tail__2 8 92 rfl)
theorem dX11_tail__41 : decode cX11_tail_ 41 = .ok (.aload_n 0, 1) := @dq_o42 cX11_tail_ 41 (qX11_tail__2 9 42 rfl)
theorem dX11_tail__42 : decode cX11_tail_ 42 = .ok (.iload_n 2, 1) := @dq_o28 cX11_tail_ 42 (qX11_tail__2 10 28 rfl)
theorem dX11_tail__43 : decode cX11_tail_ 43 = .ok (.iconst 1, 1) := @dq_o4 cX11_tail_ 43 (qX11_tail__2 11 4 rfl)
theorem dX11_tail__44 : decode cX11_tail_ 44 = .ok (.isub, 1) := @dq_o100 cX11_tail_ 44 (qX11_tail__2 12 100 rfl)
theorem dX11_tail__45 : decode cX11_tail_ 45 = .ok (.invokevirtual 92, 3) := @dq_o182 cX11_tail_ 45 0 92 (qX11_tail__2 13 182 rfl) (qX11_tail__2 14 0 rfl) (qX11_tail__2 15 92 rfl)
theorem dX11_tail__48 : decode cX11_tail_ 48 = .ok (.aload_n 0, 1) := @dq_o42 cX11_tail_ 48 (qX11_tail__3 0 42 rfl)
theorem dX11_tail__49 : decode cX11_tail_ 49 = .ok (.iload_n 1, 1) := @dq_o27 cX11_tail_ 49 (qX11_tail__3 1 27 rfl)
theorem dX11_tail__50 : decode cX11_tail_ 50 = .ok (.iconst 1, 1) := @dq_o4 cX11_tail_ 50 (qX11_tail__3 2 4 rfl)
theorem dX11_tail__51 : decode cX11_tail_ 51 = .ok (.isub, 1) := @dq_o100 cX11_tail_ 51 (qX11_tail__3 3 100 rfl)
theorem dX11_tail__52 : decode cX11_tail_ 52 = .ok (.invokevirtual 92, 3) := @dq_o182 cX11_tail_ 52 0 92 (qX11_tail__3 4 182 rfl) (qX11_tail__3 5 0 rfl) (qX11_tail__3 6 92 rfl)
theorem dX11_tail__55 : decode cX11_tail_ 55 = .ok (.iadd, 1) := @dq_o96 cX11_tail_ 55 (qX11_tail__3 7 96 rfl)
theorem dX11_tail__56 : decode cX11_tail_ 56 = .ok (.if_icmp .ge 5, 3) := @dq_o162 cX11_tail_ 56 0 5 (qX11_tail__3 8 162 rfl) (qX11_tail__3 9 0 rfl) (qX11_tail__3 10 5 rfl)
theorem dX11_tail__59 : decode cX11_tail_ 59 = .ok (.iconst 0, 1) := @dq_o3 cX11_tail_ 59 (qX11_tail__3 11 3 rfl)
theorem dX11_tail__60 : decode cX11_tail_ 60 = .ok (.ireturn, 1) := @dq_o172 cX11_tail_ 60 (qX11_tail__3 12 172 rfl)
theorem dX11_tail__61 : decode cX11_tail_ 61 = .ok (.aload_n 0, 1) := @dq_o42 cX11_tail_ 61 (qX11_tail__3 13 42 rfl)
theorem dX11_tail__62 : decode cX11_tail_ 62 = .ok (.invokevirtual 109, 3) := @dq_o182 cX11_tail_ 62 0 109 (qX11_tail__3 14 182 rfl) (qX11_tail__3 15 0 rfl) (qX11_tail__4 0 109 rfl)
theorem dX11_tail__65 : decode cX11_tail_ 65 = .ok (.aload_n 0, 1) := @dq_o42 cX11_tail_ 65 (qX11_tail__4 1 42 rfl)
theorem dX11_tail__66 : decode cX11_tail_ 66 = .ok (.invokevirtual 120, 3) := @dq_o182 cX11_tail_ 66 0 120 (qX11_tail__4 2 182 rfl) (qX11_tail__4 3 0 rfl) (qX11_tail__4 4 120 rfl)
theorem dX11_tail__69 : decode cX11_tail_ 69 = .ok (.aload_n 0, 1) := @dq_o42 cX11_tail_ 69 (qX11_tail__4 5 42 rfl)
theorem dX11_tail__70 : decode cX11_tail_ 70 = .ok (.iload_n 1, 1) := @dq_o27 cX11_tail_ 70 (qX11_tail__4 6 27 rfl)
theorem dX11_tail__71 : decode cX11_tail_ 71 = .ok (.iconst 1, 1) := @dq_o4 cX11_tail_ 71 (qX11_tail__4 7 4 rfl)
theorem dX11_tail__72 : decode cX11_tail_ 72 = .ok (.isub, 1) := @dq_o100 cX11_tail_ 72 (qX11_tail__4 8 100 rfl)
theorem dX11_tail__73 : decode cX11_tail_ 73 = .ok (.iload_n 2, 1) := @dq_o28 cX11_tail_ 73 (qX11_tail__4 9 28 rfl)
theorem dX11_tail__74 : decode cX11_tail_ 74 = .ok (.iconst 1, 1) := @dq_o4 cX11_tail_ 74 (qX11_tail__4 10 4 rfl)
theorem dX11_tail__75 : decode cX11_tail_ 75 = .ok (.isub, 1) := @dq_o100 cX11_tail_ 75 (qX11_tail__4 11 100 rfl)
theorem dX11_tail__76 : decode cX11_tail_ 76 = .ok (.iload_n 3, 1) := @dq_o29 cX11_tail_ 76 (qX11_tail__4 12 29 rfl)
theorem dX11_tail__77 : decode cX11_tail_ 77 = .ok (.iconst 1, 1) := @dq_o4 cX11_tail_ 77 (qX11_tail__4 13 4 rfl)
theorem dX11_tail__78 : decode cX11_tail_ 78 = .ok (.isub, 1) := @dq_o100 cX11_tail_ 78 (qX11_tail__4 14 100 rfl)
theorem dX11_tail__79 : decode cX11_tail_ 79 = .ok (.iload 4, 2) := @dq_o21 cX11_tail_ 79 4 (qX11_tail__4 15 21 rfl) (qX11_tail__5 0 4 rfl)
theorem dX11_tail__81 : decode cX11_tail_ 81 = .ok (.invokevirtual 80, 3) := @dq_o182 cX11_tail_ 81 0 80 (qX11_tail__5 1 182 rfl) (qX11_tail__5 2 0 rfl) (qX11_tail__5 3 80 rfl)
theorem dX11_tail__84 : decode cX11_tail_ 84 = .ok (.iconst 1, 1) := @dq_o4 cX11_tail_ 84 (qX11_tail__5 4 4 rfl)
theorem dX11_tail__85 : decode cX11_tail_ 85 = .ok (.ireturn, 1) := @dq_o172 cX11_tail_ 85 (qX11_tail__5 5 172 rfl)
abbrev qaX11_onesAll_0 : List Nat := [17, 0, 223, 60, 27, 17, 1, 27, 162, 0, 16, 42, 180, 0, 13, 27]
abbrev qaX11_onesAll_1 : List Nat := [3, 79, 132, 1, 1, 167, 255, 239, 177]
def qtX11_onesAll_2 : List Nat := []
def qtX11_onesAll_1 : List Nat := qaX11_onesAll_1 ++ qtX11_onesAll_2
def qtX11_onesAll_0 : List Nat := qaX11_onesAll_0 ++ qtX11_onesAll_1
theorem qeX11_onesAll : cX11_onesAll.data.toList.map UInt8.toNat = qtX11_onesAll_0 := by decide +kernel
theorem qsX11_onesAll_0 : ∀ i, dqNth qtX11_onesAll_0 (0 + i) = dqNth qtX11_onesAll_0 i := fun i => by rw [Nat.zero_add]
theorem qsX11_onesAll_1 : ∀ i, dqNth qtX11_onesAll_0 (16 + i) = dqNth qtX11_onesAll_1 i := dq_step qsX11_onesAll_0 rfl rfl
theorem qX11_onesAll_0 (i b : Nat) (h : dqNth qaX11_onesAll_0 i = some b) : DqBy cX11_onesAll (0 + i) b := dqBy_of qeX11_onesAll ((qsX11_onesAll_0 i).trans (dq_in h))
theorem qX11_onesAll_1 (i b : Nat) (h : dqNth qaX11_onesAll_1 i = some b) : DqBy cX11_onesAll (16 + i) b := dqBy_of qeX11_onesAll ((qsX11_onesAll_1 i).trans (dq_in h))
theorem dX11_onesAll_0 : decode cX11_onesAll 0 = .ok (.sipush 223, 3) := @dq_o17 cX11_onesAll 0 0 223 (qX11_onesAll_0 0 17 rfl) (qX11_onesAll_0 1 0 rfl) (qX11_onesAll_0 2 223 rfl)
theorem dX11_onesAll_3 : decode cX11_onesAll 3 = .ok (.istore_n 1, 1) := @dq_o60 cX11_onesAll 3 (qX11_onesAll_0 3 60 rfl)
theorem dX11_onesAll_4 : decode cX11_onesAll 4 = .ok (.iload_n 1, 1) := @dq_o27 cX11_onesAll 4 (qX11_onesAll_0 4 27 rfl)
theorem dX11_onesAll_5 : decode cX11_onesAll 5 = .ok (.sipush 283, 3) := @dq_o17 cX11_onesAll 5 1 27 (qX11_onesAll_0 5 17 rfl) (qX11_onesAll_0 6 1 rfl) (qX11_onesAll_0 7 27 rfl)
theorem dX11_onesAll_8 : decode cX11_onesAll 8 = .ok (.if_icmp .ge 16, 3) := @dq_o162 cX11_onesAll 8 0 16 (qX11_onesAll_0 8 162 rfl) (qX11_onesAll_0 9 0 rfl) (qX11_onesAll_0 10 16 rfl)
theorem dX11_onesAll_11 : decode cX11_onesAll 11 = .ok (.aload_n 0, 1) := @dq_o42 cX11_onesAll 11 (qX11_onesAll_0 11 42 rfl)
theorem dX11_onesAll_12 : decode cX11_onesAll 12 = .ok (.getfield 13, 3) := @dq_o180 cX11_onesAll 12 0 13 (qX11_onesAll_0 12 180 rfl) (qX11_onesAll_0 13 0 rfl) (qX11_onesAll_0 14 13 rfl)
theorem dX11_onesAll_15 : decode cX11_onesAll 15 = .ok (.iload_n 1, 1) := @dq_o27 cX11_onesAll 15 (qX11_onesAll_0 15 27 rfl)
theorem dX11_onesAll_16 : decode cX11_onesAll 16 = .ok (.iconst 0, 1) := @dq_o3 cX11_onesAll 16 (qX11_onesAll_1 0 3 rfl)
theorem dX11_onesAll_17 : decode cX11_onesAll 17 = .ok (.iastore, 1) := @dq_o79 cX11_onesAll 17 (qX11_onesAll_1 1 79 rfl)
theorem dX11_onesAll_18 : decode cX11_onesAll 18 = .ok (.iinc 1 1, 3) := @dq_o132 cX11_onesAll 18 1 1 (qX11_onesAll_1 2 132 rfl) (qX11_onesAll_1 3 1 rfl) (qX11_onesAll_1 4 1 rfl)
theorem dX11_onesAll_21 : decode cX11_onesAll 21 = .ok (.goto (-17), 3) := @dq_o167 cX11_onesAll 21 255 239 (qX11_onesAll_1 5 167 rfl) (qX11_onesAll_1 6 255 rfl) (qX11_onesAll_1 7 239 rfl)
theorem dX11_onesAll_24 : decode cX11_onesAll 24 = .ok (.return_, 1) := @dq_o177 cX11_onesAll 24 (qX11_onesAll_1 8 177 rfl)
abbrev qaX11_weighs_0 : List Nat := [42, 180, 0, 13, 4, 27, 79, 42, 180, 0, 13, 5, 28, 79, 42, 180]
abbrev qaX11_weighs_1 : List Nat := [0, 13, 6, 29, 79, 42, 180, 0, 13, 7, 21, 4, 79, 42, 180, 0]
abbrev qaX11_weighs_2 : List Nat := [13, 8, 21, 5, 79, 42, 180, 0, 13, 16, 6, 21, 6, 79, 177]
def qtX11_weighs_3 : List Nat := []
def qtX11_weighs_2 : List Nat := qaX11_weighs_2 ++ qtX11_weighs_3
def qtX11_weighs_1 : List Nat := qaX11_weighs_1 ++ qtX11_weighs_2
def qtX11_weighs_0 : List Nat := qaX11_weighs_0 ++ qtX11_weighs_1
theorem qeX11_weighs : cX11_weighs.data.toList.map UInt8.toNat = qtX11_weighs_0 := by decide +kernel
theorem qsX11_weighs_0 : ∀ i, dqNth qtX11_weighs_0 (0 + i) = dqNth qtX11_weighs_0 i := fun i => by rw [Nat.zero_add]
theorem qsX11_weighs_1 : ∀ i, dqNth qtX11_weighs_0 (16 + i) = dqNth qtX11_weighs_1 i := dq_step qsX11_weighs_0 rfl rfl
theorem qsX11_weighs_2 : ∀ i, dqNth qtX11_weighs_0 (32 + i) = dqNth qtX11_weighs_2 i := dq_step qsX11_weighs_1 rfl rfl
theorem qX11_weighs_0 (i b : Nat) (h : dqNth qaX11_weighs_0 i = some b) : DqBy cX11_weighs (0 + i) b := dqBy_of qeX11_weighs ((qsX11_weighs_0 i).trans (dq_in h))
theorem qX11_weighs_1 (i b : Nat) (h : dqNth qaX11_weighs_1 i = some b) : DqBy cX11_weighs (16 + i) b := dqBy_of qeX11_weighs ((qsX11_weighs_1 i).trans (dq_in h))
theorem qX11_weighs_2 (i b : Nat) (h : dqNth qaX11_weighs_2 i = some b) : DqBy cX11_weighs (32 + i) b := dqBy_of qeX11_weighs ((qsX11_weighs_2 i).trans (dq_in h))
theorem dX11_weighs_0 : decode cX11_weighs 0 = .ok (.aload_n 0, 1) := @dq_o42 cX11_weighs 0 (qX11_weighs_0 0 42 rfl)
theorem dX11_weighs_1 : decode cX11_weighs 1 = .ok (.getfield 13, 3) := @dq_o180 cX11_weighs 1 0 13 (qX11_weighs_0 1 180 rfl) (qX11_weighs_0 2 0 rfl) (qX11_weighs_0 3 13 rfl)
theorem dX11_weighs_4 : decode cX11_weighs 4 = .ok (.iconst 1, 1) := @dq_o4 cX11_weighs 4 (qX11_weighs_0 4 4 rfl)
theorem dX11_weighs_5 : decode cX11_weighs 5 = .ok (.iload_n 1, 1) := @dq_o27 cX11_weighs 5 (qX11_weighs_0 5 27 rfl)
theorem dX11_weighs_6 : decode cX11_weighs 6 = .ok (.iastore, 1) := @dq_o79 cX11_weighs 6 (qX11_weighs_0 6 79 rfl)
theorem dX11_weighs_7 : decode cX11_weighs 7 = .ok (.aload_n 0, 1) := @dq_o42 cX11_weighs 7 (qX11_weighs_0 7 42 rfl)
theorem dX11_weighs_8 : decode cX11_weighs 8 = .ok (.getfield 13, 3) := @dq_o180 cX11_weighs 8 0 13 (qX11_weighs_0 8 180 rfl) (qX11_weighs_0 9 0 rfl) (qX11_weighs_0 10 13 rfl)
theorem dX11_weighs_11 : decode cX11_weighs 11 = .ok (.iconst 2, 1) := @dq_o5 cX11_weighs 11 (qX11_weighs_0 11 5 rfl)
theorem dX11_weighs_12 : decode cX11_weighs 12 = .ok (.iload_n 2, 1) := @dq_o28 cX11_weighs 12 (qX11_weighs_0 12 28 rfl)
theorem dX11_weighs_13 : decode cX11_weighs 13 = .ok (.iastore, 1) := @dq_o79 cX11_weighs 13 (qX11_weighs_0 13 79 rfl)
theorem dX11_weighs_14 : decode cX11_weighs 14 = .ok (.aload_n 0, 1) := @dq_o42 cX11_weighs 14 (qX11_weighs_0 14 42 rfl)
theorem dX11_weighs_15 : decode cX11_weighs 15 = .ok (.getfield 13, 3) := @dq_o180 cX11_weighs 15 0 13 (qX11_weighs_0 15 180 rfl) (qX11_weighs_1 0 0 rfl) (qX11_weighs_1 1 13 rfl)
theorem dX11_weighs_18 : decode cX11_weighs 18 = .ok (.iconst 3, 1) := @dq_o6 cX11_weighs 18 (qX11_weighs_1 2 6 rfl)
theorem dX11_weighs_19 : decode cX11_weighs 19 = .ok (.iload_n 3, 1) := @dq_o29 cX11_weighs 19 (qX11_weighs_1 3 29 rfl)
theorem dX11_weighs_20 : decode cX11_weighs 20 = .ok (.iastore, 1) := @dq_o79 cX11_weighs 20 (qX11_weighs_1 4 79 rfl)
theorem dX11_weighs_21 : decode cX11_weighs 21 = .ok (.aload_n 0, 1) := @dq_o42 cX11_weighs 21 (qX11_weighs_1 5 42 rfl)
theorem dX11_weighs_22 : decode cX11_weighs 22 = .ok (.getfield 13, 3) := @dq_o180 cX11_weighs 22 0 13 (qX11_weighs_1 6 180 rfl) (qX11_weighs_1 7 0 rfl) (qX11_weighs_1 8 13 rfl)
theorem dX11_weighs_25 : decode cX11_weighs 25 = .ok (.iconst 4, 1) := @dq_o7 cX11_weighs 25 (qX11_weighs_1 9 7 rfl)
theorem dX11_weighs_26 : decode cX11_weighs 26 = .ok (.iload 4, 2) := @dq_o21 cX11_weighs 26 4 (qX11_weighs_1 10 21 rfl) (qX11_weighs_1 11 4 rfl)
theorem dX11_weighs_28 : decode cX11_weighs 28 = .ok (.iastore, 1) := @dq_o79 cX11_weighs 28 (qX11_weighs_1 12 79 rfl)
theorem dX11_weighs_29 : decode cX11_weighs 29 = .ok (.aload_n 0, 1) := @dq_o42 cX11_weighs 29 (qX11_weighs_1 13 42 rfl)
theorem dX11_weighs_30 : decode cX11_weighs 30 = .ok (.getfield 13, 3) := @dq_o180 cX11_weighs 30 0 13 (qX11_weighs_1 14 180 rfl) (qX11_weighs_1 15 0 rfl) (qX11_weighs_2 0 13 rfl)
theorem dX11_weighs_33 : decode cX11_weighs 33 = .ok (.iconst 5, 1) := @dq_o8 cX11_weighs 33 (qX11_weighs_2 1 8 rfl)
theorem dX11_weighs_34 : decode cX11_weighs 34 = .ok (.iload 5, 2) := @dq_o21 cX11_weighs 34 5 (qX11_weighs_2 2 21 rfl) (qX11_weighs_2 3 5 rfl)
theorem dX11_weighs_36 : decode cX11_weighs 36 = .ok (.iastore, 1) := @dq_o79 cX11_weighs 36 (qX11_weighs_2 4 79 rfl)
theorem dX11_weighs_37 : decode cX11_weighs 37 = .ok (.aload_n 0, 1) := @dq_o42 cX11_weighs 37 (qX11_weighs_2 5 42 rfl)
theorem dX11_weighs_38 : decode cX11_weighs 38 = .ok (.getfield 13, 3) := @dq_o180 cX11_weighs 38 0 13 (qX11_weighs_2 6 180 rfl) (qX11_weighs_2 7 0 rfl) (qX11_weighs_2 8 13 rfl)
theorem dX11_weighs_41 : decode cX11_weighs 41 = .ok (.bipush 6, 2) := @dq_o16 cX11_weighs 41 6 (qX11_weighs_2 9 16 rfl) (qX11_weighs_2 10 6 rfl)
theorem dX11_weighs_43 : decode cX11_weighs 43 = .ok (.iload 6, 2) := @dq_o21 cX11_weighs 43 6 (qX11_weighs_2 11 21 rfl) (qX11_weighs_2 12 6 rfl)
theorem dX11_weighs_45 : decode cX11_weighs 45 = .ok (.iastore, 1) := @dq_o79 cX11_weighs 45 (qX11_weighs_2 13 79 rfl)
theorem dX11_weighs_46 : decode cX11_weighs 46 = .ok (.return_, 1) := @dq_o177 cX11_weighs 46 (qX11_weighs_2 14 177 rfl)
abbrev qaX11_kind_0 : List Nat := [42, 3, 181, 0, 1, 42, 27, 133, 9, 20, 0, 118, 182, 0, 101, 154]
abbrev qaX11_kind_1 : List Nat := [0, 5, 3, 172, 42, 182, 0, 109, 27, 154, 0, 9, 42, 182, 0, 73]
abbrev qaX11_kind_2 : List Nat := [4, 172, 42, 27, 4, 160, 0, 7, 8, 167, 0, 5, 16, 6, 182, 0]
abbrev qaX11_kind_3 : List Nat := [76, 27, 4, 160, 0, 13, 42, 4, 4, 5, 6, 6, 3, 182, 0, 123]
abbrev qaX11_kind_4 : List Nat := [27, 5, 160, 0, 13, 42, 4, 4, 4, 5, 5, 6, 182, 0, 123, 27]
abbrev qaX11_kind_5 : List Nat := [6, 160, 0, 13, 42, 4, 4, 4, 4, 4, 4, 182, 0, 123, 27, 4]
abbrev qaX11_kind_6 : List Nat := [160, 0, 27, 42, 4, 3, 5, 4, 182, 0, 80, 42, 5, 3, 6, 4]
abbrev qaX11_kind_7 : List Nat := [182, 0, 80, 42, 5, 4, 7, 4, 182, 0, 80, 27, 5, 160, 0, 35]
abbrev qaX11_kind_8 : List Nat := [42, 5, 3, 6, 4, 182, 0, 80, 42, 5, 4, 7, 4, 182, 0, 80]
abbrev qaX11_kind_9 : List Nat := [42, 6, 4, 8, 4, 182, 0, 80, 42, 7, 3, 8, 4, 182, 0, 80]
abbrev qaX11_kind_10 : List Nat := [4, 172]
def qtX11_kind_11 : List Nat := []
def qtX11_kind_10 : List Nat := qaX11_kind_10 ++ qtX11_kind_11
def qtX11_kind_9 : List Nat := qaX11_kind_9 ++ qtX11_kind_10
def qtX11_kind_8 : List Nat := qaX11_kind_8 ++ qtX11_kind_9
def qtX11_kind_7 : List Nat := qaX11_kind_7 ++ qtX11_kind_8
def qtX11_kind_6 : List Nat := qaX11_kind_6 ++ qtX11_kind_7
def qtX11_kind_5 : List Nat := qaX11_kind_5 ++ qtX11_kind_6
def qtX11_kind_4 : List Nat := qaX11_kind_4 ++ qtX11_kind_5
def qtX11_kind_3 : List Nat := qaX11_kind_3 ++ qtX11_kind_4
def qtX11_kind_2 : List Nat := qaX11_kind_2 ++ qtX11_kind_3
def qtX11_kind_1 : List Nat := qaX11_kind_1 ++ qtX11_kind_2
def qtX11_kind_0 : List Nat := qaX11_kind_0 ++ qtX11_kind_1
theorem qeX11_kind : cX11_kind.data.toList.map UInt8.toNat = qtX11_kind_0 := by decide +kernel
theorem qsX11_kind_0 : ∀ i, dqNth qtX11_kind_0 (0 + i) = dqNth qtX11_kind_0 i := fun i => by rw [Nat.zero_add]
theorem qsX11_kind_1 : ∀ i, dqNth qtX11_kind_0 (16 + i) = dqNth qtX11_kind_1 i := dq_step qsX11_kind_0 rfl rfl
theorem qsX11_kind_2 : ∀ i, dqNth qtX11_kind_0 (32 + i) = dqNth qtX11_kind_2 i := dq_step qsX11_kind_1 rfl rfl
theorem qsX11_kind_3 : ∀ i, dqNth qtX11_kind_0 (48 + i) = dqNth qtX11_kind_3 i := dq_step qsX11_kind_2 rfl rfl
theorem qsX11_kind_4 : ∀ i, dqNth qtX11_kind_0 (64 + i) = dqNth qtX11_kind_4 i := dq_step qsX11_kind_3 rfl rfl
theorem qsX11_kind_5 : ∀ i, dqNth qtX11_kind_0 (80 + i) = dqNth qtX11_kind_5 i := dq_step qsX11_kind_4 rfl rfl
theorem qsX11_kind_6 : ∀ i, dqNth qtX11_kind_0 (96 + i) = dqNth qtX11_kind_6 i := dq_step qsX11_kind_5 rfl rfl
theorem qsX11_kind_7 : ∀ i, dqNth qtX11_kind_0 (112 + i) = dqNth qtX11_kind_7 i := dq_step qsX11_kind_6 rfl rfl
theorem qsX11_kind_8 : ∀ i, dqNth qtX11_kind_0 (128 + i) = dqNth qtX11_kind_8 i := dq_step qsX11_kind_7 rfl rfl
theorem qsX11_kind_9 : ∀ i, dqNth qtX11_kind_0 (144 + i) = dqNth qtX11_kind_9 i := dq_step qsX11_kind_8 rfl rfl
theorem qsX11_kind_10 : ∀ i, dqNth qtX11_kind_0 (160 + i) = dqNth qtX11_kind_10 i := dq_step qsX11_kind_9 rfl rfl
theorem qX11_kind_0 (i b : Nat) (h : dqNth qaX11_kind_0 i = some b) : DqBy cX11_kind (0 + i) b := dqBy_of qeX11_kind ((qsX11_kind_0 i).trans (dq_in h))
theorem qX11_kind_1 (i b : Nat) (h : dqNth qaX11_kind_1 i = some b) : DqBy cX11_kind (16 + i) b := dqBy_of qeX11_kind ((qsX11_kind_1 i).trans (dq_in h))
theorem qX11_kind_2 (i b : Nat) (h : dqNth qaX11_kind_2 i = some b) : DqBy cX11_kind (32 + i) b := dqBy_of qeX11_kind ((qsX11_kind_2 i).trans (dq_in h))
theorem qX11_kind_3 (i b : Nat) (h : dqNth qaX11_kind_3 i = some b) : DqBy cX11_kind (48 + i) b := dqBy_of qeX11_kind ((qsX11_kind_3 i).trans (dq_in h))
theorem qX11_kind_4 (i b : Nat) (h : dqNth qaX11_kind_4 i = some b) : DqBy cX11_kind (64 + i) b := dqBy_of qeX11_kind ((qsX11_kind_4 i).trans (dq_in h))
theorem qX11_kind_5 (i b : Nat) (h : dqNth qaX11_kind_5 i = some b) : DqBy cX11_kind (80 + i) b := dqBy_of qeX11_kind ((qsX11_kind_5 i).trans (dq_in h))
theorem qX11_kind_6 (i b : Nat) (h : dqNth qaX11_kind_6 i = some b) : DqBy cX11_kind (96 + i) b := dqBy_of qeX11_kind ((qsX11_kind_6 i).trans (dq_in h))
theorem qX11_kind_7 (i b : Nat) (h : dqNth qaX11_kind_7 i = some b) : DqBy cX11_kind (112 + i) b := dqBy_of qeX11_kind ((qsX11_kind_7 i).trans (dq_in h))
theorem qX11_kind_8 (i b : Nat) (h : dqNth qaX11_kind_8 i = some b) : DqBy cX11_kind (128 + i) b := dqBy_of qeX11_kind ((qsX11_kind_8 i).trans (dq_in h))
theorem qX11_kind_9 (i b : Nat) (h : dqNth qaX11_kind_9 i = some b) : DqBy cX11_kind (144 + i) b := dqBy_of qeX11_kind ((qsX11_kind_9 i).trans (dq_in h))
theorem qX11_kind_10 (i b : Nat) (h : dqNth qaX11_kind_10 i = some b) : DqBy cX11_kind (160 + i) b := dqBy_of qeX11_kind ((qsX11_kind_10 i).trans (dq_in h))
theorem dX11_kind_0 : decode cX11_kind 0 = .ok (.aload_n 0, 1) := @dq_o42 cX11_kind 0 (qX11_kind_0 0 42 rfl)
theorem dX11_kind_1 : decode cX11_kind 1 = .ok (.iconst 0, 1) := @dq_o3 cX11_kind 1 (qX11_kind_0 1 3 rfl)
theorem dX11_kind_2 : decode cX11_kind 2 = .ok (.putfield 1, 3) := @dq_o181 cX11_kind 2 0 1 (qX11_kind_0 2 181 rfl) (qX11_kind_0 3 0 rfl) (qX11_kind_0 4 1 rfl)
theorem dX11_kind_5 : decode cX11_kind 5 = .ok (.aload_n 0, 1) := @dq_o42 cX11_kind 5 (qX11_kind_0 5 42 rfl)
theorem dX11_kind_6 : decode cX11_kind 6 = .ok (.iload_n 1, 1) := @dq_o27 cX11_kind 6 (qX11_kind_0 6 27 rfl)
theorem dX11_kind_7 : decode cX11_kind 7 = .ok (.i2l, 1) := @dq_o133 cX11_kind 7 (qX11_kind_0 7 133 rfl)
theorem dX11_kind_8 : decode cX11_kind 8 = .ok (.lconst 0, 1) := @dq_o9 cX11_kind 8 (qX11_kind_0 8 9 rfl)
theorem dX11_kind_9 : decode cX11_kind 9 = .ok (.ldc2_w 118, 3) := @dq_o20 cX11_kind 9 0 118 (qX11_kind_0 9 20 rfl) (qX11_kind_0 10 0 rfl) (qX11_kind_0 11 118 rfl)
theorem dX11_kind_12 : decode cX11_kind 12 = .ok (.invokevirtual 101, 3) := @dq_o182 cX11_kind 12 0 101 (qX11_kind_0 12 182 rfl) (qX11_kind_0 13 0 rfl) (qX11_kind_0 14 101 rfl)
theorem dX11_kind_15 : decode cX11_kind 15 = .ok (.ifCond .ne 5, 3) := @dq_o154 cX11_kind 15 0 5 (qX11_kind_0 15 154 rfl) (qX11_kind_1 0 0 rfl) (qX11_kind_1 1 5 rfl)
theorem dX11_kind_18 : decode cX11_kind 18 = .ok (.iconst 0, 1) := @dq_o3 cX11_kind 18 (qX11_kind_1 2 3 rfl)
theorem dX11_kind_19 : decode cX11_kind 19 = .ok (.ireturn, 1) := @dq_o172 cX11_kind 19 (qX11_kind_1 3 172 rfl)
theorem dX11_kind_20 : decode cX11_kind 20 = .ok (.aload_n 0, 1) := @dq_o42 cX11_kind 20 (qX11_kind_1 4 42 rfl)
theorem dX11_kind_21 : decode cX11_kind 21 = .ok (.invokevirtual 109, 3) := @dq_o182 cX11_kind 21 0 109 (qX11_kind_1 5 182 rfl) (qX11_kind_1 6 0 rfl) (qX11_kind_1 7 109 rfl)
theorem dX11_kind_24 : decode cX11_kind 24 = .ok (.iload_n 1, 1) := @dq_o27 cX11_kind 24 (qX11_kind_1 8 27 rfl)
theorem dX11_kind_25 : decode cX11_kind 25 = .ok (.ifCond .ne 9, 3) := @dq_o154 cX11_kind 25 0 9 (qX11_kind_1 9 154 rfl) (qX11_kind_1 10 0 rfl) (qX11_kind_1 11 9 rfl)
theorem dX11_kind_28 : decode cX11_kind 28 = .ok (.aload_n 0, 1) := @dq_o42 cX11_kind 28 (qX11_kind_1 12 42 rfl)
theorem dX11_kind_29 : decode cX11_kind 29 = .ok (.invokevirtual 73, 3) := @dq_o182 cX11_kind 29 0 73 (qX11_kind_1 13 182 rfl) (qX11_kind_1 14 0 rfl) (qX11_kind_1 15 73 rfl)
theorem dX11_kind_32 : decode cX11_kind 32 = .ok (.iconst 1, 1) := @dq_o4 cX11_kind 32 (qX11_kind_2 0 4 rfl)
theorem dX11_kind_33 : decode cX11_kind 33 = .ok (.ireturn, 1) := @dq_o172 cX11_kind 33 (qX11_kind_2 1 172 rfl)
theorem dX11_kind_34 : decode cX11_kind 34 = .ok (.aload_n 0, 1) := @dq_o42 cX11_kind 34 (qX11_kind_2 2 42 rfl)
theorem dX11_kind_35 : decode cX11_kind 35 = .ok (.iload_n 1, 1) := @dq_o27 cX11_kind 35 (qX11_kind_2 3 27 rfl)
theorem dX11_kind_36 : decode cX11_kind 36 = .ok (.iconst 1, 1) := @dq_o4 cX11_kind 36 (qX11_kind_2 4 4 rfl)
theorem dX11_kind_37 : decode cX11_kind 37 = .ok (.if_icmp .ne 7, 3) := @dq_o160 cX11_kind 37 0 7 (qX11_kind_2 5 160 rfl) (qX11_kind_2 6 0 rfl) (qX11_kind_2 7 7 rfl)
theorem dX11_kind_40 : decode cX11_kind 40 = .ok (.iconst 5, 1) := @dq_o8 cX11_kind 40 (qX11_kind_2 8 8 rfl)
theorem dX11_kind_41 : decode cX11_kind 41 = .ok (.goto 5, 3) := @dq_o167 cX11_kind 41 0 5 (qX11_kind_2 9 167 rfl) (qX11_kind_2 10 0 rfl) (qX11_kind_2 11 5 rfl)
theorem dX11_kind_44 : decode cX11_kind 44 = .ok (.bipush 6, 2) := @dq_o16 cX11_kind 44 6 (qX11_kind_2 12 16 rfl) (qX11_kind_2 13 6 rfl)
theorem dX11_kind_46 : decode cX11_kind 46 = .ok (.invokevirtual 76, 3) := @dq_o182 cX11_kind 46 0 76 (qX11_kind_2 14 182 rfl) (qX11_kind_2 15 0 rfl) (qX11_kind_3 0 76 rfl)
theorem dX11_kind_49 : decode cX11_kind 49 = .ok (.iload_n 1, 1) := @dq_o27 cX11_kind 49 (qX11_kind_3 1 27 rfl)
theorem dX11_kind_50 : decode cX11_kind 50 = .ok (.iconst 1, 1) := @dq_o4 cX11_kind 50 (qX11_kind_3 2 4 rfl)
theorem dX11_kind_51 : decode cX11_kind 51 = .ok (.if_icmp .ne 13, 3) := @dq_o160 cX11_kind 51 0 13 (qX11_kind_3 3 160 rfl) (qX11_kind_3 4 0 rfl) (qX11_kind_3 5 13 rfl)
theorem dX11_kind_54 : decode cX11_kind 54 = .ok (.aload_n 0, 1) := @dq_o42 cX11_kind 54 (qX11_kind_3 6 42 rfl)
theorem dX11_kind_55 : decode cX11_kind 55 = .ok (.iconst 1, 1) := @dq_o4 cX11_kind 55 (qX11_kind_3 7 4 rfl)
theorem dX11_kind_56 : decode cX11_kind 56 = .ok (.iconst 1, 1) := @dq_o4 cX11_kind 56 (qX11_kind_3 8 4 rfl)
theorem dX11_kind_57 : decode cX11_kind 57 = .ok (.iconst 2, 1) := @dq_o5 cX11_kind 57 (qX11_kind_3 9 5 rfl)
theorem dX11_kind_58 : decode cX11_kind 58 = .ok (.iconst 3, 1) := @dq_o6 cX11_kind 58 (qX11_kind_3 10 6 rfl)
theorem dX11_kind_59 : decode cX11_kind 59 = .ok (.iconst 3, 1) := @dq_o6 cX11_kind 59 (qX11_kind_3 11 6 rfl)
theorem dX11_kind_60 : decode cX11_kind 60 = .ok (.iconst 0, 1) := @dq_o3 cX11_kind 60 (qX11_kind_3 12 3 rfl)
theorem dX11_kind_61 : decode cX11_kind 61 = .ok (.invokevirtual 123, 3) := @dq_o182 cX11_kind 61 0 123 (qX11_kind_3 13 182 rfl) (qX11_kind_3 14 0 rfl) (qX11_kind_3 15 123 rfl)
theorem dX11_kind_64 : decode cX11_kind 64 = .ok (.iload_n 1, 1) := @dq_o27 cX11_kind 64 (qX11_kind_4 0 27 rfl)
theorem dX11_kind_65 : decode cX11_kind 65 = .ok (.iconst 2, 1) := @dq_o5 cX11_kind 65 (qX11_kind_4 1 5 rfl)
theorem dX11_kind_66 : decode cX11_kind 66 = .ok (.if_icmp .ne 13, 3) := @dq_o160 cX11_kind 66 0 13 (qX11_kind_4 2 160 rfl) (qX11_kind_4 3 0 rfl) (qX11_kind_4 4 13 rfl)
theorem dX11_kind_69 : decode cX11_kind 69 = .ok (.aload_n 0, 1) := @dq_o42 cX11_kind 69 (qX11_kind_4 5 42 rfl)
theorem dX11_kind_70 : decode cX11_kind 70 = .ok (.iconst 1, 1) := @dq_o4 cX11_kind 70 (qX11_kind_4 6 4 rfl)
theorem dX11_kind_71 : decode cX11_kind 71 = .ok (.iconst 1, 1) := @dq_o4 cX11_kind 71 (qX11_kind_4 7 4 rfl)
theorem dX11_kind_72 : decode cX11_kind 72 = .ok (.iconst 1, 1) := @dq_o4 cX11_kind 72 (qX11_kind_4 8 4 rfl)
theorem dX11_kind_73 : decode cX11_kind 73 = .ok (.iconst 2, 1) := @dq_o5 cX11_kind 73 (qX11_kind_4 9 5 rfl)
theorem dX11_kind_74 : decode cX11_kind 74 = .ok (.iconst 2, 1) := @dq_o5 cX11_kind 74 (qX11_kind_4 10 5 rfl)
theorem dX11_kind_75 : decode cX11_kind 75 = .ok (.iconst 3, 1) := @dq_o6 cX11_kind 75 (qX11_kind_4 11 6 rfl)
theorem dX11_kind_76 : decode cX11_kind 76 = .ok (.invokevirtual 123, 3) := @dq_o182 cX11_kind 76 0 123 (qX11_kind_4 12 182 rfl) (qX11_kind_4 13 0 rfl) (qX11_kind_4 14 123 rfl)
theorem dX11_kind_79 : decode cX11_kind 79 = .ok (.iload_n 1, 1) := @dq_o27 cX11_kind 79 (qX11_kind_4 15 27 rfl)
theorem dX11_kind_80 : decode cX11_kind 80 = .ok (.iconst 3, 1) := @dq_o6 cX11_kind 80 (qX11_kind_5 0 6 rfl)
theorem dX11_kind_81 : decode cX11_kind 81 = .ok (.if_icmp .ne 13, 3) := @dq_o160 cX11_kind 81 0 13 (qX11_kind_5 1 160 rfl) (qX11_kind_5 2 0 rfl) (qX11_kind_5 3 13 rfl)
theorem dX11_kind_84 : decode cX11_kind 84 = .ok (.aload_n 0, 1) := @dq_o42 cX11_kind 84 (qX11_kind_5 4 42 rfl)
theorem dX11_kind_85 : decode cX11_kind 85 = .ok (.iconst 1, 1) := @dq_o4 cX11_kind 85 (qX11_kind_5 5 4 rfl)
theorem dX11_kind_86 : decode cX11_kind 86 = .ok (.iconst 1, 1) := @dq_o4 cX11_kind 86 (qX11_kind_5 6 4 rfl)
theorem dX11_kind_87 : decode cX11_kind 87 = .ok (.iconst 1, 1) := @dq_o4 cX11_kind 87 (qX11_kind_5 7 4 rfl)
theorem dX11_kind_88 : decode cX11_kind 88 = .ok (.iconst 1, 1) := @dq_o4 cX11_kind 88 (qX11_kind_5 8 4 rfl)
theorem dX11_kind_89 : decode cX11_kind 89 = .ok (.iconst 1, 1) := @dq_o4 cX11_kind 89 (qX11_kind_5 9 4 rfl)
theorem dX11_kind_90 : decode cX11_kind 90 = .ok (.iconst 1, 1) := @dq_o4 cX11_kind 90 (qX11_kind_5 10 4 rfl)
theorem dX11_kind_91 : decode cX11_kind 91 = .ok (.invokevirtual 123, 3) := @dq_o182 cX11_kind 91 0 123 (qX11_kind_5 11 182 rfl) (qX11_kind_5 12 0 rfl) (qX11_kind_5 13 123 rfl)
theorem dX11_kind_94 : decode cX11_kind 94 = .ok (.iload_n 1, 1) := @dq_o27 cX11_kind 94 (qX11_kind_5 14 27 rfl)
theorem dX11_kind_95 : decode cX11_kind 95 = .ok (.iconst 1, 1) := @dq_o4 cX11_kind 95 (qX11_kind_5 15 4 rfl)
theorem dX11_kind_96 : decode cX11_kind 96 = .ok (.if_icmp .ne 27, 3) := @dq_o160 cX11_kind 96 0 27 (qX11_kind_6 0 160 rfl) (qX11_kind_6 1 0 rfl) (qX11_kind_6 2 27 rfl)
theorem dX11_kind_99 : decode cX11_kind 99 = .ok (.aload_n 0, 1) := @dq_o42 cX11_kind 99 (qX11_kind_6 3 42 rfl)
theorem dX11_kind_100 : decode cX11_kind 100 = .ok (.iconst 1, 1) := @dq_o4 cX11_kind 100 (qX11_kind_6 4 4 rfl)
theorem dX11_kind_101 : decode cX11_kind 101 = .ok (.iconst 0, 1) := @dq_o3 cX11_kind 101 (qX11_kind_6 5 3 rfl)
theorem dX11_kind_102 : decode cX11_kind 102 = .ok (.iconst 2, 1) := @dq_o5 cX11_kind 102 (qX11_kind_6 6 5 rfl)
theorem dX11_kind_103 : decode cX11_kind 103 = .ok (.iconst 1, 1) := @dq_o4 cX11_kind 103 (qX11_kind_6 7 4 rfl)
theorem dX11_kind_104 : decode cX11_kind 104 = .ok (.invokevirtual 80, 3) := @dq_o182 cX11_kind 104 0 80 (qX11_kind_6 8 182 rfl) (qX11_kind_6 9 0 rfl) (qX11_kind_6 10 80 rfl)
theorem dX11_kind_107 : decode cX11_kind 107 = .ok (.aload_n 0, 1) := @dq_o42 cX11_kind 107 (qX11_kind_6 11 42 rfl)
theorem dX11_kind_108 : decode cX11_kind 108 = .ok (.iconst 2, 1) := @dq_o5 cX11_kind 108 (qX11_kind_6 12 5 rfl)
theorem dX11_kind_109 : decode cX11_kind 109 = .ok (.iconst 0, 1) := @dq_o3 cX11_kind 109 (qX11_kind_6 13 3 rfl)
theorem dX11_kind_110 : decode cX11_kind 110 = .ok (.iconst 3, 1) := @dq_o6 cX11_kind 110 (qX11_kind_6 14 6 rfl)
theorem dX11_kind_111 : decode cX11_kind 111 = .ok (.iconst 1, 1) := @dq_o4 cX11_kind 111 (qX11_kind_6 15 4 rfl)
theorem dX11_kind_112 : decode cX11_kind 112 = .ok (.invokevirtual 80, 3) := @dq_o182 cX11_kind 112 0 80 (qX11_kind_7 0 182 rfl) (qX11_kind_7 1 0 rfl) (qX11_kind_7 2 80 rfl)
theorem dX11_kind_115 : decode cX11_kind 115 = .ok (.aload_n 0, 1) := @dq_o42 cX11_kind 115 (qX11_kind_7 3 42 rfl)
theorem dX11_kind_116 : decode cX11_kind 116 = .ok (.iconst 2, 1) := @dq_o5 cX11_kind 116 (qX11_kind_7 4 5 rfl)
theorem dX11_kind_117 : decode cX11_kind 117 = .ok (.iconst 1, 1) := @dq_o4 cX11_kind 117 (qX11_kind_7 5 4 rfl)
theorem dX11_kind_118 : decode cX11_kind 118 = .ok (.iconst 4, 1) := @dq_o7 cX11_kind 118 (qX11_kind_7 6 7 rfl)
theorem dX11_kind_119 : decode cX11_kind 119 = .ok (.iconst 1, 1) := @dq_o4 cX11_kind 119 (qX11_kind_7 7 4 rfl)
theorem dX11_kind_120 : decode cX11_kind 120 = .ok (.invokevirtual 80, 3) := @dq_o182 cX11_kind 120 0 80 (qX11_kind_7 8 182 rfl) (qX11_kind_7 9 0 rfl) (qX11_kind_7 10 80 rfl)
theorem dX11_kind_123 : decode cX11_kind 123 = .ok (.iload_n 1, 1) := @dq_o27 cX11_kind 123 (qX11_kind_7 11 27 rfl)
theorem dX11_kind_124 : decode cX11_kind 124 = .ok (.iconst 2, 1) := @dq_o5 cX11_kind 124 (qX11_kind_7 12 5 rfl)
theorem dX11_kind_125 : decode cX11_kind 125 = .ok (.if_icmp .ne 35, 3) := @dq_o160 cX11_kind 125 0 35 (qX11_kind_7 13 160 rfl) (qX11_kind_7 14 0 rfl) (qX11_kind_7 15 35 rfl)
theorem dX11_kind_128 : decode cX11_kind 128 = .ok (.aload_n 0, 1) := @dq_o42 cX11_kind 128 (qX11_kind_8 0 42 rfl)
theorem dX11_kind_129 : decode cX11_kind 129 = .ok (.iconst 2, 1) := @dq_o5 cX11_kind 129 (qX11_kind_8 1 5 rfl)
theorem dX11_kind_130 : decode cX11_kind 130 = .ok (.iconst 0, 1) := @dq_o3 cX11_kind 130 (qX11_kind_8 2 3 rfl)
theorem dX11_kind_131 : decode cX11_kind 131 = .ok (.iconst 3, 1) := @dq_o6 cX11_kind 131 (qX11_kind_8 3 6 rfl)
theorem dX11_kind_132 : decode cX11_kind 132 = .ok (.iconst 1, 1) := @dq_o4 cX11_kind 132 (qX11_kind_8 4 4 rfl)
theorem dX11_kind_133 : decode cX11_kind 133 = .ok (.invokevirtual 80, 3) := @dq_o182 cX11_kind 133 0 80 (qX11_kind_8 5 182 rfl) (qX11_kind_8 6 0 rfl) (qX11_kind_8 7 80 rfl)
theorem dX11_kind_136 : decode cX11_kind 136 = .ok (.aload_n 0, 1) := @dq_o42 cX11_kind 136 (qX11_kind_8 8 42 rfl)
theorem dX11_kind_137 : decode cX11_kind 137 = .ok (.iconst 2, 1) := @dq_o5 cX11_kind 137 (qX11_kind_8 9 5 rfl)
theorem dX11_kind_138 : decode cX11_kind 138 = .ok (.iconst 1, 1) := @dq_o4 cX11_kind 138 (qX11_kind_8 10 4 rfl)
theorem dX11_kind_139 : decode cX11_kind 139 = .ok (.iconst 4, 1) := @dq_o7 cX11_kind 139 (qX11_kind_8 11 7 rfl)
theorem dX11_kind_140 : decode cX11_kind 140 = .ok (.iconst 1, 1) := @dq_o4 cX11_kind 140 (qX11_kind_8 12 4 rfl)
theorem dX11_kind_141 : decode cX11_kind 141 = .ok (.invokevirtual 80, 3) := @dq_o182 cX11_kind 141 0 80 (qX11_kind_8 13 182 rfl) (qX11_kind_8 14 0 rfl) (qX11_kind_8 15 80 rfl)
theorem dX11_kind_144 : decode cX11_kind 144 = .ok (.aload_n 0, 1) := @dq_o42 cX11_kind 144 (qX11_kind_9 0 42 rfl)
theorem dX11_kind_145 : decode cX11_kind 145 = .ok (.iconst 3, 1) := @dq_o6 cX11_kind 145 (qX11_kind_9 1 6 rfl)
theorem dX11_kind_146 : decode cX11_kind 146 = .ok (.iconst 1, 1) := @dq_o4 cX11_kind 146 (qX11_kind_9 2 4 rfl)
theorem dX11_kind_147 : decode cX11_kind 147 = .ok (.iconst 5, 1) := @dq_o8 cX11_kind 147 (qX11_kind_9 3 8 rfl)
theorem dX11_kind_148 : decode cX11_kind 148 = .ok (.iconst 1, 1) := @dq_o4 cX11_kind 148 (qX11_kind_9 4 4 rfl)
theorem dX11_kind_149 : decode cX11_kind 149 = .ok (.invokevirtual 80, 3) := @dq_o182 cX11_kind 149 0 80 (qX11_kind_9 5 182 rfl) (qX11_kind_9 6 0 rfl) (qX11_kind_9 7 80 rfl)
theorem dX11_kind_152 : decode cX11_kind 152 = .ok (.aload_n 0, 1) := @dq_o42 cX11_kind 152 (qX11_kind_9 8 42 rfl)
theorem dX11_kind_153 : decode cX11_kind 153 = .ok (.iconst 4, 1) := @dq_o7 cX11_kind 153 (qX11_kind_9 9 7 rfl)
theorem dX11_kind_154 : decode cX11_kind 154 = .ok (.iconst 0, 1) := @dq_o3 cX11_kind 154 (qX11_kind_9 10 3 rfl)
theorem dX11_kind_155 : decode cX11_kind 155 = .ok (.iconst 5, 1) := @dq_o8 cX11_kind 155 (qX11_kind_9 11 8 rfl)
theorem dX11_kind_156 : decode cX11_kind 156 = .ok (.iconst 1, 1) := @dq_o4 cX11_kind 156 (qX11_kind_9 12 4 rfl)
theorem dX11_kind_157 : decode cX11_kind 157 = .ok (.invokevirtual 80, 3) := @dq_o182 cX11_kind 157 0 80 (qX11_kind_9 13 182 rfl) (qX11_kind_9 14 0 rfl) (qX11_kind_9 15 80 rfl)
theorem dX11_kind_160 : decode cX11_kind 160 = .ok (.iconst 1, 1) := @dq_o4 cX11_kind 160 (qX11_kind_10 0 4 rfl)
theorem dX11_kind_161 : decode cX11_kind 161 = .ok (.ireturn, 1) := @dq_o172 cX11_kind 161 (qX11_kind_10 1 172 rfl)
abbrev qaX11_writes_0 : List Nat := [42, 180, 0, 20, 42, 180, 0, 127, 27, 79, 42, 42, 180, 0, 127, 4]
abbrev qaX11_writes_1 : List Nat := [96, 181, 0, 127, 177]
def qtX11_writes_2 : List Nat := []
def qtX11_writes_1 : List Nat := qaX11_writes_1 ++ qtX11_writes_2
def qtX11_writes_0 : List Nat := qaX11_writes_0 ++ qtX11_writes_1
theorem qeX11_writes : cX11_writes.data.toList.map UInt8.toNat = qtX11_writes_0 := by decide +kernel
theorem qsX11_writes_0 : ∀ i, dqNth qtX11_writes_0 (0 + i) = dqNth qtX11_writes_0 i := fun i => by rw [Nat.zero_add]
theorem qsX11_writes_1 : ∀ i, dqNth qtX11_writes_0 (16 + i) = dqNth qtX11_writes_1 i := dq_step qsX11_writes_0 rfl rfl
theorem qX11_writes_0 (i b : Nat) (h : dqNth qaX11_writes_0 i = some b) : DqBy cX11_writes (0 + i) b := dqBy_of qeX11_writes ((qsX11_writes_0 i).trans (dq_in h))
theorem qX11_writes_1 (i b : Nat) (h : dqNth qaX11_writes_1 i = some b) : DqBy cX11_writes (16 + i) b := dqBy_of qeX11_writes ((qsX11_writes_1 i).trans (dq_in h))
theorem dX11_writes_0 : decode cX11_writes 0 = .ok (.aload_n 0, 1) := @dq_o42 cX11_writes 0 (qX11_writes_0 0 42 rfl)
theorem dX11_writes_1 : decode cX11_writes 1 = .ok (.getfield 20, 3) := @dq_o180 cX11_writes 1 0 20 (qX11_writes_0 1 180 rfl) (qX11_writes_0 2 0 rfl) (qX11_writes_0 3 20 rfl)
theorem dX11_writes_4 : decode cX11_writes 4 = .ok (.aload_n 0, 1) := @dq_o42 cX11_writes 4 (qX11_writes_0 4 42 rfl)
theorem dX11_writes_5 : decode cX11_writes 5 = .ok (.getfield 127, 3) := @dq_o180 cX11_writes 5 0 127 (qX11_writes_0 5 180 rfl) (qX11_writes_0 6 0 rfl) (qX11_writes_0 7 127 rfl)
theorem dX11_writes_8 : decode cX11_writes 8 = .ok (.iload_n 1, 1) := @dq_o27 cX11_writes 8 (qX11_writes_0 8 27 rfl)
theorem dX11_writes_9 : decode cX11_writes 9 = .ok (.iastore, 1) := @dq_o79 cX11_writes 9 (qX11_writes_0 9 79 rfl)
theorem dX11_writes_10 : decode cX11_writes 10 = .ok (.aload_n 0, 1) := @dq_o42 cX11_writes 10 (qX11_writes_0 10 42 rfl)
theorem dX11_writes_11 : decode cX11_writes 11 = .ok (.aload_n 0, 1) := @dq_o42 cX11_writes 11 (qX11_writes_0 11 42 rfl)
theorem dX11_writes_12 : decode cX11_writes 12 = .ok (.getfield 127, 3) := @dq_o180 cX11_writes 12 0 127 (qX11_writes_0 12 180 rfl) (qX11_writes_0 13 0 rfl) (qX11_writes_0 14 127 rfl)
theorem dX11_writes_15 : decode cX11_writes 15 = .ok (.iconst 1, 1) := @dq_o4 cX11_writes 15 (qX11_writes_0 15 4 rfl)
theorem dX11_writes_16 : decode cX11_writes 16 = .ok (.iadd, 1) := @dq_o96 cX11_writes 16 (qX11_writes_1 0 96 rfl)
theorem dX11_writes_17 : decode cX11_writes 17 = .ok (.putfield 127, 3) := @dq_o181 cX11_writes 17 0 127 (qX11_writes_1 1 181 rfl) (qX11_writes_1 2 0 rfl) (qX11_writes_1 3 127 rfl)
theorem dX11_writes_20 : decode cX11_writes 20 = .ok (.return_, 1) := @dq_o177 cX11_writes 20 (qX11_writes_1 4 177 rfl)
abbrev qaX11_exchanges_0 : List Nat := [42, 180, 0, 20, 27, 46, 61, 42, 180, 0, 20, 27, 4, 96, 46, 62]
abbrev qaX11_exchanges_1 : List Nat := [3, 54, 4, 28, 4, 96, 54, 5, 21, 5, 42, 182, 0, 88, 162, 0]
abbrev qaX11_exchanges_2 : List Nat := [22, 21, 4, 42, 28, 29, 21, 5, 182, 0, 130, 96, 54, 4, 132, 5]
abbrev qaX11_exchanges_3 : List Nat := [1, 167, 255, 231, 42, 180, 0, 127, 4, 100, 54, 5, 21, 5, 27, 4]
abbrev qaX11_exchanges_4 : List Nat := [96, 164, 0, 26, 42, 180, 0, 20, 21, 5, 21, 4, 96, 42, 180, 0]
abbrev qaX11_exchanges_5 : List Nat := [20, 21, 5, 46, 79, 132, 5, 255, 167, 255, 228, 42, 42, 180, 0, 127]
abbrev qaX11_exchanges_6 : List Nat := [21, 4, 96, 181, 0, 127, 42, 180, 0, 20, 27, 29, 79, 42, 180, 0]
abbrev qaX11_exchanges_7 : List Nat := [20, 27, 4, 96, 28, 79, 27, 5, 96, 54, 5, 28, 4, 96, 54, 6]
abbrev qaX11_exchanges_8 : List Nat := [21, 6, 42, 182, 0, 88, 162, 0, 45, 42, 28, 29, 21, 6, 182, 0]
abbrev qaX11_exchanges_9 : List Nat := [130, 54, 7, 21, 7, 158, 0, 24, 42, 180, 0, 20, 21, 5, 21, 6]
abbrev qaX11_exchanges_10 : List Nat := [79, 21, 5, 4, 96, 54, 5, 132, 7, 255, 167, 255, 233, 132, 6, 1]
abbrev qaX11_exchanges_11 : List Nat := [167, 255, 208, 42, 42, 180, 0, 134, 4, 96, 181, 0, 134, 177]
def qtX11_exchanges_12 : List Nat := []
def qtX11_exchanges_11 : List Nat := qaX11_exchanges_11 ++ qtX11_exchanges_12
def qtX11_exchanges_10 : List Nat := qaX11_exchanges_10 ++ qtX11_exchanges_11
def qtX11_exchanges_9 : List Nat := qaX11_exchanges_9 ++ qtX11_exchanges_10
def qtX11_exchanges_8 : List Nat := qaX11_exchanges_8 ++ qtX11_exchanges_9
def qtX11_exchanges_7 : List Nat := qaX11_exchanges_7 ++ qtX11_exchanges_8
def qtX11_exchanges_6 : List Nat := qaX11_exchanges_6 ++ qtX11_exchanges_7
def qtX11_exchanges_5 : List Nat := qaX11_exchanges_5 ++ qtX11_exchanges_6
def qtX11_exchanges_4 : List Nat := qaX11_exchanges_4 ++ qtX11_exchanges_5
def qtX11_exchanges_3 : List Nat := qaX11_exchanges_3 ++ qtX11_exchanges_4
def qtX11_exchanges_2 : List Nat := qaX11_exchanges_2 ++ qtX11_exchanges_3
def qtX11_exchanges_1 : List Nat := qaX11_exchanges_1 ++ qtX11_exchanges_2
def qtX11_exchanges_0 : List Nat := qaX11_exchanges_0 ++ qtX11_exchanges_1
theorem qeX11_exchanges : cX11_exchanges.data.toList.map UInt8.toNat = qtX11_exchanges_0 := by decide +kernel
theorem qsX11_exchanges_0 : ∀ i, dqNth qtX11_exchanges_0 (0 + i) = dqNth qtX11_exchanges_0 i := fun i => by rw [Nat.zero_add]
theorem qsX11_exchanges_1 : ∀ i, dqNth qtX11_exchanges_0 (16 + i) = dqNth qtX11_exchanges_1 i := dq_step qsX11_exchanges_0 rfl rfl
theorem qsX11_exchanges_2 : ∀ i, dqNth qtX11_exchanges_0 (32 + i) = dqNth qtX11_exchanges_2 i := dq_step qsX11_exchanges_1 rfl rfl
theorem qsX11_exchanges_3 : ∀ i, dqNth qtX11_exchanges_0 (48 + i) = dqNth qtX11_exchanges_3 i := dq_step qsX11_exchanges_2 rfl rfl
theorem qsX11_exchanges_4 : ∀ i, dqNth qtX11_exchanges_0 (64 + i) = dqNth qtX11_exchanges_4 i := dq_step qsX11_exchanges_3 rfl rfl
theorem qsX11_exchanges_5 : ∀ i, dqNth qtX11_exchanges_0 (80 + i) = dqNth qtX11_exchanges_5 i := dq_step qsX11_exchanges_4 rfl rfl
theorem qsX11_exchanges_6 : ∀ i, dqNth qtX11_exchanges_0 (96 + i) = dqNth qtX11_exchanges_6 i := dq_step qsX11_exchanges_5 rfl rfl
theorem qsX11_exchanges_7 : ∀ i, dqNth qtX11_exchanges_0 (112 + i) = dqNth qtX11_exchanges_7 i := dq_step qsX11_exchanges_6 rfl rfl
theorem qsX11_exchanges_8 : ∀ i, dqNth qtX11_exchanges_0 (128 + i) = dqNth qtX11_exchanges_8 i := dq_step qsX11_exchanges_7 rfl rfl
theorem qsX11_exchanges_9 : ∀ i, dqNth qtX11_exchanges_0 (144 + i) = dqNth qtX11_exchanges_9 i := dq_step qsX11_exchanges_8 rfl rfl
theorem qsX11_exchanges_10 : ∀ i, dqNth qtX11_exchanges_0 (160 + i) = dqNth qtX11_exchanges_10 i := dq_step qsX11_exchanges_9 rfl rfl
theorem qsX11_exchanges_11 : ∀ i, dqNth qtX11_exchanges_0 (176 + i) = dqNth qtX11_exchanges_11 i := dq_step qsX11_exchanges_10 rfl rfl
theorem qX11_exchanges_0 (i b : Nat) (h : dqNth qaX11_exchanges_0 i = some b) : DqBy cX11_exchanges (0 + i) b := dqBy_of qeX11_exchanges ((qsX11_exchanges_0 i).trans (dq_in h))
theorem qX11_exchanges_1 (i b : Nat) (h : dqNth qaX11_exchanges_1 i = some b) : DqBy cX11_exchanges (16 + i) b := dqBy_of qeX11_exchanges ((qsX11_exchanges_1 i).trans (dq_in h))
theorem qX11_exchanges_2 (i b : Nat) (h : dqNth qaX11_exchanges_2 i = some b) : DqBy cX11_exchanges (32 + i) b := dqBy_of qeX11_exchanges ((qsX11_exchanges_2 i).trans (dq_in h))
theorem qX11_exchanges_3 (i b : Nat) (h : dqNth qaX11_exchanges_3 i = some b) : DqBy cX11_exchanges (48 + i) b := dqBy_of qeX11_exchanges ((qsX11_exchanges_3 i).trans (dq_in h))
theorem qX11_exchanges_4 (i b : Nat) (h : dqNth qaX11_exchanges_4 i = some b) : DqBy cX11_exchanges (64 + i) b := dqBy_of qeX11_exchanges ((qsX11_exchanges_4 i).trans (dq_in h))
theorem qX11_exchanges_5 (i b : Nat) (h : dqNth qaX11_exchanges_5 i = some b) : DqBy cX11_exchanges (80 + i) b := dqBy_of qeX11_exchanges ((qsX11_exchanges_5 i).trans (dq_in h))
theorem qX11_exchanges_6 (i b : Nat) (h : dqNth qaX11_exchanges_6 i = some b) : DqBy cX11_exchanges (96 + i) b := dqBy_of qeX11_exchanges ((qsX11_exchanges_6 i).trans (dq_in h))
theorem qX11_exchanges_7 (i b : Nat) (h : dqNth qaX11_exchanges_7 i = some b) : DqBy cX11_exchanges (112 + i) b := dqBy_of qeX11_exchanges ((qsX11_exchanges_7 i).trans (dq_in h))
theorem qX11_exchanges_8 (i b : Nat) (h : dqNth qaX11_exchanges_8 i = some b) : DqBy cX11_exchanges (128 + i) b := dqBy_of qeX11_exchanges ((qsX11_exchanges_8 i).trans (dq_in h))
theorem qX11_exchanges_9 (i b : Nat) (h : dqNth qaX11_exchanges_9 i = some b) : DqBy cX11_exchanges (144 + i) b := dqBy_of qeX11_exchanges ((qsX11_exchanges_9 i).trans (dq_in h))
theorem qX11_exchanges_10 (i b : Nat) (h : dqNth qaX11_exchanges_10 i = some b) : DqBy cX11_exchanges (160 + i) b := dqBy_of qeX11_exchanges ((qsX11_exchanges_10 i).trans (dq_in h))
theorem qX11_exchanges_11 (i b : Nat) (h : dqNth qaX11_exchanges_11 i = some b) : DqBy cX11_exchanges (176 + i) b := dqBy_of qeX11_exchanges ((qsX11_exchanges_11 i).trans (dq_in h))
theorem dX11_exchanges_0 : decode cX11_exchanges 0 = .ok (.aload_n 0, 1) := @dq_o42 cX11_exchanges 0 (qX11_exchanges_0 0 42 rfl)
theorem dX11_exchanges_1 : decode cX11_exchanges 1 = .ok (.getfield 20, 3) := @dq_o180 cX11_exchanges 1 0 20 (qX11_exchanges_0 1 180 rfl) (qX11_exchanges_0 2 0 rfl) (qX11_exchanges_0 3 20 rfl)
theorem dX11_exchanges_4 : decode cX11_exchanges 4 = .ok (.iload_n 1, 1) := @dq_o27 cX11_exchanges 4 (qX11_exchanges_0 4 27 rfl)
theorem dX11_exchanges_5 : decode cX11_exchanges 5 = .ok (.iaload, 1) := @dq_o46 cX11_exchanges 5 (qX11_exchanges_0 5 46 rfl)
theorem dX11_exchanges_6 : decode cX11_exchanges 6 = .ok (.istore_n 2, 1) := @dq_o61 cX11_exchanges 6 (qX11_exchanges_0 6 61 rfl)
theorem dX11_exchanges_7 : decode cX11_exchanges 7 = .ok (.aload_n 0, 1) := @dq_o42 cX11_exchanges 7 (qX11_exchanges_0 7 42 rfl)
theorem dX11_exchanges_8 : decode cX11_exchanges 8 = .ok (.getfield 20, 3) := @dq_o180 cX11_exchanges 8 0 20 (qX11_exchanges_0 8 180 rfl) (qX11_exchanges_0 9 0 rfl) (qX11_exchanges_0 10 20 rfl)
theorem dX11_exchanges_11 : decode cX11_exchanges 11 = .ok (.iload_n 1, 1) := @dq_o27 cX11_exchanges 11 (qX11_exchanges_0 11 27 rfl)
theorem dX11_exchanges_12 : decode cX11_exchanges 12 = .ok (.iconst 1, 1) := @dq_o4 cX11_exchanges 12 (qX11_exchanges_0 12 4 rfl)
theorem dX11_exchanges_13 : decode cX11_exchanges 13 = .ok (.iadd, 1) := @dq_o96 cX11_exchanges 13 (qX11_exchanges_0 13 96 rfl)
theorem dX11_exchanges_14 : decode cX11_exchanges 14 = .ok (.iaload, 1) := @dq_o46 cX11_exchanges 14 (qX11_exchanges_0 14 46 rfl)
theorem dX11_exchanges_15 : decode cX11_exchanges 15 = .ok (.istore_n 3, 1) := @dq_o62 cX11_exchanges 15 (qX11_exchanges_0 15 62 rfl)
theorem dX11_exchanges_16 : decode cX11_exchanges 16 = .ok (.iconst 0, 1) := @dq_o3 cX11_exchanges 16 (qX11_exchanges_1 0 3 rfl)
theorem dX11_exchanges_17 : decode cX11_exchanges 17 = .ok (.istore 4, 2) := @dq_o54 cX11_exchanges 17 4 (qX11_exchanges_1 1 54 rfl) (qX11_exchanges_1 2 4 rfl)
theorem dX11_exchanges_19 : decode cX11_exchanges 19 = .ok (.iload_n 2, 1) := @dq_o28 cX11_exchanges 19 (qX11_exchanges_1 3 28 rfl)
theorem dX11_exchanges_20 : decode cX11_exchanges 20 = .ok (.iconst 1, 1) := @dq_o4 cX11_exchanges 20 (qX11_exchanges_1 4 4 rfl)
theorem dX11_exchanges_21 : decode cX11_exchanges 21 = .ok (.iadd, 1) := @dq_o96 cX11_exchanges 21 (qX11_exchanges_1 5 96 rfl)
theorem dX11_exchanges_22 : decode cX11_exchanges 22 = .ok (.istore 5, 2) := @dq_o54 cX11_exchanges 22 5 (qX11_exchanges_1 6 54 rfl) (qX11_exchanges_1 7 5 rfl)
theorem dX11_exchanges_24 : decode cX11_exchanges 24 = .ok (.iload 5, 2) := @dq_o21 cX11_exchanges 24 5 (qX11_exchanges_1 8 21 rfl) (qX11_exchanges_1 9 5 rfl)
theorem dX11_exchanges_26 : decode cX11_exchanges 26 = .ok (.aload_n 0, 1) := @dq_o42 cX11_exchanges 26 (qX11_exchanges_1 10 42 rfl)
theorem dX11_exchanges_27 : decode cX11_exchanges 27 = .ok (.invokevirtual 88, 3) := @dq_o182 cX11_exchanges 27 0 88 (qX11_exchanges_1 11 182 rfl) (qX11_exchanges_1 12 0 rfl) (qX11_exchanges_1 13 88 rfl)
theorem dX11_exchanges_30 : decode cX11_exchanges 30 = .ok (.if_icmp .ge 22, 3) := @dq_o162 cX11_exchanges 30 0 22 (qX11_exchanges_1 14 162 rfl) (qX11_exchanges_1 15 0 rfl) (qX11_exchanges_2 0 22 rfl)
theorem dX11_exchanges_33 : decode cX11_exchanges 33 = .ok (.iload 4, 2) := @dq_o21 cX11_exchanges 33 4 (qX11_exchanges_2 1 21 rfl) (qX11_exchanges_2 2 4 rfl)
theorem dX11_exchanges_35 : decode cX11_exchanges 35 = .ok (.aload_n 0, 1) := @dq_o42 cX11_exchanges 35 (qX11_exchanges_2 3 42 rfl)
theorem dX11_exchanges_36 : decode cX11_exchanges 36 = .ok (.iload_n 2, 1) := @dq_o28 cX11_exchanges 36 (qX11_exchanges_2 4 28 rfl)
theorem dX11_exchanges_37 : decode cX11_exchanges 37 = .ok (.iload_n 3, 1) := @dq_o29 cX11_exchanges 37 (qX11_exchanges_2 5 29 rfl)
theorem dX11_exchanges_38 : decode cX11_exchanges 38 = .ok (.iload 5, 2) := @dq_o21 cX11_exchanges 38 5 (qX11_exchanges_2 6 21 rfl) (qX11_exchanges_2 7 5 rfl)
theorem dX11_exchanges_40 : decode cX11_exchanges 40 = .ok (.invokevirtual 130, 3) := @dq_o182 cX11_exchanges 40 0 130 (qX11_exchanges_2 8 182 rfl) (qX11_exchanges_2 9 0 rfl) (qX11_exchanges_2 10 130 rfl)
theorem dX11_exchanges_43 : decode cX11_exchanges 43 = .ok (.iadd, 1) := @dq_o96 cX11_exchanges 43 (qX11_exchanges_2 11 96 rfl)
theorem dX11_exchanges_44 : decode cX11_exchanges 44 = .ok (.istore 4, 2) := @dq_o54 cX11_exchanges 44 4 (qX11_exchanges_2 12 54 rfl) (qX11_exchanges_2 13 4 rfl)
theorem dX11_exchanges_46 : decode cX11_exchanges 46 = .ok (.iinc 5 1, 3) := @dq_o132 cX11_exchanges 46 5 1 (qX11_exchanges_2 14 132 rfl) (qX11_exchanges_2 15 5 rfl) (qX11_exchanges_3 0 1 rfl)
theorem dX11_exchanges_49 : decode cX11_exchanges 49 = .ok (.goto (-25), 3) := @dq_o167 cX11_exchanges 49 255 231 (qX11_exchanges_3 1 167 rfl) (qX11_exchanges_3 2 255 rfl) (qX11_exchanges_3 3 231 rfl)
theorem dX11_exchanges_52 : decode cX11_exchanges 52 = .ok (.aload_n 0, 1) := @dq_o42 cX11_exchanges 52 (qX11_exchanges_3 4 42 rfl)
theorem dX11_exchanges_53 : decode cX11_exchanges 53 = .ok (.getfield 127, 3) := @dq_o180 cX11_exchanges 53 0 127 (qX11_exchanges_3 5 180 rfl) (qX11_exchanges_3 6 0 rfl) (qX11_exchanges_3 7 127 rfl)
theorem dX11_exchanges_56 : decode cX11_exchanges 56 = .ok (.iconst 1, 1) := @dq_o4 cX11_exchanges 56 (qX11_exchanges_3 8 4 rfl)
theorem dX11_exchanges_57 : decode cX11_exchanges 57 = .ok (.isub, 1) := @dq_o100 cX11_exchanges 57 (qX11_exchanges_3 9 100 rfl)
theorem dX11_exchanges_58 : decode cX11_exchanges 58 = .ok (.istore 5, 2) := @dq_o54 cX11_exchanges 58 5 (qX11_exchanges_3 10 54 rfl) (qX11_exchanges_3 11 5 rfl)
theorem dX11_exchanges_60 : decode cX11_exchanges 60 = .ok (.iload 5, 2) := @dq_o21 cX11_exchanges 60 5 (qX11_exchanges_3 12 21 rfl) (qX11_exchanges_3 13 5 rfl)
theorem dX11_exchanges_62 : decode cX11_exchanges 62 = .ok (.iload_n 1, 1) := @dq_o27 cX11_exchanges 62 (qX11_exchanges_3 14 27 rfl)
theorem dX11_exchanges_63 : decode cX11_exchanges 63 = .ok (.iconst 1, 1) := @dq_o4 cX11_exchanges 63 (qX11_exchanges_3 15 4 rfl)
theorem dX11_exchanges_64 : decode cX11_exchanges 64 = .ok (.iadd, 1) := @dq_o96 cX11_exchanges 64 (qX11_exchanges_4 0 96 rfl)
theorem dX11_exchanges_65 : decode cX11_exchanges 65 = .ok (.if_icmp .le 26, 3) := @dq_o164 cX11_exchanges 65 0 26 (qX11_exchanges_4 1 164 rfl) (qX11_exchanges_4 2 0 rfl) (qX11_exchanges_4 3 26 rfl)
theorem dX11_exchanges_68 : decode cX11_exchanges 68 = .ok (.aload_n 0, 1) := @dq_o42 cX11_exchanges 68 (qX11_exchanges_4 4 42 rfl)
theorem dX11_exchanges_69 : decode cX11_exchanges 69 = .ok (.getfield 20, 3) := @dq_o180 cX11_exchanges 69 0 20 (qX11_exchanges_4 5 180 rfl) (qX11_exchanges_4 6 0 rfl) (qX11_exchanges_4 7 20 rfl)
theorem dX11_exchanges_72 : decode cX11_exchanges 72 = .ok (.iload 5, 2) := @dq_o21 cX11_exchanges 72 5 (qX11_exchanges_4 8 21 rfl) (qX11_exchanges_4 9 5 rfl)
theorem dX11_exchanges_74 : decode cX11_exchanges 74 = .ok (.iload 4, 2) := @dq_o21 cX11_exchanges 74 4 (qX11_exchanges_4 10 21 rfl) (qX11_exchanges_4 11 4 rfl)
theorem dX11_exchanges_76 : decode cX11_exchanges 76 = .ok (.iadd, 1) := @dq_o96 cX11_exchanges 76 (qX11_exchanges_4 12 96 rfl)
theorem dX11_exchanges_77 : decode cX11_exchanges 77 = .ok (.aload_n 0, 1) := @dq_o42 cX11_exchanges 77 (qX11_exchanges_4 13 42 rfl)
theorem dX11_exchanges_78 : decode cX11_exchanges 78 = .ok (.getfield 20, 3) := @dq_o180 cX11_exchanges 78 0 20 (qX11_exchanges_4 14 180 rfl) (qX11_exchanges_4 15 0 rfl) (qX11_exchanges_5 0 20 rfl)
theorem dX11_exchanges_81 : decode cX11_exchanges 81 = .ok (.iload 5, 2) := @dq_o21 cX11_exchanges 81 5 (qX11_exchanges_5 1 21 rfl) (qX11_exchanges_5 2 5 rfl)
theorem dX11_exchanges_83 : decode cX11_exchanges 83 = .ok (.iaload, 1) := @dq_o46 cX11_exchanges 83 (qX11_exchanges_5 3 46 rfl)
theorem dX11_exchanges_84 : decode cX11_exchanges 84 = .ok (.iastore, 1) := @dq_o79 cX11_exchanges 84 (qX11_exchanges_5 4 79 rfl)
theorem dX11_exchanges_85 : decode cX11_exchanges 85 = .ok (.iinc 5 (-1), 3) := @dq_o132 cX11_exchanges 85 5 255 (qX11_exchanges_5 5 132 rfl) (qX11_exchanges_5 6 5 rfl) (qX11_exchanges_5 7 255 rfl)
theorem dX11_exchanges_88 : decode cX11_exchanges 88 = .ok (.goto (-28), 3) := @dq_o167 cX11_exchanges 88 255 228 (qX11_exchanges_5 8 167 rfl) (qX11_exchanges_5 9 255 rfl) (qX11_exchanges_5 10 228 rfl)
theorem dX11_exchanges_91 : decode cX11_exchanges 91 = .ok (.aload_n 0, 1) := @dq_o42 cX11_exchanges 91 (qX11_exchanges_5 11 42 rfl)
theorem dX11_exchanges_92 : decode cX11_exchanges 92 = .ok (.aload_n 0, 1) := @dq_o42 cX11_exchanges 92 (qX11_exchanges_5 12 42 rfl)
theorem dX11_exchanges_93 : decode cX11_exchanges 93 = .ok (.getfield 127, 3) := @dq_o180 cX11_exchanges 93 0 127 (qX11_exchanges_5 13 180 rfl) (qX11_exchanges_5 14 0 rfl) (qX11_exchanges_5 15 127 rfl)
theorem dX11_exchanges_96 : decode cX11_exchanges 96 = .ok (.iload 4, 2) := @dq_o21 cX11_exchanges 96 4 (qX11_exchanges_6 0 21 rfl) (qX11_exchanges_6 1 4 rfl)
theorem dX11_exchanges_98 : decode cX11_exchanges 98 = .ok (.iadd, 1) := @dq_o96 cX11_exchanges 98 (qX11_exchanges_6 2 96 rfl)
theorem dX11_exchanges_99 : decode cX11_exchanges 99 = .ok (.putfield 127, 3) := @dq_o181 cX11_exchanges 99 0 127 (qX11_exchanges_6 3 181 rfl) (qX11_exchanges_6 4 0 rfl) (qX11_exchanges_6 5 127 rfl)
theorem dX11_exchanges_102 : decode cX11_exchanges 102 = .ok (.aload_n 0, 1) := @dq_o42 cX11_exchanges 102 (qX11_exchanges_6 6 42 rfl)
theorem dX11_exchanges_103 : decode cX11_exchanges 103 = .ok (.getfield 20, 3) := @dq_o180 cX11_exchanges 103 0 20 (qX11_exchanges_6 7 180 rfl) (qX11_exchanges_6 8 0 rfl) (qX11_exchanges_6 9 20 rfl)
theorem dX11_exchanges_106 : decode cX11_exchanges 106 = .ok (.iload_n 1, 1) := @dq_o27 cX11_exchanges 106 (qX11_exchanges_6 10 27 rfl)
theorem dX11_exchanges_107 : decode cX11_exchanges 107 = .ok (.iload_n 3, 1) := @dq_o29 cX11_exchanges 107 (qX11_exchanges_6 11 29 rfl)
theorem dX11_exchanges_108 : decode cX11_exchanges 108 = .ok (.iastore, 1) := @dq_o79 cX11_exchanges 108 (qX11_exchanges_6 12 79 rfl)
theorem dX11_exchanges_109 : decode cX11_exchanges 109 = .ok (.aload_n 0, 1) := @dq_o42 cX11_exchanges 109 (qX11_exchanges_6 13 42 rfl)
theorem dX11_exchanges_110 : decode cX11_exchanges 110 = .ok (.getfield 20, 3) := @dq_o180 cX11_exchanges 110 0 20 (qX11_exchanges_6 14 180 rfl) (qX11_exchanges_6 15 0 rfl) (qX11_exchanges_7 0 20 rfl)
theorem dX11_exchanges_113 : decode cX11_exchanges 113 = .ok (.iload_n 1, 1) := @dq_o27 cX11_exchanges 113 (qX11_exchanges_7 1 27 rfl)
theorem dX11_exchanges_114 : decode cX11_exchanges 114 = .ok (.iconst 1, 1) := @dq_o4 cX11_exchanges 114 (qX11_exchanges_7 2 4 rfl)
theorem dX11_exchanges_115 : decode cX11_exchanges 115 = .ok (.iadd, 1) := @dq_o96 cX11_exchanges 115 (qX11_exchanges_7 3 96 rfl)
theorem dX11_exchanges_116 : decode cX11_exchanges 116 = .ok (.iload_n 2, 1) := @dq_o28 cX11_exchanges 116 (qX11_exchanges_7 4 28 rfl)
theorem dX11_exchanges_117 : decode cX11_exchanges 117 = .ok (.iastore, 1) := @dq_o79 cX11_exchanges 117 (qX11_exchanges_7 5 79 rfl)
theorem dX11_exchanges_118 : decode cX11_exchanges 118 = .ok (.iload_n 1, 1) := @dq_o27 cX11_exchanges 118 (qX11_exchanges_7 6 27 rfl)
theorem dX11_exchanges_119 : decode cX11_exchanges 119 = .ok (.iconst 2, 1) := @dq_o5 cX11_exchanges 119 (qX11_exchanges_7 7 5 rfl)
theorem dX11_exchanges_120 : decode cX11_exchanges 120 = .ok (.iadd, 1) := @dq_o96 cX11_exchanges 120 (qX11_exchanges_7 8 96 rfl)
theorem dX11_exchanges_121 : decode cX11_exchanges 121 = .ok (.istore 5, 2) := @dq_o54 cX11_exchanges 121 5 (qX11_exchanges_7 9 54 rfl) (qX11_exchanges_7 10 5 rfl)
theorem dX11_exchanges_123 : decode cX11_exchanges 123 = .ok (.iload_n 2, 1) := @dq_o28 cX11_exchanges 123 (qX11_exchanges_7 11 28 rfl)
theorem dX11_exchanges_124 : decode cX11_exchanges 124 = .ok (.iconst 1, 1) := @dq_o4 cX11_exchanges 124 (qX11_exchanges_7 12 4 rfl)
theorem dX11_exchanges_125 : decode cX11_exchanges 125 = .ok (.iadd, 1) := @dq_o96 cX11_exchanges 125 (qX11_exchanges_7 13 96 rfl)
theorem dX11_exchanges_126 : decode cX11_exchanges 126 = .ok (.istore 6, 2) := @dq_o54 cX11_exchanges 126 6 (qX11_exchanges_7 14 54 rfl) (qX11_exchanges_7 15 6 rfl)
theorem dX11_exchanges_128 : decode cX11_exchanges 128 = .ok (.iload 6, 2) := @dq_o21 cX11_exchanges 128 6 (qX11_exchanges_8 0 21 rfl) (qX11_exchanges_8 1 6 rfl)
theorem dX11_exchanges_130 : decode cX11_exchanges 130 = .ok (.aload_n 0, 1) := @dq_o42 cX11_exchanges 130 (qX11_exchanges_8 2 42 rfl)
theorem dX11_exchanges_131 : decode cX11_exchanges 131 = .ok (.invokevirtual 88, 3) := @dq_o182 cX11_exchanges 131 0 88 (qX11_exchanges_8 3 182 rfl) (qX11_exchanges_8 4 0 rfl) (qX11_exchanges_8 5 88 rfl)
theorem dX11_exchanges_134 : decode cX11_exchanges 134 = .ok (.if_icmp .ge 45, 3) := @dq_o162 cX11_exchanges 134 0 45 (qX11_exchanges_8 6 162 rfl) (qX11_exchanges_8 7 0 rfl) (qX11_exchanges_8 8 45 rfl)
theorem dX11_exchanges_137 : decode cX11_exchanges 137 = .ok (.aload_n 0, 1) := @dq_o42 cX11_exchanges 137 (qX11_exchanges_8 9 42 rfl)
theorem dX11_exchanges_138 : decode cX11_exchanges 138 = .ok (.iload_n 2, 1) := @dq_o28 cX11_exchanges 138 (qX11_exchanges_8 10 28 rfl)
theorem dX11_exchanges_139 : decode cX11_exchanges 139 = .ok (.iload_n 3, 1) := @dq_o29 cX11_exchanges 139 (qX11_exchanges_8 11 29 rfl)
theorem dX11_exchanges_140 : decode cX11_exchanges 140 = .ok (.iload 6, 2) := @dq_o21 cX11_exchanges 140 6 (qX11_exchanges_8 12 21 rfl) (qX11_exchanges_8 13 6 rfl)
theorem dX11_exchanges_142 : decode cX11_exchanges 142 = .ok (.invokevirtual 130, 3) := @dq_o182 cX11_exchanges 142 0 130 (qX11_exchanges_8 14 182 rfl) (qX11_exchanges_8 15 0 rfl) (qX11_exchanges_9 0 130 rfl)
theorem dX11_exchanges_145 : decode cX11_exchanges 145 = .ok (.istore 7, 2) := @dq_o54 cX11_exchanges 145 7 (qX11_exchanges_9 1 54 rfl) (qX11_exchanges_9 2 7 rfl)
theorem dX11_exchanges_147 : decode cX11_exchanges 147 = .ok (.iload 7, 2) := @dq_o21 cX11_exchanges 147 7 (qX11_exchanges_9 3 21 rfl) (qX11_exchanges_9 4 7 rfl)
theorem dX11_exchanges_149 : decode cX11_exchanges 149 = .ok (.ifCond .le 24, 3) := @dq_o158 cX11_exchanges 149 0 24 (qX11_exchanges_9 5 158 rfl) (qX11_exchanges_9 6 0 rfl) (qX11_exchanges_9 7 24 rfl)
theorem dX11_exchanges_152 : decode cX11_exchanges 152 = .ok (.aload_n 0, 1) := @dq_o42 cX11_exchanges 152 (qX11_exchanges_9 8 42 rfl)
theorem dX11_exchanges_153 : decode cX11_exchanges 153 = .ok (.getfield 20, 3) := @dq_o180 cX11_exchanges 153 0 20 (qX11_exchanges_9 9 180 rfl) (qX11_exchanges_9 10 0 rfl) (qX11_exchanges_9 11 20 rfl)
theorem dX11_exchanges_156 : decode cX11_exchanges 156 = .ok (.iload 5, 2) := @dq_o21 cX11_exchanges 156 5 (qX11_exchanges_9 12 21 rfl) (qX11_exchanges_9 13 5 rfl)
theorem dX11_exchanges_158 : decode cX11_exchanges 158 = .ok (.iload 6, 2) := @dq_o21 cX11_exchanges 158 6 (qX11_exchanges_9 14 21 rfl) (qX11_exchanges_9 15 6 rfl)
theorem dX11_exchanges_160 : decode cX11_exchanges 160 = .ok (.iastore, 1) := @dq_o79 cX11_exchanges 160 (qX11_exchanges_10 0 79 rfl)
theorem dX11_exchanges_161 : decode cX11_exchanges 161 = .ok (.iload 5, 2) := @dq_o21 cX11_exchanges 161 5 (qX11_exchanges_10 1 21 rfl) (qX11_exchanges_10 2 5 rfl)
theorem dX11_exchanges_163 : decode cX11_exchanges 163 = .ok (.iconst 1, 1) := @dq_o4 cX11_exchanges 163 (qX11_exchanges_10 3 4 rfl)
theorem dX11_exchanges_164 : decode cX11_exchanges 164 = .ok (.iadd, 1) := @dq_o96 cX11_exchanges 164 (qX11_exchanges_10 4 96 rfl)
theorem dX11_exchanges_165 : decode cX11_exchanges 165 = .ok (.istore 5, 2) := @dq_o54 cX11_exchanges 165 5 (qX11_exchanges_10 5 54 rfl) (qX11_exchanges_10 6 5 rfl)
theorem dX11_exchanges_167 : decode cX11_exchanges 167 = .ok (.iinc 7 (-1), 3) := @dq_o132 cX11_exchanges 167 7 255 (qX11_exchanges_10 7 132 rfl) (qX11_exchanges_10 8 7 rfl) (qX11_exchanges_10 9 255 rfl)
theorem dX11_exchanges_170 : decode cX11_exchanges 170 = .ok (.goto (-23), 3) := @dq_o167 cX11_exchanges 170 255 233 (qX11_exchanges_10 10 167 rfl) (qX11_exchanges_10 11 255 rfl) (qX11_exchanges_10 12 233 rfl)
theorem dX11_exchanges_173 : decode cX11_exchanges 173 = .ok (.iinc 6 1, 3) := @dq_o132 cX11_exchanges 173 6 1 (qX11_exchanges_10 13 132 rfl) (qX11_exchanges_10 14 6 rfl) (qX11_exchanges_10 15 1 rfl)
theorem dX11_exchanges_176 : decode cX11_exchanges 176 = .ok (.goto (-48), 3) := @dq_o167 cX11_exchanges 176 255 208 (qX11_exchanges_11 0 167 rfl) (qX11_exchanges_11 1 255 rfl) (qX11_exchanges_11 2 208 rfl)
theorem dX11_exchanges_179 : decode cX11_exchanges 179 = .ok (.aload_n 0, 1) := @dq_o42 cX11_exchanges 179 (qX11_exchanges_11 3 42 rfl)
theorem dX11_exchanges_180 : decode cX11_exchanges 180 = .ok (.aload_n 0, 1) := @dq_o42 cX11_exchanges 180 (qX11_exchanges_11 4 42 rfl)
theorem dX11_exchanges_181 : decode cX11_exchanges 181 = .ok (.getfield 134, 3) := @dq_o180 cX11_exchanges 181 0 134 (qX11_exchanges_11 5 180 rfl) (qX11_exchanges_11 6 0 rfl) (qX11_exchanges_11 7 134 rfl)
theorem dX11_exchanges_184 : decode cX11_exchanges 184 = .ok (.iconst 1, 1) := @dq_o4 cX11_exchanges 184 (qX11_exchanges_11 8 4 rfl)
theorem dX11_exchanges_185 : decode cX11_exchanges 185 = .ok (.iadd, 1) := @dq_o96 cX11_exchanges 185 (qX11_exchanges_11 9 96 rfl)
theorem dX11_exchanges_186 : decode cX11_exchanges 186 = .ok (.putfield 134, 3) := @dq_o181 cX11_exchanges 186 0 134 (qX11_exchanges_11 10 181 rfl) (qX11_exchanges_11 11 0 rfl) (qX11_exchanges_11 12 134 rfl)
theorem dX11_exchanges_189 : decode cX11_exchanges 189 = .ok (.return_, 1) := @dq_o177 cX11_exchanges 189 (qX11_exchanges_11 13 177 rfl)
abbrev qaX11_collects_0 : List Nat := [3, 60, 27, 4, 96, 42, 180, 0, 127, 162, 0, 59, 42, 180, 0, 20]
abbrev qaX11_collects_1 : List Nat := [27, 46, 42, 180, 0, 20, 27, 4, 96, 46, 163, 0, 10, 27, 4, 96]
abbrev qaX11_collects_2 : List Nat := [60, 167, 255, 225, 42, 180, 0, 134, 17, 3, 232, 160, 0, 5, 3, 172]
abbrev qaX11_collects_3 : List Nat := [42, 27, 182, 0, 137, 27, 158, 0, 9, 27, 4, 100, 167, 0, 4, 3]
abbrev qaX11_collects_4 : List Nat := [60, 167, 255, 193, 4, 172]
def qtX11_collects_5 : List Nat := []
def qtX11_collects_4 : List Nat := qaX11_collects_4 ++ qtX11_collects_5
def qtX11_collects_3 : List Nat := qaX11_collects_3 ++ qtX11_collects_4
def qtX11_collects_2 : List Nat := qaX11_collects_2 ++ qtX11_collects_3
def qtX11_collects_1 : List Nat := qaX11_collects_1 ++ qtX11_collects_2
def qtX11_collects_0 : List Nat := qaX11_collects_0 ++ qtX11_collects_1
theorem qeX11_collects : cX11_collects.data.toList.map UInt8.toNat = qtX11_collects_0 := by decide +kernel
theorem qsX11_collects_0 : ∀ i, dqNth qtX11_collects_0 (0 + i) = dqNth qtX11_collects_0 i := fun i => by rw [Nat.zero_add]
theorem qsX11_collects_1 : ∀ i, dqNth qtX11_collects_0 (16 + i) = dqNth qtX11_collects_1 i := dq_step qsX11_collects_0 rfl rfl
theorem qsX11_collects_2 : ∀ i, dqNth qtX11_collects_0 (32 + i) = dqNth qtX11_collects_2 i := dq_step qsX11_collects_1 rfl rfl
theorem qsX11_collects_3 : ∀ i, dqNth qtX11_collects_0 (48 + i) = dqNth qtX11_collects_3 i := dq_step qsX11_collects_2 rfl rfl
theorem qsX11_collects_4 : ∀ i, dqNth qtX11_collects_0 (64 + i) = dqNth qtX11_collects_4 i := dq_step qsX11_collects_3 rfl rfl
theorem qX11_collects_0 (i b : Nat) (h : dqNth qaX11_collects_0 i = some b) : DqBy cX11_collects (0 + i) b := dqBy_of qeX11_collects ((qsX11_collects_0 i).trans (dq_in h))
theorem qX11_collects_1 (i b : Nat) (h : dqNth qaX11_collects_1 i = some b) : DqBy cX11_collects (16 + i) b := dqBy_of qeX11_collects ((qsX11_collects_1 i).trans (dq_in h))
theorem qX11_collects_2 (i b : Nat) (h : dqNth qaX11_collects_2 i = some b) : DqBy cX11_collects (32 + i) b := dqBy_of qeX11_collects ((qsX11_collects_2 i).trans (dq_in h))
theorem qX11_collects_3 (i b : Nat) (h : dqNth qaX11_collects_3 i = some b) : DqBy cX11_collects (48 + i) b := dqBy_of qeX11_collects ((qsX11_collects_3 i).trans (dq_in h))
theorem qX11_collects_4 (i b : Nat) (h : dqNth qaX11_collects_4 i = some b) : DqBy cX11_collects (64 + i) b := dqBy_of qeX11_collects ((qsX11_collects_4 i).trans (dq_in h))
theorem dX11_collects_0 : decode cX11_collects 0 = .ok (.iconst 0, 1) := @dq_o3 cX11_collects 0 (qX11_collects_0 0 3 rfl)
theorem dX11_collects_1 : decode cX11_collects 1 = .ok (.istore_n 1, 1) := @dq_o60 cX11_collects 1 (qX11_collects_0 1 60 rfl)
theorem dX11_collects_2 : decode cX11_collects 2 = .ok (.iload_n 1, 1) := @dq_o27 cX11_collects 2 (qX11_collects_0 2 27 rfl)
theorem dX11_collects_3 : decode cX11_collects 3 = .ok (.iconst 1, 1) := @dq_o4 cX11_collects 3 (qX11_collects_0 3 4 rfl)
theorem dX11_collects_4 : decode cX11_collects 4 = .ok (.iadd, 1) := @dq_o96 cX11_collects 4 (qX11_collects_0 4 96 rfl)
theorem dX11_collects_5 : decode cX11_collects 5 = .ok (.aload_n 0, 1) := @dq_o42 cX11_collects 5 (qX11_collects_0 5 42 rfl)
theorem dX11_collects_6 : decode cX11_collects 6 = .ok (.getfield 127, 3) := @dq_o180 cX11_collects 6 0 127 (qX11_collects_0 6 180 rfl) (qX11_collects_0 7 0 rfl) (qX11_collects_0 8 127 rfl)
theorem dX11_collects_9 : decode cX11_collects 9 = .ok (.if_icmp .ge 59, 3) := @dq_o162 cX11_collects 9 0 59 (qX11_collects_0 9 162 rfl) (qX11_collects_0 10 0 rfl) (qX11_collects_0 11 59 rfl)
theorem dX11_collects_12 : decode cX11_collects 12 = .ok (.aload_n 0, 1) := @dq_o42 cX11_collects 12 (qX11_collects_0 12 42 rfl)
theorem dX11_collects_13 : decode cX11_collects 13 = .ok (.getfield 20, 3) := @dq_o180 cX11_collects 13 0 20 (qX11_collects_0 13 180 rfl) (qX11_collects_0 14 0 rfl) (qX11_collects_0 15 20 rfl)
theorem dX11_collects_16 : decode cX11_collects 16 = .ok (.iload_n 1, 1) := @dq_o27 cX11_collects 16 (qX11_collects_1 0 27 rfl)
theorem dX11_collects_17 : decode cX11_collects 17 = .ok (.iaload, 1) := @dq_o46 cX11_collects 17 (qX11_collects_1 1 46 rfl)
theorem dX11_collects_18 : decode cX11_collects 18 = .ok (.aload_n 0, 1) := @dq_o42 cX11_collects 18 (qX11_collects_1 2 42 rfl)
theorem dX11_collects_19 : decode cX11_collects 19 = .ok (.getfield 20, 3) := @dq_o180 cX11_collects 19 0 20 (qX11_collects_1 3 180 rfl) (qX11_collects_1 4 0 rfl) (qX11_collects_1 5 20 rfl)
theorem dX11_collects_22 : decode cX11_collects 22 = .ok (.iload_n 1, 1) := @dq_o27 cX11_collects 22 (qX11_collects_1 6 27 rfl)
theorem dX11_collects_23 : decode cX11_collects 23 = .ok (.iconst 1, 1) := @dq_o4 cX11_collects 23 (qX11_collects_1 7 4 rfl)
theorem dX11_collects_24 : decode cX11_collects 24 = .ok (.iadd, 1) := @dq_o96 cX11_collects 24 (qX11_collects_1 8 96 rfl)
theorem dX11_collects_25 : decode cX11_collects 25 = .ok (.iaload, 1) := @dq_o46 cX11_collects 25 (qX11_collects_1 9 46 rfl)
theorem dX11_collects_26 : decode cX11_collects 26 = .ok (.if_icmp .gt 10, 3) := @dq_o163 cX11_collects 26 0 10 (qX11_collects_1 10 163 rfl) (qX11_collects_1 11 0 rfl) (qX11_collects_1 12 10 rfl)
theorem dX11_collects_29 : decode cX11_collects 29 = .ok (.iload_n 1, 1) := @dq_o27 cX11_collects 29 (qX11_collects_1 13 27 rfl)
theorem dX11_collects_30 : decode cX11_collects 30 = .ok (.iconst 1, 1) := @dq_o4 cX11_collects 30 (qX11_collects_1 14 4 rfl)
theorem dX11_collects_31 : decode cX11_collects 31 = .ok (.iadd, 1) := @dq_o96 cX11_collects 31 (qX11_collects_1 15 96 rfl)
theorem dX11_collects_32 : decode cX11_collects 32 = .ok (.istore_n 1, 1) := @dq_o60 cX11_collects 32 (qX11_collects_2 0 60 rfl)
theorem dX11_collects_33 : decode cX11_collects 33 = .ok (.goto (-31), 3) := @dq_o167 cX11_collects 33 255 225 (qX11_collects_2 1 167 rfl) (qX11_collects_2 2 255 rfl) (qX11_collects_2 3 225 rfl)
theorem dX11_collects_36 : decode cX11_collects 36 = .ok (.aload_n 0, 1) := @dq_o42 cX11_collects 36 (qX11_collects_2 4 42 rfl)
theorem dX11_collects_37 : decode cX11_collects 37 = .ok (.getfield 134, 3) := @dq_o180 cX11_collects 37 0 134 (qX11_collects_2 5 180 rfl) (qX11_collects_2 6 0 rfl) (qX11_collects_2 7 134 rfl)
theorem dX11_collects_40 : decode cX11_collects 40 = .ok (.sipush 1000, 3) := @dq_o17 cX11_collects 40 3 232 (qX11_collects_2 8 17 rfl) (qX11_collects_2 9 3 rfl) (qX11_collects_2 10 232 rfl)
theorem dX11_collects_43 : decode cX11_collects 43 = .ok (.if_icmp .ne 5, 3) := @dq_o160 cX11_collects 43 0 5 (qX11_collects_2 11 160 rfl) (qX11_collects_2 12 0 rfl) (qX11_collects_2 13 5 rfl)
theorem dX11_collects_46 : decode cX11_collects 46 = .ok (.iconst 0, 1) := @dq_o3 cX11_collects 46 (qX11_collects_2 14 3 rfl)
theorem dX11_collects_47 : decode cX11_collects 47 = .ok (.ireturn, 1) := @dq_o172 cX11_collects 47 (qX11_collects_2 15 172 rfl)
theorem dX11_collects_48 : decode cX11_collects 48 = .ok (.aload_n 0, 1) := @dq_o42 cX11_collects 48 (qX11_collects_3 0 42 rfl)
theorem dX11_collects_49 : decode cX11_collects 49 = .ok (.iload_n 1, 1) := @dq_o27 cX11_collects 49 (qX11_collects_3 1 27 rfl)
theorem dX11_collects_50 : decode cX11_collects 50 = .ok (.invokevirtual 137, 3) := @dq_o182 cX11_collects 50 0 137 (qX11_collects_3 2 182 rfl) (qX11_collects_3 3 0 rfl) (qX11_collects_3 4 137 rfl)
theorem dX11_collects_53 : decode cX11_collects 53 = .ok (.iload_n 1, 1) := @dq_o27 cX11_collects 53 (qX11_collects_3 5 27 rfl)
theorem dX11_collects_54 : decode cX11_collects 54 = .ok (.ifCond .le 9, 3) := @dq_o158 cX11_collects 54 0 9 (qX11_collects_3 6 158 rfl) (qX11_collects_3 7 0 rfl) (qX11_collects_3 8 9 rfl)
theorem dX11_collects_57 : decode cX11_collects 57 = .ok (.iload_n 1, 1) := @dq_o27 cX11_collects 57 (qX11_collects_3 9 27 rfl)
theorem dX11_collects_58 : decode cX11_collects 58 = .ok (.iconst 1, 1) := @dq_o4 cX11_collects 58 (qX11_collects_3 10 4 rfl)
theorem dX11_collects_59 : decode cX11_collects 59 = .ok (.isub, 1) := @dq_o100 cX11_collects 59 (qX11_collects_3 11 100 rfl)
theorem dX11_collects_60 : decode cX11_collects 60 = .ok (.goto 4, 3) := @dq_o167 cX11_collects 60 0 4 (qX11_collects_3 12 167 rfl) (qX11_collects_3 13 0 rfl) (qX11_collects_3 14 4 rfl)
theorem dX11_collects_63 : decode cX11_collects 63 = .ok (.iconst 0, 1) := @dq_o3 cX11_collects 63 (qX11_collects_3 15 3 rfl)
theorem dX11_collects_64 : decode cX11_collects 64 = .ok (.istore_n 1, 1) := @dq_o60 cX11_collects 64 (qX11_collects_4 0 60 rfl)
theorem dX11_collects_65 : decode cX11_collects 65 = .ok (.goto (-63), 3) := @dq_o167 cX11_collects 65 255 193 (qX11_collects_4 1 167 rfl) (qX11_collects_4 2 255 rfl) (qX11_collects_4 3 193 rfl)
theorem dX11_collects_68 : decode cX11_collects 68 = .ok (.iconst 1, 1) := @dq_o4 cX11_collects 68 (qX11_collects_4 4 4 rfl)
theorem dX11_collects_69 : decode cX11_collects 69 = .ok (.ireturn, 1) := @dq_o172 cX11_collects 69 (qX11_collects_4 5 172 rfl)
abbrev qaX11_letters_0 : List Nat := [3, 61, 3, 62, 29, 42, 180, 0, 127, 162, 0, 23, 42, 180, 0, 20]
abbrev qaX11_letters_1 : List Nat := [29, 46, 27, 160, 0, 7, 28, 4, 96, 61, 132, 3, 1, 167, 255, 231]
abbrev qaX11_letters_2 : List Nat := [28, 172]
def qtX11_letters_3 : List Nat := []
def qtX11_letters_2 : List Nat := qaX11_letters_2 ++ qtX11_letters_3
def qtX11_letters_1 : List Nat := qaX11_letters_1 ++ qtX11_letters_2
def qtX11_letters_0 : List Nat := qaX11_letters_0 ++ qtX11_letters_1
theorem qeX11_letters : cX11_letters.data.toList.map UInt8.toNat = qtX11_letters_0 := by decide +kernel
theorem qsX11_letters_0 : ∀ i, dqNth qtX11_letters_0 (0 + i) = dqNth qtX11_letters_0 i := fun i => by rw [Nat.zero_add]
theorem qsX11_letters_1 : ∀ i, dqNth qtX11_letters_0 (16 + i) = dqNth qtX11_letters_1 i := dq_step qsX11_letters_0 rfl rfl
theorem qsX11_letters_2 : ∀ i, dqNth qtX11_letters_0 (32 + i) = dqNth qtX11_letters_2 i := dq_step qsX11_letters_1 rfl rfl
theorem qX11_letters_0 (i b : Nat) (h : dqNth qaX11_letters_0 i = some b) : DqBy cX11_letters (0 + i) b := dqBy_of qeX11_letters ((qsX11_letters_0 i).trans (dq_in h))
theorem qX11_letters_1 (i b : Nat) (h : dqNth qaX11_letters_1 i = some b) : DqBy cX11_letters (16 + i) b := dqBy_of qeX11_letters ((qsX11_letters_1 i).trans (dq_in h))
theorem qX11_letters_2 (i b : Nat) (h : dqNth qaX11_letters_2 i = some b) : DqBy cX11_letters (32 + i) b := dqBy_of qeX11_letters ((qsX11_letters_2 i).trans (dq_in h))
theorem dX11_letters_0 : decode cX11_letters 0 = .ok (.iconst 0, 1) := @dq_o3 cX11_letters 0 (qX11_letters_0 0 3 rfl)
theorem dX11_letters_1 : decode cX11_letters 1 = .ok (.istore_n 2, 1) := @dq_o61 cX11_letters 1 (qX11_letters_0 1 61 rfl)
theorem dX11_letters_2 : decode cX11_letters 2 = .ok (.iconst 0, 1) := @dq_o3 cX11_letters 2 (qX11_letters_0 2 3 rfl)
theorem dX11_letters_3 : decode cX11_letters 3 = .ok (.istore_n 3, 1) := @dq_o62 cX11_letters 3 (qX11_letters_0 3 62 rfl)
theorem dX11_letters_4 : decode cX11_letters 4 = .ok (.iload_n 3, 1) := @dq_o29 cX11_letters 4 (qX11_letters_0 4 29 rfl)
theorem dX11_letters_5 : decode cX11_letters 5 = .ok (.aload_n 0, 1) := @dq_o42 cX11_letters 5 (qX11_letters_0 5 42 rfl)
theorem dX11_letters_6 : decode cX11_letters 6 = .ok (.getfield 127, 3) := @dq_o180 cX11_letters 6 0 127 (qX11_letters_0 6 180 rfl) (qX11_letters_0 7 0 rfl) (qX11_letters_0 8 127 rfl)
theorem dX11_letters_9 : decode cX11_letters 9 = .ok (.if_icmp .ge 23, 3) := @dq_o162 cX11_letters 9 0 23 (qX11_letters_0 9 162 rfl) (qX11_letters_0 10 0 rfl) (qX11_letters_0 11 23 rfl)
theorem dX11_letters_12 : decode cX11_letters 12 = .ok (.aload_n 0, 1) := @dq_o42 cX11_letters 12 (qX11_letters_0 12 42 rfl)
theorem dX11_letters_13 : decode cX11_letters 13 = .ok (.getfield 20, 3) := @dq_o180 cX11_letters 13 0 20 (qX11_letters_0 13 180 rfl) (qX11_letters_0 14 0 rfl) (qX11_letters_0 15 20 rfl)
theorem dX11_letters_16 : decode cX11_letters 16 = .ok (.iload_n 3, 1) := @dq_o29 cX11_letters 16 (qX11_letters_1 0 29 rfl)
theorem dX11_letters_17 : decode cX11_letters 17 = .ok (.iaload, 1) := @dq_o46 cX11_letters 17 (qX11_letters_1 1 46 rfl)
theorem dX11_letters_18 : decode cX11_letters 18 = .ok (.iload_n 1, 1) := @dq_o27 cX11_letters 18 (qX11_letters_1 2 27 rfl)
theorem dX11_letters_19 : decode cX11_letters 19 = .ok (.if_icmp .ne 7, 3) := @dq_o160 cX11_letters 19 0 7 (qX11_letters_1 3 160 rfl) (qX11_letters_1 4 0 rfl) (qX11_letters_1 5 7 rfl)
theorem dX11_letters_22 : decode cX11_letters 22 = .ok (.iload_n 2, 1) := @dq_o28 cX11_letters 22 (qX11_letters_1 6 28 rfl)
theorem dX11_letters_23 : decode cX11_letters 23 = .ok (.iconst 1, 1) := @dq_o4 cX11_letters 23 (qX11_letters_1 7 4 rfl)
theorem dX11_letters_24 : decode cX11_letters 24 = .ok (.iadd, 1) := @dq_o96 cX11_letters 24 (qX11_letters_1 8 96 rfl)
theorem dX11_letters_25 : decode cX11_letters 25 = .ok (.istore_n 2, 1) := @dq_o61 cX11_letters 25 (qX11_letters_1 9 61 rfl)
theorem dX11_letters_26 : decode cX11_letters 26 = .ok (.iinc 3 1, 3) := @dq_o132 cX11_letters 26 3 1 (qX11_letters_1 10 132 rfl) (qX11_letters_1 11 3 rfl) (qX11_letters_1 12 1 rfl)
theorem dX11_letters_29 : decode cX11_letters 29 = .ok (.goto (-25), 3) := @dq_o167 cX11_letters 29 255 231 (qX11_letters_1 13 167 rfl) (qX11_letters_1 14 255 rfl) (qX11_letters_1 15 231 rfl)
theorem dX11_letters_32 : decode cX11_letters 32 = .ok (.iload_n 2, 1) := @dq_o28 cX11_letters 32 (qX11_letters_2 0 28 rfl)
theorem dX11_letters_33 : decode cX11_letters 33 = .ok (.ireturn, 1) := @dq_o172 cX11_letters 33 (qX11_letters_2 1 172 rfl)
abbrev qaX11_isAlikeBy_0 : List Nat := [3, 54, 4, 21, 4, 5, 162, 0, 108, 42, 3, 181, 0, 127, 42, 3]
abbrev qaX11_isAlikeBy_1 : List Nat := [181, 0, 134, 42, 27, 182, 0, 140, 42, 28, 182, 0, 140, 42, 29, 182]
abbrev qaX11_isAlikeBy_2 : List Nat := [0, 140, 42, 21, 4, 182, 0, 137, 42, 182, 0, 143, 54, 5, 3, 54]
abbrev qaX11_isAlikeBy_3 : List Nat := [6, 21, 6, 42, 182, 0, 88, 162, 0, 53, 21, 5, 153, 0, 48, 21]
abbrev qaX11_isAlikeBy_4 : List Nat := [4, 154, 0, 19, 42, 180, 0, 23, 21, 6, 42, 21, 6, 182, 0, 147]
abbrev qaX11_isAlikeBy_5 : List Nat := [79, 167, 0, 21, 42, 180, 0, 23, 21, 6, 46, 42, 21, 6, 182, 0]
abbrev qaX11_isAlikeBy_6 : List Nat := [147, 159, 0, 5, 3, 172, 132, 6, 1, 167, 255, 200, 132, 4, 1, 167]
abbrev qaX11_isAlikeBy_7 : List Nat := [255, 148, 4, 172]
def qtX11_isAlikeBy_8 : List Nat := []
def qtX11_isAlikeBy_7 : List Nat := qaX11_isAlikeBy_7 ++ qtX11_isAlikeBy_8
def qtX11_isAlikeBy_6 : List Nat := qaX11_isAlikeBy_6 ++ qtX11_isAlikeBy_7
def qtX11_isAlikeBy_5 : List Nat := qaX11_isAlikeBy_5 ++ qtX11_isAlikeBy_6
def qtX11_isAlikeBy_4 : List Nat := qaX11_isAlikeBy_4 ++ qtX11_isAlikeBy_5
def qtX11_isAlikeBy_3 : List Nat := qaX11_isAlikeBy_3 ++ qtX11_isAlikeBy_4
def qtX11_isAlikeBy_2 : List Nat := qaX11_isAlikeBy_2 ++ qtX11_isAlikeBy_3
def qtX11_isAlikeBy_1 : List Nat := qaX11_isAlikeBy_1 ++ qtX11_isAlikeBy_2
def qtX11_isAlikeBy_0 : List Nat := qaX11_isAlikeBy_0 ++ qtX11_isAlikeBy_1
theorem qeX11_isAlikeBy : cX11_isAlikeBy.data.toList.map UInt8.toNat = qtX11_isAlikeBy_0 := by decide +kernel
theorem qsX11_isAlikeBy_0 : ∀ i, dqNth qtX11_isAlikeBy_0 (0 + i) = dqNth qtX11_isAlikeBy_0 i := fun i => by rw [Nat.zero_add]
theorem qsX11_isAlikeBy_1 : ∀ i, dqNth qtX11_isAlikeBy_0 (16 + i) = dqNth qtX11_isAlikeBy_1 i := dq_step qsX11_isAlikeBy_0 rfl rfl
theorem qsX11_isAlikeBy_2 : ∀ i, dqNth qtX11_isAlikeBy_0 (32 + i) = dqNth qtX11_isAlikeBy_2 i := dq_step qsX11_isAlikeBy_1 rfl rfl
theorem qsX11_isAlikeBy_3 : ∀ i, dqNth qtX11_isAlikeBy_0 (48 + i) = dqNth qtX11_isAlikeBy_3 i := dq_step qsX11_isAlikeBy_2 rfl rfl
theorem qsX11_isAlikeBy_4 : ∀ i, dqNth qtX11_isAlikeBy_0 (64 + i) = dqNth qtX11_isAlikeBy_4 i := dq_step qsX11_isAlikeBy_3 rfl rfl
theorem qsX11_isAlikeBy_5 : ∀ i, dqNth qtX11_isAlikeBy_0 (80 + i) = dqNth qtX11_isAlikeBy_5 i := dq_step qsX11_isAlikeBy_4 rfl rfl
theorem qsX11_isAlikeBy_6 : ∀ i, dqNth qtX11_isAlikeBy_0 (96 + i) = dqNth qtX11_isAlikeBy_6 i := dq_step qsX11_isAlikeBy_5 rfl rfl
theorem qsX11_isAlikeBy_7 : ∀ i, dqNth qtX11_isAlikeBy_0 (112 + i) = dqNth qtX11_isAlikeBy_7 i := dq_step qsX11_isAlikeBy_6 rfl rfl
theorem qX11_isAlikeBy_0 (i b : Nat) (h : dqNth qaX11_isAlikeBy_0 i = some b) : DqBy cX11_isAlikeBy (0 + i) b := dqBy_of qeX11_isAlikeBy ((qsX11_isAlikeBy_0 i).trans (dq_in h))
theorem qX11_isAlikeBy_1 (i b : Nat) (h : dqNth qaX11_isAlikeBy_1 i = some b) : DqBy cX11_isAlikeBy (16 + i) b := dqBy_of qeX11_isAlikeBy ((qsX11_isAlikeBy_1 i).trans (dq_in h))
theorem qX11_isAlikeBy_2 (i b : Nat) (h : dqNth qaX11_isAlikeBy_2 i = some b) : DqBy cX11_isAlikeBy (32 + i) b := dqBy_of qeX11_isAlikeBy ((qsX11_isAlikeBy_2 i).trans (dq_in h))
theorem qX11_isAlikeBy_3 (i b : Nat) (h : dqNth qaX11_isAlikeBy_3 i = some b) : DqBy cX11_isAlikeBy (48 + i) b := dqBy_of qeX11_isAlikeBy ((qsX11_isAlikeBy_3 i).trans (dq_in h))
theorem qX11_isAlikeBy_4 (i b : Nat) (h : dqNth qaX11_isAlikeBy_4 i = some b) : DqBy cX11_isAlikeBy (64 + i) b := dqBy_of qeX11_isAlikeBy ((qsX11_isAlikeBy_4 i).trans (dq_in h))
theorem qX11_isAlikeBy_5 (i b : Nat) (h : dqNth qaX11_isAlikeBy_5 i = some b) : DqBy cX11_isAlikeBy (80 + i) b := dqBy_of qeX11_isAlikeBy ((qsX11_isAlikeBy_5 i).trans (dq_in h))
theorem qX11_isAlikeBy_6 (i b : Nat) (h : dqNth qaX11_isAlikeBy_6 i = some b) : DqBy cX11_isAlikeBy (96 + i) b := dqBy_of qeX11_isAlikeBy ((qsX11_isAlikeBy_6 i).trans (dq_in h))
theorem qX11_isAlikeBy_7 (i b : Nat) (h : dqNth qaX11_isAlikeBy_7 i = some b) : DqBy cX11_isAlikeBy (112 + i) b := dqBy_of qeX11_isAlikeBy ((qsX11_isAlikeBy_7 i).trans (dq_in h))
theorem dX11_isAlikeBy_0 : decode cX11_isAlikeBy 0 = .ok (.iconst 0, 1) := @dq_o3 cX11_isAlikeBy 0 (qX11_isAlikeBy_0 0 3 rfl)
theorem dX11_isAlikeBy_1 : decode cX11_isAlikeBy 1 = .ok (.istore 4, 2) := @dq_o54 cX11_isAlikeBy 1 4 (qX11_isAlikeBy_0 1 54 rfl) (qX11_isAlikeBy_0 2 4 rfl)
theorem dX11_isAlikeBy_3 : decode cX11_isAlikeBy 3 = .ok (.iload 4, 2) := @dq_o21 cX11_isAlikeBy 3 4 (qX11_isAlikeBy_0 3 21 rfl) (qX11_isAlikeBy_0 4 4 rfl)
theorem dX11_isAlikeBy_5 : decode cX11_isAlikeBy 5 = .ok (.iconst 2, 1) := @dq_o5 cX11_isAlikeBy 5 (qX11_isAlikeBy_0 5 5 rfl)
theorem dX11_isAlikeBy_6 : decode cX11_isAlikeBy 6 = .ok (.if_icmp .ge 108, 3) := @dq_o162 cX11_isAlikeBy 6 0 108 (qX11_isAlikeBy_0 6 162 rfl) (qX11_isAlikeBy_0 7 0 rfl) (qX11_isAlikeBy_0 8 108 rfl)
theorem dX11_isAlikeBy_9 : decode cX11_isAlikeBy 9 = .ok (.aload_n 0, 1) := @dq_o42 cX11_isAlikeBy 9 (qX11_isAlikeBy_0 9 42 rfl)
theorem dX11_isAlikeBy_10 : decode cX11_isAlikeBy 10 = .ok (.iconst 0, 1) := @dq_o3 cX11_isAlikeBy 10 (qX11_isAlikeBy_0 10 3 rfl)
theorem dX11_isAlikeBy_11 : decode cX11_isAlikeBy 11 = .ok (.putfield 127, 3) := @dq_o181 cX11_isAlikeBy 11 0 127 (qX11_isAlikeBy_0 11 181 rfl) (qX11_isAlikeBy_0 12 0 rfl) (qX11_isAlikeBy_0 13 127 rfl)
theorem dX11_isAlikeBy_14 : decode cX11_isAlikeBy 14 = .ok (.aload_n 0, 1) := @dq_o42 cX11_isAlikeBy 14 (qX11_isAlikeBy_0 14 42 rfl)
theorem dX11_isAlikeBy_15 : decode cX11_isAlikeBy 15 = .ok (.iconst 0, 1) := @dq_o3 cX11_isAlikeBy 15 (qX11_isAlikeBy_0 15 3 rfl)
theorem dX11_isAlikeBy_16 : decode cX11_isAlikeBy 16 = .ok (.putfield 134, 3) := @dq_o181 cX11_isAlikeBy 16 0 134 (qX11_isAlikeBy_1 0 181 rfl) (qX11_isAlikeBy_1 1 0 rfl) (qX11_isAlikeBy_1 2 134 rfl)
theorem dX11_isAlikeBy_19 : decode cX11_isAlikeBy 19 = .ok (.aload_n 0, 1) := @dq_o42 cX11_isAlikeBy 19 (qX11_isAlikeBy_1 3 42 rfl)
theorem dX11_isAlikeBy_20 : decode cX11_isAlikeBy 20 = .ok (.iload_n 1, 1) := @dq_o27 cX11_isAlikeBy 20 (qX11_isAlikeBy_1 4 27 rfl)
theorem dX11_isAlikeBy_21 : decode cX11_isAlikeBy 21 = .ok (.invokevirtual 140, 3) := @dq_o182 cX11_isAlikeBy 21 0 140 (qX11_isAlikeBy_1 5 182 rfl) (qX11_isAlikeBy_1 6 0 rfl) (qX11_isAlikeBy_1 7 140 rfl)
theorem dX11_isAlikeBy_24 : decode cX11_isAlikeBy 24 = .ok (.aload_n 0, 1) := @dq_o42 cX11_isAlikeBy 24 (qX11_isAlikeBy_1 8 42 rfl)
theorem dX11_isAlikeBy_25 : decode cX11_isAlikeBy 25 = .ok (.iload_n 2, 1) := @dq_o28 cX11_isAlikeBy 25 (qX11_isAlikeBy_1 9 28 rfl)
theorem dX11_isAlikeBy_26 : decode cX11_isAlikeBy 26 = .ok (.invokevirtual 140, 3) := @dq_o182 cX11_isAlikeBy 26 0 140 (qX11_isAlikeBy_1 10 182 rfl) (qX11_isAlikeBy_1 11 0 rfl) (qX11_isAlikeBy_1 12 140 rfl)
theorem dX11_isAlikeBy_29 : decode cX11_isAlikeBy 29 = .ok (.aload_n 0, 1) := @dq_o42 cX11_isAlikeBy 29 (qX11_isAlikeBy_1 13 42 rfl)
theorem dX11_isAlikeBy_30 : decode cX11_isAlikeBy 30 = .ok (.iload_n 3, 1) := @dq_o29 cX11_isAlikeBy 30 (qX11_isAlikeBy_1 14 29 rfl)
theorem dX11_isAlikeBy_31 : decode cX11_isAlikeBy 31 = .ok (.invokevirtual 140, 3) := @dq_o182 cX11_isAlikeBy 31 0 140 (qX11_isAlikeBy_1 15 182 rfl) (qX11_isAlikeBy_2 0 0 rfl) (qX11_isAlikeBy_2 1 140 rfl)
theorem dX11_isAlikeBy_34 : decode cX11_isAlikeBy 34 = .ok (.aload_n 0, 1) := @dq_o42 cX11_isAlikeBy 34 (qX11_isAlikeBy_2 2 42 rfl)
theorem dX11_isAlikeBy_35 : decode cX11_isAlikeBy 35 = .ok (.iload 4, 2) := @dq_o21 cX11_isAlikeBy 35 4 (qX11_isAlikeBy_2 3 21 rfl) (qX11_isAlikeBy_2 4 4 rfl)
theorem dX11_isAlikeBy_37 : decode cX11_isAlikeBy 37 = .ok (.invokevirtual 137, 3) := @dq_o182 cX11_isAlikeBy 37 0 137 (qX11_isAlikeBy_2 5 182 rfl) (qX11_isAlikeBy_2 6 0 rfl) (qX11_isAlikeBy_2 7 137 rfl)
theorem dX11_isAlikeBy_40 : decode cX11_isAlikeBy 40 = .ok (.aload_n 0, 1) := @dq_o42 cX11_isAlikeBy 40 (qX11_isAlikeBy_2 8 42 rfl)
theorem dX11_isAlikeBy_41 : decode cX11_isAlikeBy 41 = .ok (.invokevirtual 143, 3) := @dq_o182 cX11_isAlikeBy 41 0 143 (qX11_isAlikeBy_2 9 182 rfl) (qX11_isAlikeBy_2 10 0 rfl) (qX11_isAlikeBy_2 11 143 rfl)
theorem dX11_isAlikeBy_44 : decode cX11_isAlikeBy 44 = .ok (.istore 5, 2) := @dq_o54 cX11_isAlikeBy 44 5 (qX11_isAlikeBy_2 12 54 rfl) (qX11_isAlikeBy_2 13 5 rfl)
theorem dX11_isAlikeBy_46 : decode cX11_isAlikeBy 46 = .ok (.iconst 0, 1) := @dq_o3 cX11_isAlikeBy 46 (qX11_isAlikeBy_2 14 3 rfl)
theorem dX11_isAlikeBy_47 : decode cX11_isAlikeBy 47 = .ok (.istore 6, 2) := @dq_o54 cX11_isAlikeBy 47 6 (qX11_isAlikeBy_2 15 54 rfl) (qX11_isAlikeBy_3 0 6 rfl)
theorem dX11_isAlikeBy_49 : decode cX11_isAlikeBy 49 = .ok (.iload 6, 2) := @dq_o21 cX11_isAlikeBy 49 6 (qX11_isAlikeBy_3 1 21 rfl) (qX11_isAlikeBy_3 2 6 rfl)
theorem dX11_isAlikeBy_51 : decode cX11_isAlikeBy 51 = .ok (.aload_n 0, 1) := @dq_o42 cX11_isAlikeBy 51 (qX11_isAlikeBy_3 3 42 rfl)
theorem dX11_isAlikeBy_52 : decode cX11_isAlikeBy 52 = .ok (.invokevirtual 88, 3) := @dq_o182 cX11_isAlikeBy 52 0 88 (qX11_isAlikeBy_3 4 182 rfl) (qX11_isAlikeBy_3 5 0 rfl) (qX11_isAlikeBy_3 6 88 rfl)
theorem dX11_isAlikeBy_55 : decode cX11_isAlikeBy 55 = .ok (.if_icmp .ge 53, 3) := @dq_o162 cX11_isAlikeBy 55 0 53 (qX11_isAlikeBy_3 7 162 rfl) (qX11_isAlikeBy_3 8 0 rfl) (qX11_isAlikeBy_3 9 53 rfl)
theorem dX11_isAlikeBy_58 : decode cX11_isAlikeBy 58 = .ok (.iload 5, 2) := @dq_o21 cX11_isAlikeBy 58 5 (qX11_isAlikeBy_3 10 21 rfl) (qX11_isAlikeBy_3 11 5 rfl)
theorem dX11_isAlikeBy_60 : decode cX11_isAlikeBy 60 = .ok (.ifCond .eq 48, 3) := @dq_o153 cX11_isAlikeBy 60 0 48 (qX11_isAlikeBy_3 12 153 rfl) (qX11_isAlikeBy_3 13 0 rfl) (qX11_isAlikeBy_3 14 48 rfl)
theorem dX11_isAlikeBy_63 : decode cX11_isAlikeBy 63 = .ok (.iload 4, 2) := @dq_o21 cX11_isAlikeBy 63 4 (qX11_isAlikeBy_3 15 21 rfl) (qX11_isAlikeBy_4 0 4 rfl)
theorem dX11_isAlikeBy_65 : decode cX11_isAlikeBy 65 = .ok (.ifCond .ne 19, 3) := @dq_o154 cX11_isAlikeBy 65 0 19 (qX11_isAlikeBy_4 1 154 rfl) (qX11_isAlikeBy_4 2 0 rfl) (qX11_isAlikeBy_4 3 19 rfl)
theorem dX11_isAlikeBy_68 : decode cX11_isAlikeBy 68 = .ok (.aload_n 0, 1) := @dq_o42 cX11_isAlikeBy 68 (qX11_isAlikeBy_4 4 42 rfl)
theorem dX11_isAlikeBy_69 : decode cX11_isAlikeBy 69 = .ok (.getfield 23, 3) := @dq_o180 cX11_isAlikeBy 69 0 23 (qX11_isAlikeBy_4 5 180 rfl) (qX11_isAlikeBy_4 6 0 rfl) (qX11_isAlikeBy_4 7 23 rfl)
theorem dX11_isAlikeBy_72 : decode cX11_isAlikeBy 72 = .ok (.iload 6, 2) := @dq_o21 cX11_isAlikeBy 72 6 (qX11_isAlikeBy_4 8 21 rfl) (qX11_isAlikeBy_4 9 6 rfl)
theorem dX11_isAlikeBy_74 : decode cX11_isAlikeBy 74 = .ok (.aload_n 0, 1) := @dq_o42 cX11_isAlikeBy 74 (qX11_isAlikeBy_4 10 42 rfl)
theorem dX11_isAlikeBy_75 : decode cX11_isAlikeBy 75 = .ok (.iload 6, 2) := @dq_o21 cX11_isAlikeBy 75 6 (qX11_isAlikeBy_4 11 21 rfl) (qX11_isAlikeBy_4 12 6 rfl)
theorem dX11_isAlikeBy_77 : decode cX11_isAlikeBy 77 = .ok (.invokevirtual 147, 3) := @dq_o182 cX11_isAlikeBy 77 0 147 (qX11_isAlikeBy_4 13 182 rfl) (qX11_isAlikeBy_4 14 0 rfl) (qX11_isAlikeBy_4 15 147 rfl)
theorem dX11_isAlikeBy_80 : decode cX11_isAlikeBy 80 = .ok (.iastore, 1) := @dq_o79 cX11_isAlikeBy 80 (qX11_isAlikeBy_5 0 79 rfl)
theorem dX11_isAlikeBy_81 : decode cX11_isAlikeBy 81 = .ok (.goto 21, 3) := @dq_o167 cX11_isAlikeBy 81 0 21 (qX11_isAlikeBy_5 1 167 rfl) (qX11_isAlikeBy_5 2 0 rfl) (qX11_isAlikeBy_5 3 21 rfl)
theorem dX11_isAlikeBy_84 : decode cX11_isAlikeBy 84 = .ok (.aload_n 0, 1) := @dq_o42 cX11_isAlikeBy 84 (qX11_isAlikeBy_5 4 42 rfl)
theorem dX11_isAlikeBy_85 : decode cX11_isAlikeBy 85 = .ok (.getfield 23, 3) := @dq_o180 cX11_isAlikeBy 85 0 23 (qX11_isAlikeBy_5 5 180 rfl) (qX11_isAlikeBy_5 6 0 rfl) (qX11_isAlikeBy_5 7 23 rfl)
theorem dX11_isAlikeBy_88 : decode cX11_isAlikeBy 88 = .ok (.iload 6, 2) := @dq_o21 cX11_isAlikeBy 88 6 (qX11_isAlikeBy_5 8 21 rfl) (qX11_isAlikeBy_5 9 6 rfl)
theorem dX11_isAlikeBy_90 : decode cX11_isAlikeBy 90 = .ok (.iaload, 1) := @dq_o46 cX11_isAlikeBy 90 (qX11_isAlikeBy_5 10 46 rfl)
theorem dX11_isAlikeBy_91 : decode cX11_isAlikeBy 91 = .ok (.aload_n 0, 1) := @dq_o42 cX11_isAlikeBy 91 (qX11_isAlikeBy_5 11 42 rfl)
theorem dX11_isAlikeBy_92 : decode cX11_isAlikeBy 92 = .ok (.iload 6, 2) := @dq_o21 cX11_isAlikeBy 92 6 (qX11_isAlikeBy_5 12 21 rfl) (qX11_isAlikeBy_5 13 6 rfl)
theorem dX11_isAlikeBy_94 : decode cX11_isAlikeBy 94 = .ok (.invokevirtual 147, 3) := @dq_o182 cX11_isAlikeBy 94 0 147 (qX11_isAlikeBy_5 14 182 rfl) (qX11_isAlikeBy_5 15 0 rfl) (qX11_isAlikeBy_6 0 147 rfl)
theorem dX11_isAlikeBy_97 : decode cX11_isAlikeBy 97 = .ok (.if_icmp .eq 5, 3) := @dq_o159 cX11_isAlikeBy 97 0 5 (qX11_isAlikeBy_6 1 159 rfl) (qX11_isAlikeBy_6 2 0 rfl) (qX11_isAlikeBy_6 3 5 rfl)
theorem dX11_isAlikeBy_100 : decode cX11_isAlikeBy 100 = .ok (.iconst 0, 1) := @dq_o3 cX11_isAlikeBy 100 (qX11_isAlikeBy_6 4 3 rfl)
theorem dX11_isAlikeBy_101 : decode cX11_isAlikeBy 101 = .ok (.ireturn, 1) := @dq_o172 cX11_isAlikeBy 101 (qX11_isAlikeBy_6 5 172 rfl)
theorem dX11_isAlikeBy_102 : decode cX11_isAlikeBy 102 = .ok (.iinc 6 1, 3) := @dq_o132 cX11_isAlikeBy 102 6 1 (qX11_isAlikeBy_6 6 132 rfl) (qX11_isAlikeBy_6 7 6 rfl) (qX11_isAlikeBy_6 8 1 rfl)
theorem dX11_isAlikeBy_105 : decode cX11_isAlikeBy 105 = .ok (.goto (-56), 3) := @dq_o167 cX11_isAlikeBy 105 255 200 (qX11_isAlikeBy_6 9 167 rfl) (qX11_isAlikeBy_6 10 255 rfl) (qX11_isAlikeBy_6 11 200 rfl)
theorem dX11_isAlikeBy_108 : decode cX11_isAlikeBy 108 = .ok (.iinc 4 1, 3) := @dq_o132 cX11_isAlikeBy 108 4 1 (qX11_isAlikeBy_6 12 132 rfl) (qX11_isAlikeBy_6 13 4 rfl) (qX11_isAlikeBy_6 14 1 rfl)
theorem dX11_isAlikeBy_111 : decode cX11_isAlikeBy 111 = .ok (.goto (-108), 3) := @dq_o167 cX11_isAlikeBy 111 255 148 (qX11_isAlikeBy_6 15 167 rfl) (qX11_isAlikeBy_7 0 255 rfl) (qX11_isAlikeBy_7 1 148 rfl)
theorem dX11_isAlikeBy_114 : decode cX11_isAlikeBy 114 = .ok (.iconst 1, 1) := @dq_o4 cX11_isAlikeBy 114 (qX11_isAlikeBy_7 2 4 rfl)
theorem dX11_isAlikeBy_115 : decode cX11_isAlikeBy 115 = .ok (.ireturn, 1) := @dq_o172 cX11_isAlikeBy 115 (qX11_isAlikeBy_7 3 172 rfl)
abbrev qaX11_lays_0 : List Nat := [42, 180, 0, 84, 153, 0, 4, 177, 42, 4, 181, 0, 84, 42, 4, 181]
abbrev qaX11_lays_1 : List Nat := [0, 150, 3, 60, 27, 42, 182, 0, 88, 162, 0, 61, 3, 61, 28, 27]
abbrev qaX11_lays_2 : List Nat := [162, 0, 48, 3, 62, 29, 28, 162, 0, 35, 42, 42, 180, 0, 150, 153]
abbrev qaX11_lays_3 : List Nat := [0, 17, 42, 27, 28, 29, 182, 0, 153, 153, 0, 7, 4, 167, 0, 4]
abbrev qaX11_lays_4 : List Nat := [3, 181, 0, 150, 132, 3, 1, 167, 255, 222, 132, 2, 1, 167, 255, 209]
abbrev qaX11_lays_5 : List Nat := [132, 1, 1, 167, 255, 193, 3, 60, 27, 16, 6, 162, 0, 16, 42, 180]
abbrev qaX11_lays_6 : List Nat := [0, 26, 27, 3, 79, 132, 1, 1, 167, 255, 240, 42, 180, 0, 150, 154]
abbrev qaX11_lays_7 : List Nat := [0, 4, 177, 3, 60, 27, 42, 182, 0, 88, 162, 0, 14, 42, 27, 182]
abbrev qaX11_lays_8 : List Nat := [0, 156, 132, 1, 1, 167, 255, 240, 177]
def qtX11_lays_9 : List Nat := []
def qtX11_lays_8 : List Nat := qaX11_lays_8 ++ qtX11_lays_9
def qtX11_lays_7 : List Nat := qaX11_lays_7 ++ qtX11_lays_8
def qtX11_lays_6 : List Nat := qaX11_lays_6 ++ qtX11_lays_7
def qtX11_lays_5 : List Nat := qaX11_lays_5 ++ qtX11_lays_6
def qtX11_lays_4 : List Nat := qaX11_lays_4 ++ qtX11_lays_5
def qtX11_lays_3 : List Nat := qaX11_lays_3 ++ qtX11_lays_4
def qtX11_lays_2 : List Nat := qaX11_lays_2 ++ qtX11_lays_3
def qtX11_lays_1 : List Nat := qaX11_lays_1 ++ qtX11_lays_2
def qtX11_lays_0 : List Nat := qaX11_lays_0 ++ qtX11_lays_1
theorem qeX11_lays : cX11_lays.data.toList.map UInt8.toNat = qtX11_lays_0 := by decide +kernel
theorem qsX11_lays_0 : ∀ i, dqNth qtX11_lays_0 (0 + i) = dqNth qtX11_lays_0 i := fun i => by rw [Nat.zero_add]
theorem qsX11_lays_1 : ∀ i, dqNth qtX11_lays_0 (16 + i) = dqNth qtX11_lays_1 i := dq_step qsX11_lays_0 rfl rfl
theorem qsX11_lays_2 : ∀ i, dqNth qtX11_lays_0 (32 + i) = dqNth qtX11_lays_2 i := dq_step qsX11_lays_1 rfl rfl
theorem qsX11_lays_3 : ∀ i, dqNth qtX11_lays_0 (48 + i) = dqNth qtX11_lays_3 i := dq_step qsX11_lays_2 rfl rfl
theorem qsX11_lays_4 : ∀ i, dqNth qtX11_lays_0 (64 + i) = dqNth qtX11_lays_4 i := dq_step qsX11_lays_3 rfl rfl
theorem qsX11_lays_5 : ∀ i, dqNth qtX11_lays_0 (80 + i) = dqNth qtX11_lays_5 i := dq_step qsX11_lays_4 rfl rfl
theorem qsX11_lays_6 : ∀ i, dqNth qtX11_lays_0 (96 + i) = dqNth qtX11_lays_6 i := dq_step qsX11_lays_5 rfl rfl
theorem qsX11_lays_7 : ∀ i, dqNth qtX11_lays_0 (112 + i) = dqNth qtX11_lays_7 i := dq_step qsX11_lays_6 rfl rfl
theorem qsX11_lays_8 : ∀ i, dqNth qtX11_lays_0 (128 + i) = dqNth qtX11_lays_8 i := dq_step qsX11_lays_7 rfl rfl
theorem qX11_lays_0 (i b : Nat) (h : dqNth qaX11_lays_0 i = some b) : DqBy cX11_lays (0 + i) b := dqBy_of qeX11_lays ((qsX11_lays_0 i).trans (dq_in h))
theorem qX11_lays_1 (i b : Nat) (h : dqNth qaX11_lays_1 i = some b) : DqBy cX11_lays (16 + i) b := dqBy_of qeX11_lays ((qsX11_lays_1 i).trans (dq_in h))
theorem qX11_lays_2 (i b : Nat) (h : dqNth qaX11_lays_2 i = some b) : DqBy cX11_lays (32 + i) b := dqBy_of qeX11_lays ((qsX11_lays_2 i).trans (dq_in h))
theorem qX11_lays_3 (i b : Nat) (h : dqNth qaX11_lays_3 i = some b) : DqBy cX11_lays (48 + i) b := dqBy_of qeX11_lays ((qsX11_lays_3 i).trans (dq_in h))
theorem qX11_lays_4 (i b : Nat) (h : dqNth qaX11_lays_4 i = some b) : DqBy cX11_lays (64 + i) b := dqBy_of qeX11_lays ((qsX11_lays_4 i).trans (dq_in h))
theorem qX11_lays_5 (i b : Nat) (h : dqNth qaX11_lays_5 i = some b) : DqBy cX11_lays (80 + i) b := dqBy_of qeX11_lays ((qsX11_lays_5 i).trans (dq_in h))
theorem qX11_lays_6 (i b : Nat) (h : dqNth qaX11_lays_6 i = some b) : DqBy cX11_lays (96 + i) b := dqBy_of qeX11_lays ((qsX11_lays_6 i).trans (dq_in h))
theorem qX11_lays_7 (i b : Nat) (h : dqNth qaX11_lays_7 i = some b) : DqBy cX11_lays (112 + i) b := dqBy_of qeX11_lays ((qsX11_lays_7 i).trans (dq_in h))
theorem qX11_lays_8 (i b : Nat) (h : dqNth qaX11_lays_8 i = some b) : DqBy cX11_lays (128 + i) b := dqBy_of qeX11_lays ((qsX11_lays_8 i).trans (dq_in h))
theorem dX11_lays_0 : decode cX11_lays 0 = .ok (.aload_n 0, 1) := @dq_o42 cX11_lays 0 (qX11_lays_0 0 42 rfl)
theorem dX11_lays_1 : decode cX11_lays 1 = .ok (.getfield 84, 3) := @dq_o180 cX11_lays 1 0 84 (qX11_lays_0 1 180 rfl) (qX11_lays_0 2 0 rfl) (qX11_lays_0 3 84 rfl)
theorem dX11_lays_4 : decode cX11_lays 4 = .ok (.ifCond .eq 4, 3) := @dq_o153 cX11_lays 4 0 4 (qX11_lays_0 4 153 rfl) (qX11_lays_0 5 0 rfl) (qX11_lays_0 6 4 rfl)
theorem dX11_lays_7 : decode cX11_lays 7 = .ok (.return_, 1) := @dq_o177 cX11_lays 7 (qX11_lays_0 7 177 rfl)
theorem dX11_lays_8 : decode cX11_lays 8 = .ok (.aload_n 0, 1) := @dq_o42 cX11_lays 8 (qX11_lays_0 8 42 rfl)
theorem dX11_lays_9 : decode cX11_lays 9 = .ok (.iconst 1, 1) := @dq_o4 cX11_lays 9 (qX11_lays_0 9 4 rfl)
theorem dX11_lays_10 : decode cX11_lays 10 = .ok (.putfield 84, 3) := @dq_o181 cX11_lays 10 0 84 (qX11_lays_0 10 181 rfl) (qX11_lays_0 11 0 rfl) (qX11_lays_0 12 84 rfl)
theorem dX11_lays_13 : decode cX11_lays 13 = .ok (.aload_n 0, 1) := @dq_o42 cX11_lays 13 (qX11_lays_0 13 42 rfl)
theorem dX11_lays_14 : decode cX11_lays 14 = .ok (.iconst 1, 1) := @dq_o4 cX11_lays 14 (qX11_lays_0 14 4 rfl)
theorem dX11_lays_15 : decode cX11_lays 15 = .ok (.putfield 150, 3) := @dq_o181 cX11_lays 15 0 150 (qX11_lays_0 15 181 rfl) (qX11_lays_1 0 0 rfl) (qX11_lays_1 1 150 rfl)
theorem dX11_lays_18 : decode cX11_lays 18 = .ok (.iconst 0, 1) := @dq_o3 cX11_lays 18 (qX11_lays_1 2 3 rfl)
theorem dX11_lays_19 : decode cX11_lays 19 = .ok (.istore_n 1, 1) := @dq_o60 cX11_lays 19 (qX11_lays_1 3 60 rfl)
theorem dX11_lays_20 : decode cX11_lays 20 = .ok (.iload_n 1, 1) := @dq_o27 cX11_lays 20 (qX11_lays_1 4 27 rfl)
theorem dX11_lays_21 : decode cX11_lays 21 = .ok (.aload_n 0, 1) := @dq_o42 cX11_lays 21 (qX11_lays_1 5 42 rfl)
theorem dX11_lays_22 : decode cX11_lays 22 = .ok (.invokevirtual 88, 3) := @dq_o182 cX11_lays 22 0 88 (qX11_lays_1 6 182 rfl) (qX11_lays_1 7 0 rfl) (qX11_lays_1 8 88 rfl)
theorem dX11_lays_25 : decode cX11_lays 25 = .ok (.if_icmp .ge 61, 3) := @dq_o162 cX11_lays 25 0 61 (qX11_lays_1 9 162 rfl) (qX11_lays_1 10 0 rfl) (qX11_lays_1 11 61 rfl)
theorem dX11_lays_28 : decode cX11_lays 28 = .ok (.iconst 0, 1) := @dq_o3 cX11_lays 28 (qX11_lays_1 12 3 rfl)
theorem dX11_lays_29 : decode cX11_lays 29 = .ok (.istore_n 2, 1) := @dq_o61 cX11_lays 29 (qX11_lays_1 13 61 rfl)
theorem dX11_lays_30 : decode cX11_lays 30 = .ok (.iload_n 2, 1) := @dq_o28 cX11_lays 30 (qX11_lays_1 14 28 rfl)
theorem dX11_lays_31 : decode cX11_lays 31 = .ok (.iload_n 1, 1) := @dq_o27 cX11_lays 31 (qX11_lays_1 15 27 rfl)
theorem dX11_lays_32 : decode cX11_lays 32 = .ok (.if_icmp .ge 48, 3) := @dq_o162 cX11_lays 32 0 48 (qX11_lays_2 0 162 rfl) (qX11_lays_2 1 0 rfl) (qX11_lays_2 2 48 rfl)
theorem dX11_lays_35 : decode cX11_lays 35 = .ok (.iconst 0, 1) := @dq_o3 cX11_lays 35 (qX11_lays_2 3 3 rfl)
theorem dX11_lays_36 : decode cX11_lays 36 = .ok (.istore_n 3, 1) := @dq_o62 cX11_lays 36 (qX11_lays_2 4 62 rfl)
theorem dX11_lays_37 : decode cX11_lays 37 = .ok (.iload_n 3, 1) := @dq_o29 cX11_lays 37 (qX11_lays_2 5 29 rfl)
theorem dX11_lays_38 : decode cX11_lays 38 = .ok (.iload_n 2, 1) := @dq_o28 cX11_lays 38 (qX11_lays_2 6 28 rfl)
theorem dX11_lays_39 : decode cX11_lays 39 = .ok (.if_icmp .ge 35, 3) := @dq_o162 cX11_lays 39 0 35 (qX11_lays_2 7 162 rfl) (qX11_lays_2 8 0 rfl) (qX11_lays_2 9 35 rfl)
theorem dX11_lays_42 : decode cX11_lays 42 = .ok (.aload_n 0, 1) := @dq_o42 cX11_lays 42 (qX11_lays_2 10 42 rfl)
theorem dX11_lays_43 : decode cX11_lays 43 = .ok (.aload_n 0, 1) := @dq_o42 cX11_lays 43 (qX11_lays_2 11 42 rfl)
theorem dX11_lays_44 : decode cX11_lays 44 = .ok (.getfield 150, 3) := @dq_o180 cX11_lays 44 0 150 (qX11_lays_2 12 180 rfl) (qX11_lays_2 13 0 rfl) (qX11_lays_2 14 150 rfl)
theorem dX11_lays_47 : decode cX11_lays 47 = .ok (.ifCond .eq 17, 3) := @dq_o153 cX11_lays 47 0 17 (qX11_lays_2 15 153 rfl) (qX11_lays_3 0 0 rfl) (qX11_lays_3 1 17 rfl)
theorem dX11_lays_50 : decode cX11_lays 50 = .ok (.aload_n 0, 1) := @dq_o42 cX11_lays 50 (qX11_lays_3 2 42 rfl)
theorem dX11_lays_51 : decode cX11_lays 51 = .ok (.iload_n 1, 1) := @dq_o27 cX11_lays 51 (qX11_lays_3 3 27 rfl)
theorem dX11_lays_52 : decode cX11_lays 52 = .ok (.iload_n 2, 1) := @dq_o28 cX11_lays 52 (qX11_lays_3 4 28 rfl)
theorem dX11_lays_53 : decode cX11_lays 53 = .ok (.iload_n 3, 1) := @dq_o29 cX11_lays 53 (qX11_lays_3 5 29 rfl)
theorem dX11_lays_54 : decode cX11_lays 54 = .ok (.invokevirtual 153, 3) := @dq_o182 cX11_lays 54 0 153 (qX11_lays_3 6 182 rfl) (qX11_lays_3 7 0 rfl) (qX11_lays_3 8 153 rfl)
theorem dX11_lays_57 : decode cX11_lays 57 = .ok (.ifCond .eq 7, 3) := @dq_o153 cX11_lays 57 0 7 (qX11_lays_3 9 153 rfl) (qX11_lays_3 10 0 rfl) (qX11_lays_3 11 7 rfl)
theorem dX11_lays_60 : decode cX11_lays 60 = .ok (.iconst 1, 1) := @dq_o4 cX11_lays 60 (qX11_lays_3 12 4 rfl)
theorem dX11_lays_61 : decode cX11_lays 61 = .ok (.goto 4, 3) := @dq_o167 cX11_lays 61 0 4 (qX11_lays_3 13 167 rfl) (qX11_lays_3 14 0 rfl) (qX11_lays_3 15 4 rfl)
theorem dX11_lays_64 : decode cX11_lays 64 = .ok (.iconst 0, 1) := @dq_o3 cX11_lays 64 (qX11_lays_4 0 3 rfl)
theorem dX11_lays_65 : decode cX11_lays 65 = .ok (.putfield 150, 3) := @dq_o181 cX11_lays 65 0 150 (qX11_lays_4 1 181 rfl) (qX11_lays_4 2 0 rfl) (qX11_lays_4 3 150 rfl)
theorem dX11_lays_68 : decode cX11_lays 68 = .ok (.iinc 3 1, 3) := @dq_o132 cX11_lays 68 3 1 (qX11_lays_4 4 132 rfl) (qX11_lays_4 5 3 rfl) (qX11_lays_4 6 1 rfl)
theorem dX11_lays_71 : decode cX11_lays 71 = .ok (.goto (-34), 3) := @dq_o167 cX11_lays 71 255 222 (qX11_lays_4 7 167 rfl) (qX11_lays_4 8 255 rfl) (qX11_lays_4 9 222 rfl)
theorem dX11_lays_74 : decode cX11_lays 74 = .ok (.iinc 2 1, 3) := @dq_o132 cX11_lays 74 2 1 (qX11_lays_4 10 132 rfl) (qX11_lays_4 11 2 rfl) (qX11_lays_4 12 1 rfl)
theorem dX11_lays_77 : decode cX11_lays 77 = .ok (.goto (-47), 3) := @dq_o167 cX11_lays 77 255 209 (qX11_lays_4 13 167 rfl) (qX11_lays_4 14 255 rfl) (qX11_lays_4 15 209 rfl)
theorem dX11_lays_80 : decode cX11_lays 80 = .ok (.iinc 1 1, 3) := @dq_o132 cX11_lays 80 1 1 (qX11_lays_5 0 132 rfl) (qX11_lays_5 1 1 rfl) (qX11_lays_5 2 1 rfl)
theorem dX11_lays_83 : decode cX11_lays 83 = .ok (.goto (-63), 3) := @dq_o167 cX11_lays 83 255 193 (qX11_lays_5 3 167 rfl) (qX11_lays_5 4 255 rfl) (qX11_lays_5 5 193 rfl)
theorem dX11_lays_86 : decode cX11_lays 86 = .ok (.iconst 0, 1) := @dq_o3 cX11_lays 86 (qX11_lays_5 6 3 rfl)
theorem dX11_lays_87 : decode cX11_lays 87 = .ok (.istore_n 1, 1) := @dq_o60 cX11_lays 87 (qX11_lays_5 7 60 rfl)
theorem dX11_lays_88 : decode cX11_lays 88 = .ok (.iload_n 1, 1) := @dq_o27 cX11_lays 88 (qX11_lays_5 8 27 rfl)
theorem dX11_lays_89 : decode cX11_lays 89 = .ok (.bipush 6, 2) := @dq_o16 cX11_lays 89 6 (qX11_lays_5 9 16 rfl) (qX11_lays_5 10 6 rfl)
theorem dX11_lays_91 : decode cX11_lays 91 = .ok (.if_icmp .ge 16, 3) := @dq_o162 cX11_lays 91 0 16 (qX11_lays_5 11 162 rfl) (qX11_lays_5 12 0 rfl) (qX11_lays_5 13 16 rfl)
theorem dX11_lays_94 : decode cX11_lays 94 = .ok (.aload_n 0, 1) := @dq_o42 cX11_lays 94 (qX11_lays_5 14 42 rfl)
theorem dX11_lays_95 : decode cX11_lays 95 = .ok (.getfield 26, 3) := @dq_o180 cX11_lays 95 0 26 (qX11_lays_5 15 180 rfl) (qX11_lays_6 0 0 rfl) (qX11_lays_6 1 26 rfl)
theorem dX11_lays_98 : decode cX11_lays 98 = .ok (.iload_n 1, 1) := @dq_o27 cX11_lays 98 (qX11_lays_6 2 27 rfl)
theorem dX11_lays_99 : decode cX11_lays 99 = .ok (.iconst 0, 1) := @dq_o3 cX11_lays 99 (qX11_lays_6 3 3 rfl)
theorem dX11_lays_100 : decode cX11_lays 100 = .ok (.iastore, 1) := @dq_o79 cX11_lays 100 (qX11_lays_6 4 79 rfl)
theorem dX11_lays_101 : decode cX11_lays 101 = .ok (.iinc 1 1, 3) := @dq_o132 cX11_lays 101 1 1 (qX11_lays_6 5 132 rfl) (qX11_lays_6 6 1 rfl) (qX11_lays_6 7 1 rfl)
theorem dX11_lays_104 : decode cX11_lays 104 = .ok (.goto (-16), 3) := @dq_o167 cX11_lays 104 255 240 (qX11_lays_6 8 167 rfl) (qX11_lays_6 9 255 rfl) (qX11_lays_6 10 240 rfl)
theorem dX11_lays_107 : decode cX11_lays 107 = .ok (.aload_n 0, 1) := @dq_o42 cX11_lays 107 (qX11_lays_6 11 42 rfl)
theorem dX11_lays_108 : decode cX11_lays 108 = .ok (.getfield 150, 3) := @dq_o180 cX11_lays 108 0 150 (qX11_lays_6 12 180 rfl) (qX11_lays_6 13 0 rfl) (qX11_lays_6 14 150 rfl)
theorem dX11_lays_111 : decode cX11_lays 111 = .ok (.ifCond .ne 4, 3) := @dq_o154 cX11_lays 111 0 4 (qX11_lays_6 15 154 rfl) (qX11_lays_7 0 0 rfl) (qX11_lays_7 1 4 rfl)
theorem dX11_lays_114 : decode cX11_lays 114 = .ok (.return_, 1) := @dq_o177 cX11_lays 114 (qX11_lays_7 2 177 rfl)
theorem dX11_lays_115 : decode cX11_lays 115 = .ok (.iconst 0, 1) := @dq_o3 cX11_lays 115 (qX11_lays_7 3 3 rfl)
theorem dX11_lays_116 : decode cX11_lays 116 = .ok (.istore_n 1, 1) := @dq_o60 cX11_lays 116 (qX11_lays_7 4 60 rfl)
theorem dX11_lays_117 : decode cX11_lays 117 = .ok (.iload_n 1, 1) := @dq_o27 cX11_lays 117 (qX11_lays_7 5 27 rfl)
theorem dX11_lays_118 : decode cX11_lays 118 = .ok (.aload_n 0, 1) := @dq_o42 cX11_lays 118 (qX11_lays_7 6 42 rfl)
theorem dX11_lays_119 : decode cX11_lays 119 = .ok (.invokevirtual 88, 3) := @dq_o182 cX11_lays 119 0 88 (qX11_lays_7 7 182 rfl) (qX11_lays_7 8 0 rfl) (qX11_lays_7 9 88 rfl)
theorem dX11_lays_122 : decode cX11_lays 122 = .ok (.if_icmp .ge 14, 3) := @dq_o162 cX11_lays 122 0 14 (qX11_lays_7 10 162 rfl) (qX11_lays_7 11 0 rfl) (qX11_lays_7 12 14 rfl)
theorem dX11_lays_125 : decode cX11_lays 125 = .ok (.aload_n 0, 1) := @dq_o42 cX11_lays 125 (qX11_lays_7 13 42 rfl)
theorem dX11_lays_126 : decode cX11_lays 126 = .ok (.iload_n 1, 1) := @dq_o27 cX11_lays 126 (qX11_lays_7 14 27 rfl)
theorem dX11_lays_127 : decode cX11_lays 127 = .ok (.invokevirtual 156, 3) := @dq_o182 cX11_lays 127 0 156 (qX11_lays_7 15 182 rfl) (qX11_lays_8 0 0 rfl) (qX11_lays_8 1 156 rfl)
theorem dX11_lays_130 : decode cX11_lays 130 = .ok (.iinc 1 1, 3) := @dq_o132 cX11_lays 130 1 1 (qX11_lays_8 2 132 rfl) (qX11_lays_8 3 1 rfl) (qX11_lays_8 4 1 rfl)
theorem dX11_lays_133 : decode cX11_lays 133 = .ok (.goto (-16), 3) := @dq_o167 cX11_lays 133 255 240 (qX11_lays_8 5 167 rfl) (qX11_lays_8 6 255 rfl) (qX11_lays_8 7 240 rfl)
theorem dX11_lays_136 : decode cX11_lays 136 = .ok (.return_, 1) := @dq_o177 cX11_lays 136 (qX11_lays_8 8 177 rfl)
abbrev qaX11_isConsistent_0 : List Nat := [42, 182, 0, 159, 42, 180, 0, 150, 172]
def qtX11_isConsistent_1 : List Nat := []
def qtX11_isConsistent_0 : List Nat := qaX11_isConsistent_0 ++ qtX11_isConsistent_1
theorem qeX11_isConsistent : cX11_isConsistent.data.toList.map UInt8.toNat = qtX11_isConsistent_0 := by decide +kernel
theorem qsX11_isConsistent_0 : ∀ i, dqNth qtX11_isConsistent_0 (0 + i) = dqNth qtX11_isConsistent_0 i := fun i => by rw [Nat.zero_add]
theorem qX11_isConsistent_0 (i b : Nat) (h : dqNth qaX11_isConsistent_0 i = some b) : DqBy cX11_isConsistent (0 + i) b := dqBy_of qeX11_isConsistent ((qsX11_isConsistent_0 i).trans (dq_in h))
theorem dX11_isConsistent_0 : decode cX11_isConsistent 0 = .ok (.aload_n 0, 1) := @dq_o42 cX11_isConsistent 0 (qX11_isConsistent_0 0 42 rfl)
theorem dX11_isConsistent_1 : decode cX11_isConsistent 1 = .ok (.invokevirtual 159, 3) := @dq_o182 cX11_isConsistent 1 0 159 (qX11_isConsistent_0 1 182 rfl) (qX11_isConsistent_0 2 0 rfl) (qX11_isConsistent_0 3 159 rfl)
theorem dX11_isConsistent_4 : decode cX11_isConsistent 4 = .ok (.aload_n 0, 1) := @dq_o42 cX11_isConsistent 4 (qX11_isConsistent_0 4 42 rfl)
theorem dX11_isConsistent_5 : decode cX11_isConsistent 5 = .ok (.getfield 150, 3) := @dq_o180 cX11_isConsistent 5 0 150 (qX11_isConsistent_0 5 180 rfl) (qX11_isConsistent_0 6 0 rfl) (qX11_isConsistent_0 7 150 rfl)
theorem dX11_isConsistent_8 : decode cX11_isConsistent 8 = .ok (.ireturn, 1) := @dq_o172 cX11_isConsistent 8 (qX11_isConsistent_0 8 172 rfl)
abbrev qaX11_of_0 : List Nat := [42, 180, 0, 34, 16, 6, 27, 104, 28, 96, 47, 173]
def qtX11_of_1 : List Nat := []
def qtX11_of_0 : List Nat := qaX11_of_0 ++ qtX11_of_1
theorem qeX11_of : cX11_of.data.toList.map UInt8.toNat = qtX11_of_0 := by decide +kernel
theorem qsX11_of_0 : ∀ i, dqNth qtX11_of_0 (0 + i) = dqNth qtX11_of_0 i := fun i => by rw [Nat.zero_add]
theorem qX11_of_0 (i b : Nat) (h : dqNth qaX11_of_0 i = some b) : DqBy cX11_of (0 + i) b := dqBy_of qeX11_of ((qsX11_of_0 i).trans (dq_in h))
theorem dX11_of_0 : decode cX11_of 0 = .ok (.aload_n 0, 1) := @dq_o42 cX11_of 0 (qX11_of_0 0 42 rfl)
theorem dX11_of_1 : decode cX11_of 1 = .ok (.getfield 34, 3) := @dq_o180 cX11_of 1 0 34 (qX11_of_0 1 180 rfl) (qX11_of_0 2 0 rfl) (qX11_of_0 3 34 rfl)
theorem dX11_of_4 : decode cX11_of 4 = .ok (.bipush 6, 2) := @dq_o16 cX11_of 4 6 (qX11_of_0 4 16 rfl) (qX11_of_0 5 6 rfl)
theorem dX11_of_6 : decode cX11_of 6 = .ok (.iload_n 1, 1) := @dq_o27 cX11_of 6 (qX11_of_0 6 27 rfl)
theorem dX11_of_7 : decode cX11_of 7 = .ok (.imul, 1) := @dq_o104 cX11_of 7 (qX11_of_0 7 104 rfl)
theorem dX11_of_8 : decode cX11_of 8 = .ok (.iload_n 2, 1) := @dq_o28 cX11_of 8 (qX11_of_0 8 28 rfl)
theorem dX11_of_9 : decode cX11_of 9 = .ok (.iadd, 1) := @dq_o96 cX11_of 9 (qX11_of_0 9 96 rfl)
theorem dX11_of_10 : decode cX11_of 10 = .ok (.laload, 1) := @dq_o47 cX11_of 10 (qX11_of_0 10 47 rfl)
theorem dX11_of_11 : decode cX11_of 11 = .ok (.lreturn, 1) := @dq_o173 cX11_of 11 (qX11_of_0 11 173 rfl)
abbrev qaX11_puts_0 : List Nat := [42, 180, 0, 34, 16, 6, 27, 104, 28, 96, 33, 80, 177]
def qtX11_puts_1 : List Nat := []
def qtX11_puts_0 : List Nat := qaX11_puts_0 ++ qtX11_puts_1
theorem qeX11_puts : cX11_puts.data.toList.map UInt8.toNat = qtX11_puts_0 := by decide +kernel
theorem qsX11_puts_0 : ∀ i, dqNth qtX11_puts_0 (0 + i) = dqNth qtX11_puts_0 i := fun i => by rw [Nat.zero_add]
theorem qX11_puts_0 (i b : Nat) (h : dqNth qaX11_puts_0 i = some b) : DqBy cX11_puts (0 + i) b := dqBy_of qeX11_puts ((qsX11_puts_0 i).trans (dq_in h))
theorem dX11_puts_0 : decode cX11_puts 0 = .ok (.aload_n 0, 1) := @dq_o42 cX11_puts 0 (qX11_puts_0 0 42 rfl)
theorem dX11_puts_1 : decode cX11_puts 1 = .ok (.getfield 34, 3) := @dq_o180 cX11_puts 1 0 34 (qX11_puts_0 1 180 rfl) (qX11_puts_0 2 0 rfl) (qX11_puts_0 3 34 rfl)
theorem dX11_puts_4 : decode cX11_puts 4 = .ok (.bipush 6, 2) := @dq_o16 cX11_puts 4 6 (qX11_puts_0 4 16 rfl) (qX11_puts_0 5 6 rfl)
theorem dX11_puts_6 : decode cX11_puts 6 = .ok (.iload_n 1, 1) := @dq_o27 cX11_puts 6 (qX11_puts_0 6 27 rfl)
theorem dX11_puts_7 : decode cX11_puts 7 = .ok (.imul, 1) := @dq_o104 cX11_puts 7 (qX11_puts_0 7 104 rfl)
theorem dX11_puts_8 : decode cX11_puts 8 = .ok (.iload_n 2, 1) := @dq_o28 cX11_puts 8 (qX11_puts_0 8 28 rfl)
theorem dX11_puts_9 : decode cX11_puts 9 = .ok (.iadd, 1) := @dq_o96 cX11_puts 9 (qX11_puts_0 9 96 rfl)
theorem dX11_puts_10 : decode cX11_puts 10 = .ok (.lload_n 3, 1) := @dq_o33 cX11_puts 10 (qX11_puts_0 10 33 rfl)
theorem dX11_puts_11 : decode cX11_puts 11 = .ok (.lastore, 1) := @dq_o80 cX11_puts 11 (qX11_puts_0 11 80 rfl)
theorem dX11_puts_12 : decode cX11_puts 12 = .ok (.return_, 1) := @dq_o177 cX11_puts 12 (qX11_puts_0 12 177 rfl)
abbrev qaX11_ones_0 : List Nat := [3, 61, 28, 16, 6, 162, 0, 16, 42, 27, 28, 9, 182, 0, 162, 132]
abbrev qaX11_ones_1 : List Nat := [2, 1, 167, 255, 240, 177]
def qtX11_ones_2 : List Nat := []
def qtX11_ones_1 : List Nat := qaX11_ones_1 ++ qtX11_ones_2
def qtX11_ones_0 : List Nat := qaX11_ones_0 ++ qtX11_ones_1
theorem qeX11_ones : cX11_ones.data.toList.map UInt8.toNat = qtX11_ones_0 := by decide +kernel
theorem qsX11_ones_0 : ∀ i, dqNth qtX11_ones_0 (0 + i) = dqNth qtX11_ones_0 i := fun i => by rw [Nat.zero_add]
theorem qsX11_ones_1 : ∀ i, dqNth qtX11_ones_0 (16 + i) = dqNth qtX11_ones_1 i := dq_step qsX11_ones_0 rfl rfl
theorem qX11_ones_0 (i b : Nat) (h : dqNth qaX11_ones_0 i = some b) : DqBy cX11_ones (0 + i) b := dqBy_of qeX11_ones ((qsX11_ones_0 i).trans (dq_in h))
theorem qX11_ones_1 (i b : Nat) (h : dqNth qaX11_ones_1 i = some b) : DqBy cX11_ones (16 + i) b := dqBy_of qeX11_ones ((qsX11_ones_1 i).trans (dq_in h))
theorem dX11_ones_0 : decode cX11_ones 0 = .ok (.iconst 0, 1) := @dq_o3 cX11_ones 0 (qX11_ones_0 0 3 rfl)
theorem dX11_ones_1 : decode cX11_ones 1 = .ok (.istore_n 2, 1) := @dq_o61 cX11_ones 1 (qX11_ones_0 1 61 rfl)
theorem dX11_ones_2 : decode cX11_ones 2 = .ok (.iload_n 2, 1) := @dq_o28 cX11_ones 2 (qX11_ones_0 2 28 rfl)
theorem dX11_ones_3 : decode cX11_ones 3 = .ok (.bipush 6, 2) := @dq_o16 cX11_ones 3 6 (qX11_ones_0 3 16 rfl) (qX11_ones_0 4 6 rfl)
theorem dX11_ones_5 : decode cX11_ones 5 = .ok (.if_icmp .ge 16, 3) := @dq_o162 cX11_ones 5 0 16 (qX11_ones_0 5 162 rfl) (qX11_ones_0 6 0 rfl) (qX11_ones_0 7 16 rfl)
theorem dX11_ones_8 : decode cX11_ones 8 = .ok (.aload_n 0, 1) := @dq_o42 cX11_ones 8 (qX11_ones_0 8 42 rfl)
theorem dX11_ones_9 : decode cX11_ones 9 = .ok (.iload_n 1, 1) := @dq_o27 cX11_ones 9 (qX11_ones_0 9 27 rfl)
theorem dX11_ones_10 : decode cX11_ones 10 = .ok (.iload_n 2, 1) := @dq_o28 cX11_ones 10 (qX11_ones_0 10 28 rfl)
theorem dX11_ones_11 : decode cX11_ones 11 = .ok (.lconst 0, 1) := @dq_o9 cX11_ones 11 (qX11_ones_0 11 9 rfl)
theorem dX11_ones_12 : decode cX11_ones 12 = .ok (.invokevirtual 162, 3) := @dq_o182 cX11_ones 12 0 162 (qX11_ones_0 12 182 rfl) (qX11_ones_0 13 0 rfl) (qX11_ones_0 14 162 rfl)
theorem dX11_ones_15 : decode cX11_ones 15 = .ok (.iinc 2 1, 3) := @dq_o132 cX11_ones 15 2 1 (qX11_ones_0 15 132 rfl) (qX11_ones_1 0 2 rfl) (qX11_ones_1 1 1 rfl)
theorem dX11_ones_18 : decode cX11_ones 18 = .ok (.goto (-16), 3) := @dq_o167 cX11_ones 18 255 240 (qX11_ones_1 2 167 rfl) (qX11_ones_1 3 255 rfl) (qX11_ones_1 4 240 rfl)
theorem dX11_ones_21 : decode cX11_ones 21 = .ok (.return_, 1) := @dq_o177 cX11_ones 21 (qX11_ones_1 5 177 rfl)
abbrev qaX11_copies_0 : List Nat := [3, 62, 29, 16, 6, 162, 0, 21, 42, 28, 29, 42, 27, 29, 182, 0]
abbrev qaX11_copies_1 : List Nat := [166, 182, 0, 162, 132, 3, 1, 167, 255, 235, 177]
def qtX11_copies_2 : List Nat := []
def qtX11_copies_1 : List Nat := qaX11_copies_1 ++ qtX11_copies_2
def qtX11_copies_0 : List Nat := qaX11_copies_0 ++ qtX11_copies_1
theorem qeX11_copies : cX11_copies.data.toList.map UInt8.toNat = qtX11_copies_0 := by decide +kernel
theorem qsX11_copies_0 : ∀ i, dqNth qtX11_copies_0 (0 + i) = dqNth qtX11_copies_0 i := fun i => by rw [Nat.zero_add]
theorem qsX11_copies_1 : ∀ i, dqNth qtX11_copies_0 (16 + i) = dqNth qtX11_copies_1 i := dq_step qsX11_copies_0 rfl rfl
theorem qX11_copies_0 (i b : Nat) (h : dqNth qaX11_copies_0 i = some b) : DqBy cX11_copies (0 + i) b := dqBy_of qeX11_copies ((qsX11_copies_0 i).trans (dq_in h))
theorem qX11_copies_1 (i b : Nat) (h : dqNth qaX11_copies_1 i = some b) : DqBy cX11_copies (16 + i) b := dqBy_of qeX11_copies ((qsX11_copies_1 i).trans (dq_in h))
theorem dX11_copies_0 : decode cX11_copies 0 = .ok (.iconst 0, 1) := @dq_o3 cX11_copies 0 (qX11_copies_0 0 3 rfl)
theorem dX11_copies_1 : decode cX11_copies 1 = .ok (.istore_n 3, 1) := @dq_o62 cX11_copies 1 (qX11_copies_0 1 62 rfl)
theorem dX11_copies_2 : decode cX11_copies 2 = .ok (.iload_n 3, 1) := @dq_o29 cX11_copies 2 (qX11_copies_0 2 29 rfl)
theorem dX11_copies_3 : decode cX11_copies 3 = .ok (.bipush 6, 2) := @dq_o16 cX11_copies 3 6 (qX11_copies_0 3 16 rfl) (qX11_copies_0 4 6 rfl)
theorem dX11_copies_5 : decode cX11_copies 5 = .ok (.if_icmp .ge 21, 3) := @dq_o162 cX11_copies 5 0 21 (qX11_copies_0 5 162 rfl) (qX11_copies_0 6 0 rfl) (qX11_copies_0 7 21 rfl)
theorem dX11_copies_8 : decode cX11_copies 8 = .ok (.aload_n 0, 1) := @dq_o42 cX11_copies 8 (qX11_copies_0 8 42 rfl)
theorem dX11_copies_9 : decode cX11_copies 9 = .ok (.iload_n 2, 1) := @dq_o28 cX11_copies 9 (qX11_copies_0 9 28 rfl)
theorem dX11_copies_10 : decode cX11_copies 10 = .ok (.iload_n 3, 1) := @dq_o29 cX11_copies 10 (qX11_copies_0 10 29 rfl)
theorem dX11_copies_11 : decode cX11_copies 11 = .ok (.aload_n 0, 1) := @dq_o42 cX11_copies 11 (qX11_copies_0 11 42 rfl)
theorem dX11_copies_12 : decode cX11_copies 12 = .ok (.iload_n 1, 1) := @dq_o27 cX11_copies 12 (qX11_copies_0 12 27 rfl)
theorem dX11_copies_13 : decode cX11_copies 13 = .ok (.iload_n 3, 1) := @dq_o29 cX11_copies 13 (qX11_copies_0 13 29 rfl)
theorem dX11_copies_14 : decode cX11_copies 14 = .ok (.invokevirtual 166, 3) := @dq_o182 cX11_copies 14 0 166 (qX11_copies_0 14 182 rfl) (qX11_copies_0 15 0 rfl) (qX11_copies_1 0 166 rfl)
theorem dX11_copies_17 : decode cX11_copies 17 = .ok (.invokevirtual 162, 3) := @dq_o182 cX11_copies 17 0 162 (qX11_copies_1 1 182 rfl) (qX11_copies_1 2 0 rfl) (qX11_copies_1 3 162 rfl)
theorem dX11_copies_20 : decode cX11_copies 20 = .ok (.iinc 3 1, 3) := @dq_o132 cX11_copies 20 3 1 (qX11_copies_1 4 132 rfl) (qX11_copies_1 5 3 rfl) (qX11_copies_1 6 1 rfl)
theorem dX11_copies_23 : decode cX11_copies 23 = .ok (.goto (-21), 3) := @dq_o167 cX11_copies 23 255 235 (qX11_copies_1 7 167 rfl) (qX11_copies_1 8 255 rfl) (qX11_copies_1 9 235 rfl)
theorem dX11_copies_26 : decode cX11_copies 26 = .ok (.return_, 1) := @dq_o177 cX11_copies 26 (qX11_copies_1 10 177 rfl)
abbrev qaX11_laysRegister_0 : List Nat := [3, 62, 29, 16, 6, 162, 0, 22, 42, 27, 29, 42, 28, 29, 182, 0]
abbrev qaX11_laysRegister_1 : List Nat := [170, 133, 182, 0, 162, 132, 3, 1, 167, 255, 234, 177]
def qtX11_laysRegister_2 : List Nat := []
def qtX11_laysRegister_1 : List Nat := qaX11_laysRegister_1 ++ qtX11_laysRegister_2
def qtX11_laysRegister_0 : List Nat := qaX11_laysRegister_0 ++ qtX11_laysRegister_1
theorem qeX11_laysRegister : cX11_laysRegister.data.toList.map UInt8.toNat = qtX11_laysRegister_0 := by decide +kernel
theorem qsX11_laysRegister_0 : ∀ i, dqNth qtX11_laysRegister_0 (0 + i) = dqNth qtX11_laysRegister_0 i := fun i => by rw [Nat.zero_add]
theorem qsX11_laysRegister_1 : ∀ i, dqNth qtX11_laysRegister_0 (16 + i) = dqNth qtX11_laysRegister_1 i := dq_step qsX11_laysRegister_0 rfl rfl
theorem qX11_laysRegister_0 (i b : Nat) (h : dqNth qaX11_laysRegister_0 i = some b) : DqBy cX11_laysRegister (0 + i) b := dqBy_of qeX11_laysRegister ((qsX11_laysRegister_0 i).trans (dq_in h))
theorem qX11_laysRegister_1 (i b : Nat) (h : dqNth qaX11_laysRegister_1 i = some b) : DqBy cX11_laysRegister (16 + i) b := dqBy_of qeX11_laysRegister ((qsX11_laysRegister_1 i).trans (dq_in h))
theorem dX11_laysRegister_0 : decode cX11_laysRegister 0 = .ok (.iconst 0, 1) := @dq_o3 cX11_laysRegister 0 (qX11_laysRegister_0 0 3 rfl)
theorem dX11_laysRegister_1 : decode cX11_laysRegister 1 = .ok (.istore_n 3, 1) := @dq_o62 cX11_laysRegister 1 (qX11_laysRegister_0 1 62 rfl)
theorem dX11_laysRegister_2 : decode cX11_laysRegister 2 = .ok (.iload_n 3, 1) := @dq_o29 cX11_laysRegister 2 (qX11_laysRegister_0 2 29 rfl)
theorem dX11_laysRegister_3 : decode cX11_laysRegister 3 = .ok (.bipush 6, 2) := @dq_o16 cX11_laysRegister 3 6 (qX11_laysRegister_0 3 16 rfl) (qX11_laysRegister_0 4 6 rfl)
theorem dX11_laysRegister_5 : decode cX11_laysRegister 5 = .ok (.if_icmp .ge 22, 3) := @dq_o162 cX11_laysRegister 5 0 22 (qX11_laysRegister_0 5 162 rfl) (qX11_laysRegister_0 6 0 rfl) (qX11_laysRegister_0 7 22 rfl)
theorem dX11_laysRegister_8 : decode cX11_laysRegister 8 = .ok (.aload_n 0, 1) := @dq_o42 cX11_laysRegister 8 (qX11_laysRegister_0 8 42 rfl)
theorem dX11_laysRegister_9 : decode cX11_laysRegister 9 = .ok (.iload_n 1, 1) := @dq_o27 cX11_laysRegister 9 (qX11_laysRegister_0 9 27 rfl)
theorem dX11_laysRegister_10 : decode cX11_laysRegister 10 = .ok (.iload_n 3, 1) := @dq_o29 cX11_laysRegister 10 (qX11_laysRegister_0 10 29 rfl)
theorem dX11_laysRegister_11 : decode cX11_laysRegister 11 = .ok (.aload_n 0, 1) := @dq_o42 cX11_laysRegister 11 (qX11_laysRegister_0 11 42 rfl)
theorem dX11_laysRegister_12 : decode cX11_laysRegister 12 = .ok (.iload_n 2, 1) := @dq_o28 cX11_laysRegister 12 (qX11_laysRegister_0 12 28 rfl)
theorem dX11_laysRegister_13 : decode cX11_laysRegister 13 = .ok (.iload_n 3, 1) := @dq_o29 cX11_laysRegister 13 (qX11_laysRegister_0 13 29 rfl)
theorem dX11_laysRegister_14 : decode cX11_laysRegister 14 = .ok (.invokevirtual 170, 3) := @dq_o182 cX11_laysRegister 14 0 170 (qX11_laysRegister_0 14 182 rfl) (qX11_laysRegister_0 15 0 rfl) (qX11_laysRegister_1 0 170 rfl)
theorem dX11_laysRegister_17 : decode cX11_laysRegister 17 = .ok (.i2l, 1) := @dq_o133 cX11_laysRegister 17 (qX11_laysRegister_1 1 133 rfl)
theorem dX11_laysRegister_18 : decode cX11_laysRegister 18 = .ok (.invokevirtual 162, 3) := @dq_o182 cX11_laysRegister 18 0 162 (qX11_laysRegister_1 2 182 rfl) (qX11_laysRegister_1 3 0 rfl) (qX11_laysRegister_1 4 162 rfl)
theorem dX11_laysRegister_21 : decode cX11_laysRegister 21 = .ok (.iinc 3 1, 3) := @dq_o132 cX11_laysRegister 21 3 1 (qX11_laysRegister_1 5 132 rfl) (qX11_laysRegister_1 6 3 rfl) (qX11_laysRegister_1 7 1 rfl)
theorem dX11_laysRegister_24 : decode cX11_laysRegister 24 = .ok (.goto (-22), 3) := @dq_o167 cX11_laysRegister 24 255 234 (qX11_laysRegister_1 8 167 rfl) (qX11_laysRegister_1 9 255 rfl) (qX11_laysRegister_1 10 234 rfl)
theorem dX11_laysRegister_27 : decode cX11_laysRegister 27 = .ok (.return_, 1) := @dq_o177 cX11_laysRegister 27 (qX11_laysRegister_1 11 177 rfl)
abbrev qaX11_two_0 : List Nat := [31, 31, 10, 101, 105, 20, 0, 174, 109, 173]
def qtX11_two_1 : List Nat := []
def qtX11_two_0 : List Nat := qaX11_two_0 ++ qtX11_two_1
theorem qeX11_two : cX11_two.data.toList.map UInt8.toNat = qtX11_two_0 := by decide +kernel
theorem qsX11_two_0 : ∀ i, dqNth qtX11_two_0 (0 + i) = dqNth qtX11_two_0 i := fun i => by rw [Nat.zero_add]
theorem qX11_two_0 (i b : Nat) (h : dqNth qaX11_two_0 i = some b) : DqBy cX11_two (0 + i) b := dqBy_of qeX11_two ((qsX11_two_0 i).trans (dq_in h))
theorem dX11_two_0 : decode cX11_two 0 = .ok (.lload_n 1, 1) := @dq_o31 cX11_two 0 (qX11_two_0 0 31 rfl)
theorem dX11_two_1 : decode cX11_two 1 = .ok (.lload_n 1, 1) := @dq_o31 cX11_two 1 (qX11_two_0 1 31 rfl)
theorem dX11_two_2 : decode cX11_two 2 = .ok (.lconst 1, 1) := @dq_o10 cX11_two 2 (qX11_two_0 2 10 rfl)
theorem dX11_two_3 : decode cX11_two 3 = .ok (.lsub, 1) := @dq_o101 cX11_two 3 (qX11_two_0 3 101 rfl)
theorem dX11_two_4 : decode cX11_two 4 = .ok (.lmul, 1) := @dq_o105 cX11_two 4 (qX11_two_0 4 105 rfl)
theorem dX11_two_5 : decode cX11_two 5 = .ok (.ldc2_w 174, 3) := @dq_o20 cX11_two 5 0 174 (qX11_two_0 5 20 rfl) (qX11_two_0 6 0 rfl) (qX11_two_0 7 174 rfl)
theorem dX11_two_8 : decode cX11_two 8 = .ok (.ldiv, 1) := @dq_o109 cX11_two 8 (qX11_two_0 8 109 rfl)
theorem dX11_two_9 : decode cX11_two 9 = .ok (.lreturn, 1) := @dq_o173 cX11_two 9 (qX11_two_0 9 173 rfl)
abbrev qaX11_passesTwo_0 : List Nat := [28, 4, 96, 54, 6, 21, 6, 42, 182, 0, 88, 162, 0, 36, 42, 27]
abbrev qaX11_passesTwo_1 : List Nat := [21, 6, 42, 27, 21, 6, 182, 0, 166, 42, 28, 29, 21, 6, 182, 0]
abbrev qaX11_passesTwo_2 : List Nat := [130, 133, 22, 4, 105, 97, 182, 0, 162, 132, 6, 1, 167, 255, 217, 177]
def qtX11_passesTwo_3 : List Nat := []
def qtX11_passesTwo_2 : List Nat := qaX11_passesTwo_2 ++ qtX11_passesTwo_3
def qtX11_passesTwo_1 : List Nat := qaX11_passesTwo_1 ++ qtX11_passesTwo_2
def qtX11_passesTwo_0 : List Nat := qaX11_passesTwo_0 ++ qtX11_passesTwo_1
theorem qeX11_passesTwo : cX11_passesTwo.data.toList.map UInt8.toNat = qtX11_passesTwo_0 := by decide +kernel
theorem qsX11_passesTwo_0 : ∀ i, dqNth qtX11_passesTwo_0 (0 + i) = dqNth qtX11_passesTwo_0 i := fun i => by rw [Nat.zero_add]
theorem qsX11_passesTwo_1 : ∀ i, dqNth qtX11_passesTwo_0 (16 + i) = dqNth qtX11_passesTwo_1 i := dq_step qsX11_passesTwo_0 rfl rfl
theorem qsX11_passesTwo_2 : ∀ i, dqNth qtX11_passesTwo_0 (32 + i) = dqNth qtX11_passesTwo_2 i := dq_step qsX11_passesTwo_1 rfl rfl
theorem qX11_passesTwo_0 (i b : Nat) (h : dqNth qaX11_passesTwo_0 i = some b) : DqBy cX11_passesTwo (0 + i) b := dqBy_of qeX11_passesTwo ((qsX11_passesTwo_0 i).trans (dq_in h))
theorem qX11_passesTwo_1 (i b : Nat) (h : dqNth qaX11_passesTwo_1 i = some b) : DqBy cX11_passesTwo (16 + i) b := dqBy_of qeX11_passesTwo ((qsX11_passesTwo_1 i).trans (dq_in h))
theorem qX11_passesTwo_2 (i b : Nat) (h : dqNth qaX11_passesTwo_2 i = some b) : DqBy cX11_passesTwo (32 + i) b := dqBy_of qeX11_passesTwo ((qsX11_passesTwo_2 i).trans (dq_in h))
theorem dX11_passesTwo_0 : decode cX11_passesTwo 0 = .ok (.iload_n 2, 1) := @dq_o28 cX11_passesTwo 0 (qX11_passesTwo_0 0 28 rfl)
theorem dX11_passesTwo_1 : decode cX11_passesTwo 1 = .ok (.iconst 1, 1) := @dq_o4 cX11_passesTwo 1 (qX11_passesTwo_0 1 4 rfl)
theorem dX11_passesTwo_2 : decode cX11_passesTwo 2 = .ok (.iadd, 1) := @dq_o96 cX11_passesTwo 2 (qX11_passesTwo_0 2 96 rfl)
theorem dX11_passesTwo_3 : decode cX11_passesTwo 3 = .ok (.istore 6, 2) := @dq_o54 cX11_passesTwo 3 6 (qX11_passesTwo_0 3 54 rfl) (qX11_passesTwo_0 4 6 rfl)
theorem dX11_passesTwo_5 : decode cX11_passesTwo 5 = .ok (.iload 6, 2) := @dq_o21 cX11_passesTwo 5 6 (qX11_passesTwo_0 5 21 rfl) (qX11_passesTwo_0 6 6 rfl)
theorem dX11_passesTwo_7 : decode cX11_passesTwo 7 = .ok (.aload_n 0, 1) := @dq_o42 cX11_passesTwo 7 (qX11_passesTwo_0 7 42 rfl)
theorem dX11_passesTwo_8 : decode cX11_passesTwo 8 = .ok (.invokevirtual 88, 3) := @dq_o182 cX11_passesTwo 8 0 88 (qX11_passesTwo_0 8 182 rfl) (qX11_passesTwo_0 9 0 rfl) (qX11_passesTwo_0 10 88 rfl)
theorem dX11_passesTwo_11 : decode cX11_passesTwo 11 = .ok (.if_icmp .ge 36, 3) := @dq_o162 cX11_passesTwo 11 0 36 (qX11_passesTwo_0 11 162 rfl) (qX11_passesTwo_0 12 0 rfl) (qX11_passesTwo_0 13 36 rfl)
theorem dX11_passesTwo_14 : decode cX11_passesTwo 14 = .ok (.aload_n 0, 1) := @dq_o42 cX11_passesTwo 14 (qX11_passesTwo_0 14 42 rfl)
theorem dX11_passesTwo_15 : decode cX11_passesTwo 15 = .ok (.iload_n 1, 1) := @dq_o27 cX11_passesTwo 15 (qX11_passesTwo_0 15 27 rfl)
theorem dX11_passesTwo_16 : decode cX11_passesTwo 16 = .ok (.iload 6, 2) := @dq_o21 cX11_passesTwo 16 6 (qX11_passesTwo_1 0 21 rfl) (qX11_passesTwo_1 1 6 rfl)
theorem dX11_passesTwo_18 : decode cX11_passesTwo 18 = .ok (.aload_n 0, 1) := @dq_o42 cX11_passesTwo 18 (qX11_passesTwo_1 2 42 rfl)
theorem dX11_passesTwo_19 : decode cX11_passesTwo 19 = .ok (.iload_n 1, 1) := @dq_o27 cX11_passesTwo 19 (qX11_passesTwo_1 3 27 rfl)
theorem dX11_passesTwo_20 : decode cX11_passesTwo 20 = .ok (.iload 6, 2) := @dq_o21 cX11_passesTwo 20 6 (qX11_passesTwo_1 4 21 rfl) (qX11_passesTwo_1 5 6 rfl)
theorem dX11_passesTwo_22 : decode cX11_passesTwo 22 = .ok (.invokevirtual 166, 3) := @dq_o182 cX11_passesTwo 22 0 166 (qX11_passesTwo_1 6 182 rfl) (qX11_passesTwo_1 7 0 rfl) (qX11_passesTwo_1 8 166 rfl)
theorem dX11_passesTwo_25 : decode cX11_passesTwo 25 = .ok (.aload_n 0, 1) := @dq_o42 cX11_passesTwo 25 (qX11_passesTwo_1 9 42 rfl)
theorem dX11_passesTwo_26 : decode cX11_passesTwo 26 = .ok (.iload_n 2, 1) := @dq_o28 cX11_passesTwo 26 (qX11_passesTwo_1 10 28 rfl)
theorem dX11_passesTwo_27 : decode cX11_passesTwo 27 = .ok (.iload_n 3, 1) := @dq_o29 cX11_passesTwo 27 (qX11_passesTwo_1 11 29 rfl)
theorem dX11_passesTwo_28 : decode cX11_passesTwo 28 = .ok (.iload 6, 2) := @dq_o21 cX11_passesTwo 28 6 (qX11_passesTwo_1 12 21 rfl) (qX11_passesTwo_1 13 6 rfl)
theorem dX11_passesTwo_30 : decode cX11_passesTwo 30 = .ok (.invokevirtual 130, 3) := @dq_o182 cX11_passesTwo 30 0 130 (qX11_passesTwo_1 14 182 rfl) (qX11_passesTwo_1 15 0 rfl) (qX11_passesTwo_2 0 130 rfl)
theorem dX11_passesTwo_33 : decode cX11_passesTwo 33 = .ok (.i2l, 1) := @dq_o133 cX11_passesTwo 33 (qX11_passesTwo_2 1 133 rfl)
theorem dX11_passesTwo_34 : decode cX11_passesTwo 34 = .ok (.lload 4, 2) := @dq_o22 cX11_passesTwo 34 4 (qX11_passesTwo_2 2 22 rfl) (qX11_passesTwo_2 3 4 rfl)
theorem dX11_passesTwo_36 : decode cX11_passesTwo 36 = .ok (.lmul, 1) := @dq_o105 cX11_passesTwo 36 (qX11_passesTwo_2 4 105 rfl)
theorem dX11_passesTwo_37 : decode cX11_passesTwo 37 = .ok (.ladd, 1) := @dq_o97 cX11_passesTwo 37 (qX11_passesTwo_2 5 97 rfl)
theorem dX11_passesTwo_38 : decode cX11_passesTwo 38 = .ok (.invokevirtual 162, 3) := @dq_o182 cX11_passesTwo 38 0 162 (qX11_passesTwo_2 6 182 rfl) (qX11_passesTwo_2 7 0 rfl) (qX11_passesTwo_2 8 162 rfl)
theorem dX11_passesTwo_41 : decode cX11_passesTwo 41 = .ok (.iinc 6 1, 3) := @dq_o132 cX11_passesTwo 41 6 1 (qX11_passesTwo_2 9 132 rfl) (qX11_passesTwo_2 10 6 rfl) (qX11_passesTwo_2 11 1 rfl)
theorem dX11_passesTwo_44 : decode cX11_passesTwo 44 = .ok (.goto (-39), 3) := @dq_o167 cX11_passesTwo 44 255 217 (qX11_passesTwo_2 12 167 rfl) (qX11_passesTwo_2 13 255 rfl) (qX11_passesTwo_2 14 217 rfl)
theorem dX11_passesTwo_47 : decode cX11_passesTwo 47 = .ok (.return_, 1) := @dq_o177 cX11_passesTwo 47 (qX11_passesTwo_2 15 177 rfl)
abbrev qaX11_timesLetter_0 : List Nat := [33, 9, 148, 154, 0, 4, 177, 42, 28, 182, 0, 92, 4, 160, 0, 64]
abbrev qaX11_timesLetter_1 : List Nat := [28, 4, 96, 54, 5, 21, 5, 42, 182, 0, 88, 162, 0, 50, 42, 21]
abbrev qaX11_timesLetter_2 : List Nat := [5, 182, 0, 92, 6, 162, 0, 40, 42, 27, 21, 5, 182, 0, 166, 55]
abbrev qaX11_timesLetter_3 : List Nat := [6, 42, 21, 5, 182, 0, 92, 5, 160, 0, 15, 42, 27, 21, 5, 28]
abbrev qaX11_timesLetter_4 : List Nat := [22, 6, 33, 105, 182, 0, 176, 132, 5, 1, 167, 255, 203, 42, 28, 182]
abbrev qaX11_timesLetter_5 : List Nat := [0, 92, 4, 160, 0, 88, 28, 4, 96, 54, 5, 21, 5, 42, 182, 0]
abbrev qaX11_timesLetter_6 : List Nat := [88, 162, 0, 28, 42, 21, 5, 182, 0, 92, 4, 160, 0, 18, 42, 27]
abbrev qaX11_timesLetter_7 : List Nat := [21, 5, 28, 33, 182, 0, 180, 132, 5, 1, 167, 255, 225, 3, 54, 5]
abbrev qaX11_timesLetter_8 : List Nat := [21, 5, 16, 6, 162, 0, 39, 42, 27, 21, 5, 42, 27, 21, 5, 182]
abbrev qaX11_timesLetter_9 : List Nat := [0, 166, 42, 180, 0, 37, 21, 5, 47, 97, 182, 0, 162, 42, 180, 0]
abbrev qaX11_timesLetter_10 : List Nat := [37, 21, 5, 9, 80, 132, 5, 1, 167, 255, 216, 42, 27, 28, 42, 27]
abbrev qaX11_timesLetter_11 : List Nat := [28, 182, 0, 166, 33, 97, 182, 0, 162, 177]
def qtX11_timesLetter_12 : List Nat := []
def qtX11_timesLetter_11 : List Nat := qaX11_timesLetter_11 ++ qtX11_timesLetter_12
def qtX11_timesLetter_10 : List Nat := qaX11_timesLetter_10 ++ qtX11_timesLetter_11
def qtX11_timesLetter_9 : List Nat := qaX11_timesLetter_9 ++ qtX11_timesLetter_10
def qtX11_timesLetter_8 : List Nat := qaX11_timesLetter_8 ++ qtX11_timesLetter_9
def qtX11_timesLetter_7 : List Nat := qaX11_timesLetter_7 ++ qtX11_timesLetter_8
def qtX11_timesLetter_6 : List Nat := qaX11_timesLetter_6 ++ qtX11_timesLetter_7
def qtX11_timesLetter_5 : List Nat := qaX11_timesLetter_5 ++ qtX11_timesLetter_6
def qtX11_timesLetter_4 : List Nat := qaX11_timesLetter_4 ++ qtX11_timesLetter_5
def qtX11_timesLetter_3 : List Nat := qaX11_timesLetter_3 ++ qtX11_timesLetter_4
def qtX11_timesLetter_2 : List Nat := qaX11_timesLetter_2 ++ qtX11_timesLetter_3
def qtX11_timesLetter_1 : List Nat := qaX11_timesLetter_1 ++ qtX11_timesLetter_2
def qtX11_timesLetter_0 : List Nat := qaX11_timesLetter_0 ++ qtX11_timesLetter_1
theorem qeX11_timesLetter : cX11_timesLetter.data.toList.map UInt8.toNat = qtX11_timesLetter_0 := by decide +kernel
theorem qsX11_timesLetter_0 : ∀ i, dqNth qtX11_timesLetter_0 (0 + i) = dqNth qtX11_timesLetter_0 i := fun i => by rw [Nat.zero_add]
theorem qsX11_timesLetter_1 : ∀ i, dqNth qtX11_timesLetter_0 (16 + i) = dqNth qtX11_timesLetter_1 i := dq_step qsX11_timesLetter_0 rfl rfl
theorem qsX11_timesLetter_2 : ∀ i, dqNth qtX11_timesLetter_0 (32 + i) = dqNth qtX11_timesLetter_2 i := dq_step qsX11_timesLetter_1 rfl rfl
theorem qsX11_timesLetter_3 : ∀ i, dqNth qtX11_timesLetter_0 (48 + i) = dqNth qtX11_timesLetter_3 i := dq_step qsX11_timesLetter_2 rfl rfl
theorem qsX11_timesLetter_4 : ∀ i, dqNth qtX11_timesLetter_0 (64 + i) = dqNth qtX11_timesLetter_4 i := dq_step qsX11_timesLetter_3 rfl rfl
theorem qsX11_timesLetter_5 : ∀ i, dqNth qtX11_timesLetter_0 (80 + i) = dqNth qtX11_timesLetter_5 i := dq_step qsX11_timesLetter_4 rfl rfl
theorem qsX11_timesLetter_6 : ∀ i, dqNth qtX11_timesLetter_0 (96 + i) = dqNth qtX11_timesLetter_6 i := dq_step qsX11_timesLetter_5 rfl rfl
theorem qsX11_timesLetter_7 : ∀ i, dqNth qtX11_timesLetter_0 (112 + i) = dqNth qtX11_timesLetter_7 i := dq_step qsX11_timesLetter_6 rfl rfl
theorem qsX11_timesLetter_8 : ∀ i, dqNth qtX11_timesLetter_0 (128 + i) = dqNth qtX11_timesLetter_8 i := dq_step qsX11_timesLetter_7 rfl rfl
theorem qsX11_timesLetter_9 : ∀ i, dqNth qtX11_timesLetter_0 (144 + i) = dqNth qtX11_timesLetter_9 i := dq_step qsX11_timesLetter_8 rfl rfl
theorem qsX11_timesLetter_10 : ∀ i, dqNth qtX11_timesLetter_0 (160 + i) = dqNth qtX11_timesLetter_10 i := dq_step qsX11_timesLetter_9 rfl rfl
theorem qsX11_timesLetter_11 : ∀ i, dqNth qtX11_timesLetter_0 (176 + i) = dqNth qtX11_timesLetter_11 i := dq_step qsX11_timesLetter_10 rfl rfl
theorem qX11_timesLetter_0 (i b : Nat) (h : dqNth qaX11_timesLetter_0 i = some b) : DqBy cX11_timesLetter (0 + i) b := dqBy_of qeX11_timesLetter ((qsX11_timesLetter_0 i).trans (dq_in h))
theorem qX11_timesLetter_1 (i b : Nat) (h : dqNth qaX11_timesLetter_1 i = some b) : DqBy cX11_timesLetter (16 + i) b := dqBy_of qeX11_timesLetter ((qsX11_timesLetter_1 i).trans (dq_in h))
theorem qX11_timesLetter_2 (i b : Nat) (h : dqNth qaX11_timesLetter_2 i = some b) : DqBy cX11_timesLetter (32 + i) b := dqBy_of qeX11_timesLetter ((qsX11_timesLetter_2 i).trans (dq_in h))
theorem qX11_timesLetter_3 (i b : Nat) (h : dqNth qaX11_timesLetter_3 i = some b) : DqBy cX11_timesLetter (48 + i) b := dqBy_of qeX11_timesLetter ((qsX11_timesLetter_3 i).trans (dq_in h))
theorem qX11_timesLetter_4 (i b : Nat) (h : dqNth qaX11_timesLetter_4 i = some b) : DqBy cX11_timesLetter (64 + i) b := dqBy_of qeX11_timesLetter ((qsX11_timesLetter_4 i).trans (dq_in h))
theorem qX11_timesLetter_5 (i b : Nat) (h : dqNth qaX11_timesLetter_5 i = some b) : DqBy cX11_timesLetter (80 + i) b := dqBy_of qeX11_timesLetter ((qsX11_timesLetter_5 i).trans (dq_in h))
theorem qX11_timesLetter_6 (i b : Nat) (h : dqNth qaX11_timesLetter_6 i = some b) : DqBy cX11_timesLetter (96 + i) b := dqBy_of qeX11_timesLetter ((qsX11_timesLetter_6 i).trans (dq_in h))
theorem qX11_timesLetter_7 (i b : Nat) (h : dqNth qaX11_timesLetter_7 i = some b) : DqBy cX11_timesLetter (112 + i) b := dqBy_of qeX11_timesLetter ((qsX11_timesLetter_7 i).trans (dq_in h))
theorem qX11_timesLetter_8 (i b : Nat) (h : dqNth qaX11_timesLetter_8 i = some b) : DqBy cX11_timesLetter (128 + i) b := dqBy_of qeX11_timesLetter ((qsX11_timesLetter_8 i).trans (dq_in h))
theorem qX11_timesLetter_9 (i b : Nat) (h : dqNth qaX11_timesLetter_9 i = some b) : DqBy cX11_timesLetter (144 + i) b := dqBy_of qeX11_timesLetter ((qsX11_timesLetter_9 i).trans (dq_in h))
theorem qX11_timesLetter_10 (i b : Nat) (h : dqNth qaX11_timesLetter_10 i = some b) : DqBy cX11_timesLetter (160 + i) b := dqBy_of qeX11_timesLetter ((qsX11_timesLetter_10 i).trans (dq_in h))
theorem qX11_timesLetter_11 (i b : Nat) (h : dqNth qaX11_timesLetter_11 i = some b) : DqBy cX11_timesLetter (176 + i) b := dqBy_of qeX11_timesLetter ((qsX11_timesLetter_11 i).trans (dq_in h))
theorem dX11_timesLetter_0 : decode cX11_timesLetter 0 = .ok (.lload_n 3, 1) := @dq_o33 cX11_timesLetter 0 (qX11_timesLetter_0 0 33 rfl)
theorem dX11_timesLetter_1 : decode cX11_timesLetter 1 = .ok (.lconst 0, 1) := @dq_o9 cX11_timesLetter 1 (qX11_timesLetter_0 1 9 rfl)
theorem dX11_timesLetter_2 : decode cX11_timesLetter 2 = .ok (.lcmp, 1) := @dq_o148 cX11_timesLetter 2 (qX11_timesLetter_0 2 148 rfl)
theorem dX11_timesLetter_3 : decode cX11_timesLetter 3 = .ok (.ifCond .ne 4, 3) := @dq_o154 cX11_timesLetter 3 0 4 (qX11_timesLetter_0 3 154 rfl) (qX11_timesLetter_0 4 0 rfl) (qX11_timesLetter_0 5 4 rfl)
theorem dX11_timesLetter_6 : decode cX11_timesLetter 6 = .ok (.return_, 1) := @dq_o177 cX11_timesLetter 6 (qX11_timesLetter_0 6 177 rfl)
theorem dX11_timesLetter_7 : decode cX11_timesLetter 7 = .ok (.aload_n 0, 1) := @dq_o42 cX11_timesLetter 7 (qX11_timesLetter_0 7 42 rfl)
theorem dX11_timesLetter_8 : decode cX11_timesLetter 8 = .ok (.iload_n 2, 1) := @dq_o28 cX11_timesLetter 8 (qX11_timesLetter_0 8 28 rfl)
theorem dX11_timesLetter_9 : decode cX11_timesLetter 9 = .ok (.invokevirtual 92, 3) := @dq_o182 cX11_timesLetter 9 0 92 (qX11_timesLetter_0 9 182 rfl) (qX11_timesLetter_0 10 0 rfl) (qX11_timesLetter_0 11 92 rfl)
theorem dX11_timesLetter_12 : decode cX11_timesLetter 12 = .ok (.iconst 1, 1) := @dq_o4 cX11_timesLetter 12 (qX11_timesLetter_0 12 4 rfl)
theorem dX11_timesLetter_13 : decode cX11_timesLetter 13 = .ok (.if_icmp .ne 64, 3) := @dq_o160 cX11_timesLetter 13 0 64 (qX11_timesLetter_0 13 160 rfl) (qX11_timesLetter_0 14 0 rfl) (qX11_timesLetter_0 15 64 rfl)
theorem dX11_timesLetter_16 : decode cX11_timesLetter 16 = .ok (.iload_n 2, 1) := @dq_o28 cX11_timesLetter 16 (qX11_timesLetter_1 0 28 rfl)
theorem dX11_timesLetter_17 : decode cX11_timesLetter 17 = .ok (.iconst 1, 1) := @dq_o4 cX11_timesLetter 17 (qX11_timesLetter_1 1 4 rfl)
theorem dX11_timesLetter_18 : decode cX11_timesLetter 18 = .ok (.iadd, 1) := @dq_o96 cX11_timesLetter 18 (qX11_timesLetter_1 2 96 rfl)
theorem dX11_timesLetter_19 : decode cX11_timesLetter 19 = .ok (.istore 5, 2) := @dq_o54 cX11_timesLetter 19 5 (qX11_timesLetter_1 3 54 rfl) (qX11_timesLetter_1 4 5 rfl)
theorem dX11_timesLetter_21 : decode cX11_timesLetter 21 = .ok (.iload 5, 2) := @dq_o21 cX11_timesLetter 21 5 (qX11_timesLetter_1 5 21 rfl) (qX11_timesLetter_1 6 5 rfl)
theorem dX11_timesLetter_23 : decode cX11_timesLetter 23 = .ok (.aload_n 0, 1) := @dq_o42 cX11_timesLetter 23 (qX11_timesLetter_1 7 42 rfl)
theorem dX11_timesLetter_24 : decode cX11_timesLetter 24 = .ok (.invokevirtual 88, 3) := @dq_o182 cX11_timesLetter 24 0 88 (qX11_timesLetter_1 8 182 rfl) (qX11_timesLetter_1 9 0 rfl) (qX11_timesLetter_1 10 88 rfl)
theorem dX11_timesLetter_27 : decode cX11_timesLetter 27 = .ok (.if_icmp .ge 50, 3) := @dq_o162 cX11_timesLetter 27 0 50 (qX11_timesLetter_1 11 162 rfl) (qX11_timesLetter_1 12 0 rfl) (qX11_timesLetter_1 13 50 rfl)
theorem dX11_timesLetter_30 : decode cX11_timesLetter 30 = .ok (.aload_n 0, 1) := @dq_o42 cX11_timesLetter 30 (qX11_timesLetter_1 14 42 rfl)
theorem dX11_timesLetter_31 : decode cX11_timesLetter 31 = .ok (.iload 5, 2) := @dq_o21 cX11_timesLetter 31 5 (qX11_timesLetter_1 15 21 rfl) (qX11_timesLetter_2 0 5 rfl)
theorem dX11_timesLetter_33 : decode cX11_timesLetter 33 = .ok (.invokevirtual 92, 3) := @dq_o182 cX11_timesLetter 33 0 92 (qX11_timesLetter_2 1 182 rfl) (qX11_timesLetter_2 2 0 rfl) (qX11_timesLetter_2 3 92 rfl)
theorem dX11_timesLetter_36 : decode cX11_timesLetter 36 = .ok (.iconst 3, 1) := @dq_o6 cX11_timesLetter 36 (qX11_timesLetter_2 4 6 rfl)
theorem dX11_timesLetter_37 : decode cX11_timesLetter 37 = .ok (.if_icmp .ge 40, 3) := @dq_o162 cX11_timesLetter 37 0 40 (qX11_timesLetter_2 5 162 rfl) (qX11_timesLetter_2 6 0 rfl) (qX11_timesLetter_2 7 40 rfl)
theorem dX11_timesLetter_40 : decode cX11_timesLetter 40 = .ok (.aload_n 0, 1) := @dq_o42 cX11_timesLetter 40 (qX11_timesLetter_2 8 42 rfl)
theorem dX11_timesLetter_41 : decode cX11_timesLetter 41 = .ok (.iload_n 1, 1) := @dq_o27 cX11_timesLetter 41 (qX11_timesLetter_2 9 27 rfl)
theorem dX11_timesLetter_42 : decode cX11_timesLetter 42 = .ok (.iload 5, 2) := @dq_o21 cX11_timesLetter 42 5 (qX11_timesLetter_2 10 21 rfl) (qX11_timesLetter_2 11 5 rfl)
theorem dX11_timesLetter_44 : decode cX11_timesLetter 44 = .ok (.invokevirtual 166, 3) := @dq_o182 cX11_timesLetter 44 0 166 (qX11_timesLetter_2 12 182 rfl) (qX11_timesLetter_2 13 0 rfl) (qX11_timesLetter_2 14 166 rfl)
theorem dX11_timesLetter_47 : decode cX11_timesLetter 47 = .ok (.lstore 6, 2) := @dq_o55 cX11_timesLetter 47 6 (qX11_timesLetter_2 15 55 rfl) (qX11_timesLetter_3 0 6 rfl)
theorem dX11_timesLetter_49 : decode cX11_timesLetter 49 = .ok (.aload_n 0, 1) := @dq_o42 cX11_timesLetter 49 (qX11_timesLetter_3 1 42 rfl)
theorem dX11_timesLetter_50 : decode cX11_timesLetter 50 = .ok (.iload 5, 2) := @dq_o21 cX11_timesLetter 50 5 (qX11_timesLetter_3 2 21 rfl) (qX11_timesLetter_3 3 5 rfl)
theorem dX11_timesLetter_52 : decode cX11_timesLetter 52 = .ok (.invokevirtual 92, 3) := @dq_o182 cX11_timesLetter 52 0 92 (qX11_timesLetter_3 4 182 rfl) (qX11_timesLetter_3 5 0 rfl) (qX11_timesLetter_3 6 92 rfl)
theorem dX11_timesLetter_55 : decode cX11_timesLetter 55 = .ok (.iconst 2, 1) := @dq_o5 cX11_timesLetter 55 (qX11_timesLetter_3 7 5 rfl)
theorem dX11_timesLetter_56 : decode cX11_timesLetter 56 = .ok (.if_icmp .ne 15, 3) := @dq_o160 cX11_timesLetter 56 0 15 (qX11_timesLetter_3 8 160 rfl) (qX11_timesLetter_3 9 0 rfl) (qX11_timesLetter_3 10 15 rfl)
theorem dX11_timesLetter_59 : decode cX11_timesLetter 59 = .ok (.aload_n 0, 1) := @dq_o42 cX11_timesLetter 59 (qX11_timesLetter_3 11 42 rfl)
theorem dX11_timesLetter_60 : decode cX11_timesLetter 60 = .ok (.iload_n 1, 1) := @dq_o27 cX11_timesLetter 60 (qX11_timesLetter_3 12 27 rfl)
theorem dX11_timesLetter_61 : decode cX11_timesLetter 61 = .ok (.iload 5, 2) := @dq_o21 cX11_timesLetter 61 5 (qX11_timesLetter_3 13 21 rfl) (qX11_timesLetter_3 14 5 rfl)
theorem dX11_timesLetter_63 : decode cX11_timesLetter 63 = .ok (.iload_n 2, 1) := @dq_o28 cX11_timesLetter 63 (qX11_timesLetter_3 15 28 rfl)
theorem dX11_timesLetter_64 : decode cX11_timesLetter 64 = .ok (.lload 6, 2) := @dq_o22 cX11_timesLetter 64 6 (qX11_timesLetter_4 0 22 rfl) (qX11_timesLetter_4 1 6 rfl)
theorem dX11_timesLetter_66 : decode cX11_timesLetter 66 = .ok (.lload_n 3, 1) := @dq_o33 cX11_timesLetter 66 (qX11_timesLetter_4 2 33 rfl)
theorem dX11_timesLetter_67 : decode cX11_timesLetter 67 = .ok (.lmul, 1) := @dq_o105 cX11_timesLetter 67 (qX11_timesLetter_4 3 105 rfl)
theorem dX11_timesLetter_68 : decode cX11_timesLetter 68 = .ok (.invokevirtual 176, 3) := @dq_o182 cX11_timesLetter 68 0 176 (qX11_timesLetter_4 4 182 rfl) (qX11_timesLetter_4 5 0 rfl) (qX11_timesLetter_4 6 176 rfl)
theorem dX11_timesLetter_71 : decode cX11_timesLetter 71 = .ok (.iinc 5 1, 3) := @dq_o132 cX11_timesLetter 71 5 1 (qX11_timesLetter_4 7 132 rfl) (qX11_timesLetter_4 8 5 rfl) (qX11_timesLetter_4 9 1 rfl)
theorem dX11_timesLetter_74 : decode cX11_timesLetter 74 = .ok (.goto (-53), 3) := @dq_o167 cX11_timesLetter 74 255 203 (qX11_timesLetter_4 10 167 rfl) (qX11_timesLetter_4 11 255 rfl) (qX11_timesLetter_4 12 203 rfl)
theorem dX11_timesLetter_77 : decode cX11_timesLetter 77 = .ok (.aload_n 0, 1) := @dq_o42 cX11_timesLetter 77 (qX11_timesLetter_4 13 42 rfl)
theorem dX11_timesLetter_78 : decode cX11_timesLetter 78 = .ok (.iload_n 2, 1) := @dq_o28 cX11_timesLetter 78 (qX11_timesLetter_4 14 28 rfl)
theorem dX11_timesLetter_79 : decode cX11_timesLetter 79 = .ok (.invokevirtual 92, 3) := @dq_o182 cX11_timesLetter 79 0 92 (qX11_timesLetter_4 15 182 rfl) (qX11_timesLetter_5 0 0 rfl) (qX11_timesLetter_5 1 92 rfl)
theorem dX11_timesLetter_82 : decode cX11_timesLetter 82 = .ok (.iconst 1, 1) := @dq_o4 cX11_timesLetter 82 (qX11_timesLetter_5 2 4 rfl)
theorem dX11_timesLetter_83 : decode cX11_timesLetter 83 = .ok (.if_icmp .ne 88, 3) := @dq_o160 cX11_timesLetter 83 0 88 (qX11_timesLetter_5 3 160 rfl) (qX11_timesLetter_5 4 0 rfl) (qX11_timesLetter_5 5 88 rfl)
theorem dX11_timesLetter_86 : decode cX11_timesLetter 86 = .ok (.iload_n 2, 1) := @dq_o28 cX11_timesLetter 86 (qX11_timesLetter_5 6 28 rfl)
theorem dX11_timesLetter_87 : decode cX11_timesLetter 87 = .ok (.iconst 1, 1) := @dq_o4 cX11_timesLetter 87 (qX11_timesLetter_5 7 4 rfl)
theorem dX11_timesLetter_88 : decode cX11_timesLetter 88 = .ok (.iadd, 1) := @dq_o96 cX11_timesLetter 88 (qX11_timesLetter_5 8 96 rfl)
theorem dX11_timesLetter_89 : decode cX11_timesLetter 89 = .ok (.istore 5, 2) := @dq_o54 cX11_timesLetter 89 5 (qX11_timesLetter_5 9 54 rfl) (qX11_timesLetter_5 10 5 rfl)
theorem dX11_timesLetter_91 : decode cX11_timesLetter 91 = .ok (.iload 5, 2) := @dq_o21 cX11_timesLetter 91 5 (qX11_timesLetter_5 11 21 rfl) (qX11_timesLetter_5 12 5 rfl)
theorem dX11_timesLetter_93 : decode cX11_timesLetter 93 = .ok (.aload_n 0, 1) := @dq_o42 cX11_timesLetter 93 (qX11_timesLetter_5 13 42 rfl)
theorem dX11_timesLetter_94 : decode cX11_timesLetter 94 = .ok (.invokevirtual 88, 3) := @dq_o182 cX11_timesLetter 94 0 88 (qX11_timesLetter_5 14 182 rfl) (qX11_timesLetter_5 15 0 rfl) (qX11_timesLetter_6 0 88 rfl)
theorem dX11_timesLetter_97 : decode cX11_timesLetter 97 = .ok (.if_icmp .ge 28, 3) := @dq_o162 cX11_timesLetter 97 0 28 (qX11_timesLetter_6 1 162 rfl) (qX11_timesLetter_6 2 0 rfl) (qX11_timesLetter_6 3 28 rfl)
theorem dX11_timesLetter_100 : decode cX11_timesLetter 100 = .ok (.aload_n 0, 1) := @dq_o42 cX11_timesLetter 100 (qX11_timesLetter_6 4 42 rfl)
theorem dX11_timesLetter_101 : decode cX11_timesLetter 101 = .ok (.iload 5, 2) := @dq_o21 cX11_timesLetter 101 5 (qX11_timesLetter_6 5 21 rfl) (qX11_timesLetter_6 6 5 rfl)
theorem dX11_timesLetter_103 : decode cX11_timesLetter 103 = .ok (.invokevirtual 92, 3) := @dq_o182 cX11_timesLetter 103 0 92 (qX11_timesLetter_6 7 182 rfl) (qX11_timesLetter_6 8 0 rfl) (qX11_timesLetter_6 9 92 rfl)
theorem dX11_timesLetter_106 : decode cX11_timesLetter 106 = .ok (.iconst 1, 1) := @dq_o4 cX11_timesLetter 106 (qX11_timesLetter_6 10 4 rfl)
theorem dX11_timesLetter_107 : decode cX11_timesLetter 107 = .ok (.if_icmp .ne 18, 3) := @dq_o160 cX11_timesLetter 107 0 18 (qX11_timesLetter_6 11 160 rfl) (qX11_timesLetter_6 12 0 rfl) (qX11_timesLetter_6 13 18 rfl)
theorem dX11_timesLetter_110 : decode cX11_timesLetter 110 = .ok (.aload_n 0, 1) := @dq_o42 cX11_timesLetter 110 (qX11_timesLetter_6 14 42 rfl)
theorem dX11_timesLetter_111 : decode cX11_timesLetter 111 = .ok (.iload_n 1, 1) := @dq_o27 cX11_timesLetter 111 (qX11_timesLetter_6 15 27 rfl)
theorem dX11_timesLetter_112 : decode cX11_timesLetter 112 = .ok (.iload 5, 2) := @dq_o21 cX11_timesLetter 112 5 (qX11_timesLetter_7 0 21 rfl) (qX11_timesLetter_7 1 5 rfl)
theorem dX11_timesLetter_114 : decode cX11_timesLetter 114 = .ok (.iload_n 2, 1) := @dq_o28 cX11_timesLetter 114 (qX11_timesLetter_7 2 28 rfl)
theorem dX11_timesLetter_115 : decode cX11_timesLetter 115 = .ok (.lload_n 3, 1) := @dq_o33 cX11_timesLetter 115 (qX11_timesLetter_7 3 33 rfl)
theorem dX11_timesLetter_116 : decode cX11_timesLetter 116 = .ok (.invokevirtual 180, 3) := @dq_o182 cX11_timesLetter 116 0 180 (qX11_timesLetter_7 4 182 rfl) (qX11_timesLetter_7 5 0 rfl) (qX11_timesLetter_7 6 180 rfl)
theorem dX11_timesLetter_119 : decode cX11_timesLetter 119 = .ok (.iinc 5 1, 3) := @dq_o132 cX11_timesLetter 119 5 1 (qX11_timesLetter_7 7 132 rfl) (qX11_timesLetter_7 8 5 rfl) (qX11_timesLetter_7 9 1 rfl)
theorem dX11_timesLetter_122 : decode cX11_timesLetter 122 = .ok (.goto (-31), 3) := @dq_o167 cX11_timesLetter 122 255 225 (qX11_timesLetter_7 10 167 rfl) (qX11_timesLetter_7 11 255 rfl) (qX11_timesLetter_7 12 225 rfl)
theorem dX11_timesLetter_125 : decode cX11_timesLetter 125 = .ok (.iconst 0, 1) := @dq_o3 cX11_timesLetter 125 (qX11_timesLetter_7 13 3 rfl)
theorem dX11_timesLetter_126 : decode cX11_timesLetter 126 = .ok (.istore 5, 2) := @dq_o54 cX11_timesLetter 126 5 (qX11_timesLetter_7 14 54 rfl) (qX11_timesLetter_7 15 5 rfl)
theorem dX11_timesLetter_128 : decode cX11_timesLetter 128 = .ok (.iload 5, 2) := @dq_o21 cX11_timesLetter 128 5 (qX11_timesLetter_8 0 21 rfl) (qX11_timesLetter_8 1 5 rfl)
theorem dX11_timesLetter_130 : decode cX11_timesLetter 130 = .ok (.bipush 6, 2) := @dq_o16 cX11_timesLetter 130 6 (qX11_timesLetter_8 2 16 rfl) (qX11_timesLetter_8 3 6 rfl)
theorem dX11_timesLetter_132 : decode cX11_timesLetter 132 = .ok (.if_icmp .ge 39, 3) := @dq_o162 cX11_timesLetter 132 0 39 (qX11_timesLetter_8 4 162 rfl) (qX11_timesLetter_8 5 0 rfl) (qX11_timesLetter_8 6 39 rfl)
theorem dX11_timesLetter_135 : decode cX11_timesLetter 135 = .ok (.aload_n 0, 1) := @dq_o42 cX11_timesLetter 135 (qX11_timesLetter_8 7 42 rfl)
theorem dX11_timesLetter_136 : decode cX11_timesLetter 136 = .ok (.iload_n 1, 1) := @dq_o27 cX11_timesLetter 136 (qX11_timesLetter_8 8 27 rfl)
theorem dX11_timesLetter_137 : decode cX11_timesLetter 137 = .ok (.iload 5, 2) := @dq_o21 cX11_timesLetter 137 5 (qX11_timesLetter_8 9 21 rfl) (qX11_timesLetter_8 10 5 rfl)
theorem dX11_timesLetter_139 : decode cX11_timesLetter 139 = .ok (.aload_n 0, 1) := @dq_o42 cX11_timesLetter 139 (qX11_timesLetter_8 11 42 rfl)
theorem dX11_timesLetter_140 : decode cX11_timesLetter 140 = .ok (.iload_n 1, 1) := @dq_o27 cX11_timesLetter 140 (qX11_timesLetter_8 12 27 rfl)
theorem dX11_timesLetter_141 : decode cX11_timesLetter 141 = .ok (.iload 5, 2) := @dq_o21 cX11_timesLetter 141 5 (qX11_timesLetter_8 13 21 rfl) (qX11_timesLetter_8 14 5 rfl)
theorem dX11_timesLetter_143 : decode cX11_timesLetter 143 = .ok (.invokevirtual 166, 3) := @dq_o182 cX11_timesLetter 143 0 166 (qX11_timesLetter_8 15 182 rfl) (qX11_timesLetter_9 0 0 rfl) (qX11_timesLetter_9 1 166 rfl)
theorem dX11_timesLetter_146 : decode cX11_timesLetter 146 = .ok (.aload_n 0, 1) := @dq_o42 cX11_timesLetter 146 (qX11_timesLetter_9 2 42 rfl)
theorem dX11_timesLetter_147 : decode cX11_timesLetter 147 = .ok (.getfield 37, 3) := @dq_o180 cX11_timesLetter 147 0 37 (qX11_timesLetter_9 3 180 rfl) (qX11_timesLetter_9 4 0 rfl) (qX11_timesLetter_9 5 37 rfl)
theorem dX11_timesLetter_150 : decode cX11_timesLetter 150 = .ok (.iload 5, 2) := @dq_o21 cX11_timesLetter 150 5 (qX11_timesLetter_9 6 21 rfl) (qX11_timesLetter_9 7 5 rfl)
theorem dX11_timesLetter_152 : decode cX11_timesLetter 152 = .ok (.laload, 1) := @dq_o47 cX11_timesLetter 152 (qX11_timesLetter_9 8 47 rfl)
theorem dX11_timesLetter_153 : decode cX11_timesLetter 153 = .ok (.ladd, 1) := @dq_o97 cX11_timesLetter 153 (qX11_timesLetter_9 9 97 rfl)
theorem dX11_timesLetter_154 : decode cX11_timesLetter 154 = .ok (.invokevirtual 162, 3) := @dq_o182 cX11_timesLetter 154 0 162 (qX11_timesLetter_9 10 182 rfl) (qX11_timesLetter_9 11 0 rfl) (qX11_timesLetter_9 12 162 rfl)
theorem dX11_timesLetter_157 : decode cX11_timesLetter 157 = .ok (.aload_n 0, 1) := @dq_o42 cX11_timesLetter 157 (qX11_timesLetter_9 13 42 rfl)
theorem dX11_timesLetter_158 : decode cX11_timesLetter 158 = .ok (.getfield 37, 3) := @dq_o180 cX11_timesLetter 158 0 37 (qX11_timesLetter_9 14 180 rfl) (qX11_timesLetter_9 15 0 rfl) (qX11_timesLetter_10 0 37 rfl)
theorem dX11_timesLetter_161 : decode cX11_timesLetter 161 = .ok (.iload 5, 2) := @dq_o21 cX11_timesLetter 161 5 (qX11_timesLetter_10 1 21 rfl) (qX11_timesLetter_10 2 5 rfl)
theorem dX11_timesLetter_163 : decode cX11_timesLetter 163 = .ok (.lconst 0, 1) := @dq_o9 cX11_timesLetter 163 (qX11_timesLetter_10 3 9 rfl)
theorem dX11_timesLetter_164 : decode cX11_timesLetter 164 = .ok (.lastore, 1) := @dq_o80 cX11_timesLetter 164 (qX11_timesLetter_10 4 80 rfl)
theorem dX11_timesLetter_165 : decode cX11_timesLetter 165 = .ok (.iinc 5 1, 3) := @dq_o132 cX11_timesLetter 165 5 1 (qX11_timesLetter_10 5 132 rfl) (qX11_timesLetter_10 6 5 rfl) (qX11_timesLetter_10 7 1 rfl)
theorem dX11_timesLetter_168 : decode cX11_timesLetter 168 = .ok (.goto (-40), 3) := @dq_o167 cX11_timesLetter 168 255 216 (qX11_timesLetter_10 8 167 rfl) (qX11_timesLetter_10 9 255 rfl) (qX11_timesLetter_10 10 216 rfl)
theorem dX11_timesLetter_171 : decode cX11_timesLetter 171 = .ok (.aload_n 0, 1) := @dq_o42 cX11_timesLetter 171 (qX11_timesLetter_10 11 42 rfl)
theorem dX11_timesLetter_172 : decode cX11_timesLetter 172 = .ok (.iload_n 1, 1) := @dq_o27 cX11_timesLetter 172 (qX11_timesLetter_10 12 27 rfl)
theorem dX11_timesLetter_173 : decode cX11_timesLetter 173 = .ok (.iload_n 2, 1) := @dq_o28 cX11_timesLetter 173 (qX11_timesLetter_10 13 28 rfl)
theorem dX11_timesLetter_174 : decode cX11_timesLetter 174 = .ok (.aload_n 0, 1) := @dq_o42 cX11_timesLetter 174 (qX11_timesLetter_10 14 42 rfl)
theorem dX11_timesLetter_175 : decode cX11_timesLetter 175 = .ok (.iload_n 1, 1) := @dq_o27 cX11_timesLetter 175 (qX11_timesLetter_10 15 27 rfl)
theorem dX11_timesLetter_176 : decode cX11_timesLetter 176 = .ok (.iload_n 2, 1) := @dq_o28 cX11_timesLetter 176 (qX11_timesLetter_11 0 28 rfl)
theorem dX11_timesLetter_177 : decode cX11_timesLetter 177 = .ok (.invokevirtual 166, 3) := @dq_o182 cX11_timesLetter 177 0 166 (qX11_timesLetter_11 1 182 rfl) (qX11_timesLetter_11 2 0 rfl) (qX11_timesLetter_11 3 166 rfl)
theorem dX11_timesLetter_180 : decode cX11_timesLetter 180 = .ok (.lload_n 3, 1) := @dq_o33 cX11_timesLetter 180 (qX11_timesLetter_11 4 33 rfl)
theorem dX11_timesLetter_181 : decode cX11_timesLetter 181 = .ok (.ladd, 1) := @dq_o97 cX11_timesLetter 181 (qX11_timesLetter_11 5 97 rfl)
theorem dX11_timesLetter_182 : decode cX11_timesLetter 182 = .ok (.invokevirtual 162, 3) := @dq_o182 cX11_timesLetter 182 0 162 (qX11_timesLetter_11 6 182 rfl) (qX11_timesLetter_11 7 0 rfl) (qX11_timesLetter_11 8 162 rfl)
theorem dX11_timesLetter_185 : decode cX11_timesLetter 185 = .ok (.return_, 1) := @dq_o177 cX11_timesLetter 185 (qX11_timesLetter_11 9 177 rfl)
abbrev qaX11_passesOne_0 : List Nat := [42, 27, 28, 182, 0, 166, 55, 6, 28, 4, 96, 54, 8, 21, 8, 42]
abbrev qaX11_passesOne_1 : List Nat := [182, 0, 88, 162, 0, 219, 42, 28, 29, 21, 8, 182, 0, 130, 54, 9]
abbrev qaX11_passesOne_2 : List Nat := [21, 9, 154, 0, 6, 167, 0, 195, 42, 180, 0, 37, 21, 8, 42, 180]
abbrev qaX11_passesOne_3 : List Nat := [0, 37, 21, 8, 47, 21, 9, 133, 22, 6, 105, 22, 4, 105, 97, 80]
abbrev qaX11_passesOne_4 : List Nat := [42, 21, 8, 182, 0, 92, 5, 164, 0, 6, 167, 0, 158, 21, 8, 4]
abbrev qaX11_passesOne_5 : List Nat := [96, 54, 10, 21, 10, 42, 182, 0, 88, 162, 0, 143, 42, 180, 0, 37]
abbrev qaX11_passesOne_6 : List Nat := [21, 10, 42, 180, 0, 37, 21, 10, 47, 21, 9, 133, 42, 21, 8, 29]
abbrev qaX11_passesOne_7 : List Nat := [21, 10, 182, 0, 130, 133, 22, 6, 105, 42, 22, 4, 182, 0, 183, 105]
abbrev qaX11_passesOne_8 : List Nat := [42, 21, 8, 28, 21, 10, 182, 0, 130, 133, 22, 4, 105, 42, 22, 6]
abbrev qaX11_passesOne_9 : List Nat := [182, 0, 183, 105, 97, 105, 97, 80, 28, 4, 96, 54, 11, 21, 11, 42]
abbrev qaX11_passesOne_10 : List Nat := [182, 0, 88, 162, 0, 63, 42, 21, 11, 182, 0, 92, 4, 160, 0, 53]
abbrev qaX11_passesOne_11 : List Nat := [42, 180, 0, 37, 21, 10, 42, 180, 0, 37, 21, 10, 47, 21, 9, 133]
abbrev qaX11_passesOne_12 : List Nat := [22, 6, 105, 22, 4, 105, 42, 21, 8, 21, 11, 21, 10, 182, 0, 130]
abbrev qaX11_passesOne_13 : List Nat := [133, 105, 42, 27, 21, 11, 182, 0, 166, 105, 97, 80, 132, 11, 1, 167]
abbrev qaX11_passesOne_14 : List Nat := [255, 190, 132, 10, 1, 167, 255, 110, 132, 8, 1, 167, 255, 34, 177]
def qtX11_passesOne_15 : List Nat := []
def qtX11_passesOne_14 : List Nat := qaX11_passesOne_14 ++ qtX11_passesOne_15
def qtX11_passesOne_13 : List Nat := qaX11_passesOne_13 ++ qtX11_passesOne_14
def qtX11_passesOne_12 : List Nat := qaX11_passesOne_12 ++ qtX11_passesOne_13
def qtX11_passesOne_11 : List Nat := qaX11_passesOne_11 ++ qtX11_passesOne_12
def qtX11_passesOne_10 : List Nat := qaX11_passesOne_10 ++ qtX11_passesOne_11
def qtX11_passesOne_9 : List Nat := qaX11_passesOne_9 ++ qtX11_passesOne_10
def qtX11_passesOne_8 : List Nat := qaX11_passesOne_8 ++ qtX11_passesOne_9
def qtX11_passesOne_7 : List Nat := qaX11_passesOne_7 ++ qtX11_passesOne_8
def qtX11_passesOne_6 : List Nat := qaX11_passesOne_6 ++ qtX11_passesOne_7
def qtX11_passesOne_5 : List Nat := qaX11_passesOne_5 ++ qtX11_passesOne_6
def qtX11_passesOne_4 : List Nat := qaX11_passesOne_4 ++ qtX11_passesOne_5
def qtX11_passesOne_3 : List Nat := qaX11_passesOne_3 ++ qtX11_passesOne_4
def qtX11_passesOne_2 : List Nat := qaX11_passesOne_2 ++ qtX11_passesOne_3
def qtX11_passesOne_1 : List Nat := qaX11_passesOne_1 ++ qtX11_passesOne_2
def qtX11_passesOne_0 : List Nat := qaX11_passesOne_0 ++ qtX11_passesOne_1
theorem qeX11_passesOne : cX11_passesOne.data.toList.map UInt8.toNat = qtX11_passesOne_0 := by decide +kernel
theorem qsX11_passesOne_0 : ∀ i, dqNth qtX11_passesOne_0 (0 + i) = dqNth qtX11_passesOne_0 i := fun i => by rw [Nat.zero_add]
theorem qsX11_passesOne_1 : ∀ i, dqNth qtX11_passesOne_0 (16 + i) = dqNth qtX11_passesOne_1 i := dq_step qsX11_passesOne_0 rfl rfl
theorem qsX11_passesOne_2 : ∀ i, dqNth qtX11_passesOne_0 (32 + i) = dqNth qtX11_passesOne_2 i := dq_step qsX11_passesOne_1 rfl rfl
theorem qsX11_passesOne_3 : ∀ i, dqNth qtX11_passesOne_0 (48 + i) = dqNth qtX11_passesOne_3 i := dq_step qsX11_passesOne_2 rfl rfl
theorem qsX11_passesOne_4 : ∀ i, dqNth qtX11_passesOne_0 (64 + i) = dqNth qtX11_passesOne_4 i := dq_step qsX11_passesOne_3 rfl rfl
theorem qsX11_passesOne_5 : ∀ i, dqNth qtX11_passesOne_0 (80 + i) = dqNth qtX11_passesOne_5 i := dq_step qsX11_passesOne_4 rfl rfl
theorem qsX11_passesOne_6 : ∀ i, dqNth qtX11_passesOne_0 (96 + i) = dqNth qtX11_passesOne_6 i := dq_step qsX11_passesOne_5 rfl rfl
theorem qsX11_passesOne_7 : ∀ i, dqNth qtX11_passesOne_0 (112 + i) = dqNth qtX11_passesOne_7 i := dq_step qsX11_passesOne_6 rfl rfl
theorem qsX11_passesOne_8 : ∀ i, dqNth qtX11_passesOne_0 (128 + i) = dqNth qtX11_passesOne_8 i := dq_step qsX11_passesOne_7 rfl rfl
theorem qsX11_passesOne_9 : ∀ i, dqNth qtX11_passesOne_0 (144 + i) = dqNth qtX11_passesOne_9 i := dq_step qsX11_passesOne_8 rfl rfl
theorem qsX11_passesOne_10 : ∀ i, dqNth qtX11_passesOne_0 (160 + i) = dqNth qtX11_passesOne_10 i := dq_step qsX11_passesOne_9 rfl rfl
theorem qsX11_passesOne_11 : ∀ i, dqNth qtX11_passesOne_0 (176 + i) = dqNth qtX11_passesOne_11 i := dq_step qsX11_passesOne_10 rfl rfl
theorem qsX11_passesOne_12 : ∀ i, dqNth qtX11_passesOne_0 (192 + i) = dqNth qtX11_passesOne_12 i := dq_step qsX11_passesOne_11 rfl rfl
theorem qsX11_passesOne_13 : ∀ i, dqNth qtX11_passesOne_0 (208 + i) = dqNth qtX11_passesOne_13 i := dq_step qsX11_passesOne_12 rfl rfl
theorem qsX11_passesOne_14 : ∀ i, dqNth qtX11_passesOne_0 (224 + i) = dqNth qtX11_passesOne_14 i := dq_step qsX11_passesOne_13 rfl rfl
theorem qX11_passesOne_0 (i b : Nat) (h : dqNth qaX11_passesOne_0 i = some b) : DqBy cX11_passesOne (0 + i) b := dqBy_of qeX11_passesOne ((qsX11_passesOne_0 i).trans (dq_in h))
theorem qX11_passesOne_1 (i b : Nat) (h : dqNth qaX11_passesOne_1 i = some b) : DqBy cX11_passesOne (16 + i) b := dqBy_of qeX11_passesOne ((qsX11_passesOne_1 i).trans (dq_in h))
theorem qX11_passesOne_2 (i b : Nat) (h : dqNth qaX11_passesOne_2 i = some b) : DqBy cX11_passesOne (32 + i) b := dqBy_of qeX11_passesOne ((qsX11_passesOne_2 i).trans (dq_in h))
theorem qX11_passesOne_3 (i b : Nat) (h : dqNth qaX11_passesOne_3 i = some b) : DqBy cX11_passesOne (48 + i) b := dqBy_of qeX11_passesOne ((qsX11_passesOne_3 i).trans (dq_in h))
theorem qX11_passesOne_4 (i b : Nat) (h : dqNth qaX11_passesOne_4 i = some b) : DqBy cX11_passesOne (64 + i) b := dqBy_of qeX11_passesOne ((qsX11_passesOne_4 i).trans (dq_in h))
theorem qX11_passesOne_5 (i b : Nat) (h : dqNth qaX11_passesOne_5 i = some b) : DqBy cX11_passesOne (80 + i) b := dqBy_of qeX11_passesOne ((qsX11_passesOne_5 i).trans (dq_in h))
theorem qX11_passesOne_6 (i b : Nat) (h : dqNth qaX11_passesOne_6 i = some b) : DqBy cX11_passesOne (96 + i) b := dqBy_of qeX11_passesOne ((qsX11_passesOne_6 i).trans (dq_in h))
theorem qX11_passesOne_7 (i b : Nat) (h : dqNth qaX11_passesOne_7 i = some b) : DqBy cX11_passesOne (112 + i) b := dqBy_of qeX11_passesOne ((qsX11_passesOne_7 i).trans (dq_in h))
theorem qX11_passesOne_8 (i b : Nat) (h : dqNth qaX11_passesOne_8 i = some b) : DqBy cX11_passesOne (128 + i) b := dqBy_of qeX11_passesOne ((qsX11_passesOne_8 i).trans (dq_in h))
theorem qX11_passesOne_9 (i b : Nat) (h : dqNth qaX11_passesOne_9 i = some b) : DqBy cX11_passesOne (144 + i) b := dqBy_of qeX11_passesOne ((qsX11_passesOne_9 i).trans (dq_in h))
theorem qX11_passesOne_10 (i b : Nat) (h : dqNth qaX11_passesOne_10 i = some b) : DqBy cX11_passesOne (160 + i) b := dqBy_of qeX11_passesOne ((qsX11_passesOne_10 i).trans (dq_in h))
theorem qX11_passesOne_11 (i b : Nat) (h : dqNth qaX11_passesOne_11 i = some b) : DqBy cX11_passesOne (176 + i) b := dqBy_of qeX11_passesOne ((qsX11_passesOne_11 i).trans (dq_in h))
theorem qX11_passesOne_12 (i b : Nat) (h : dqNth qaX11_passesOne_12 i = some b) : DqBy cX11_passesOne (192 + i) b := dqBy_of qeX11_passesOne ((qsX11_passesOne_12 i).trans (dq_in h))
theorem qX11_passesOne_13 (i b : Nat) (h : dqNth qaX11_passesOne_13 i = some b) : DqBy cX11_passesOne (208 + i) b := dqBy_of qeX11_passesOne ((qsX11_passesOne_13 i).trans (dq_in h))
theorem qX11_passesOne_14 (i b : Nat) (h : dqNth qaX11_passesOne_14 i = some b) : DqBy cX11_passesOne (224 + i) b := dqBy_of qeX11_passesOne ((qsX11_passesOne_14 i).trans (dq_in h))
theorem dX11_passesOne_0 : decode cX11_passesOne 0 = .ok (.aload_n 0, 1) := @dq_o42 cX11_passesOne 0 (qX11_passesOne_0 0 42 rfl)
theorem dX11_passesOne_1 : decode cX11_passesOne 1 = .ok (.iload_n 1, 1) := @dq_o27 cX11_passesOne 1 (qX11_passesOne_0 1 27 rfl)
theorem dX11_passesOne_2 : decode cX11_passesOne 2 = .ok (.iload_n 2, 1) := @dq_o28 cX11_passesOne 2 (qX11_passesOne_0 2 28 rfl)
theorem dX11_passesOne_3 : decode cX11_passesOne 3 = .ok (.invokevirtual 166, 3) := @dq_o182 cX11_passesOne 3 0 166 (qX11_passesOne_0 3 182 rfl) (qX11_passesOne_0 4 0 rfl) (qX11_passesOne_0 5 166 rfl)
theorem dX11_passesOne_6 : decode cX11_passesOne 6 = .ok (.lstore 6, 2) := @dq_o55 cX11_passesOne 6 6 (qX11_passesOne_0 6 55 rfl) (qX11_passesOne_0 7 6 rfl)
theorem dX11_passesOne_8 : decode cX11_passesOne 8 = .ok (.iload_n 2, 1) := @dq_o28 cX11_passesOne 8 (qX11_passesOne_0 8 28 rfl)
theorem dX11_passesOne_9 : decode cX11_passesOne 9 = .ok (.iconst 1, 1) := @dq_o4 cX11_passesOne 9 (qX11_passesOne_0 9 4 rfl)
theorem dX11_passesOne_10 : decode cX11_passesOne 10 = .ok (.iadd, 1) := @dq_o96 cX11_passesOne 10 (qX11_passesOne_0 10 96 rfl)
theorem dX11_passesOne_11 : decode cX11_passesOne 11 = .ok (.istore 8, 2) := @dq_o54 cX11_passesOne 11 8 (qX11_passesOne_0 11 54 rfl) (qX11_passesOne_0 12 8 rfl)
theorem dX11_passesOne_13 : decode cX11_passesOne 13 = .ok (.iload 8, 2) := @dq_o21 cX11_passesOne 13 8 (qX11_passesOne_0 13 21 rfl) (qX11_passesOne_0 14 8 rfl)
theorem dX11_passesOne_15 : decode cX11_passesOne 15 = .ok (.aload_n 0, 1) := @dq_o42 cX11_passesOne 15 (qX11_passesOne_0 15 42 rfl)
theorem dX11_passesOne_16 : decode cX11_passesOne 16 = .ok (.invokevirtual 88, 3) := @dq_o182 cX11_passesOne 16 0 88 (qX11_passesOne_1 0 182 rfl) (qX11_passesOne_1 1 0 rfl) (qX11_passesOne_1 2 88 rfl)
theorem dX11_passesOne_19 : decode cX11_passesOne 19 = .ok (.if_icmp .ge 219, 3) := @dq_o162 cX11_passesOne 19 0 219 (qX11_passesOne_1 3 162 rfl) (qX11_passesOne_1 4 0 rfl) (qX11_passesOne_1 5 219 rfl)
theorem dX11_passesOne_22 : decode cX11_passesOne 22 = .ok (.aload_n 0, 1) := @dq_o42 cX11_passesOne 22 (qX11_passesOne_1 6 42 rfl)
theorem dX11_passesOne_23 : decode cX11_passesOne 23 = .ok (.iload_n 2, 1) := @dq_o28 cX11_passesOne 23 (qX11_passesOne_1 7 28 rfl)
theorem dX11_passesOne_24 : decode cX11_passesOne 24 = .ok (.iload_n 3, 1) := @dq_o29 cX11_passesOne 24 (qX11_passesOne_1 8 29 rfl)
theorem dX11_passesOne_25 : decode cX11_passesOne 25 = .ok (.iload 8, 2) := @dq_o21 cX11_passesOne 25 8 (qX11_passesOne_1 9 21 rfl) (qX11_passesOne_1 10 8 rfl)
theorem dX11_passesOne_27 : decode cX11_passesOne 27 = .ok (.invokevirtual 130, 3) := @dq_o182 cX11_passesOne 27 0 130 (qX11_passesOne_1 11 182 rfl) (qX11_passesOne_1 12 0 rfl) (qX11_passesOne_1 13 130 rfl)
theorem dX11_passesOne_30 : decode cX11_passesOne 30 = .ok (.istore 9, 2) := @dq_o54 cX11_passesOne 30 9 (qX11_passesOne_1 14 54 rfl) (qX11_passesOne_1 15 9 rfl)
theorem dX11_passesOne_32 : decode cX11_passesOne 32 = .ok (.iload 9, 2) := @dq_o21 cX11_passesOne 32 9 (qX11_passesOne_2 0 21 rfl) (qX11_passesOne_2 1 9 rfl)
theorem dX11_passesOne_34 : decode cX11_passesOne 34 = .ok (.ifCond .ne 6, 3) := @dq_o154 cX11_passesOne 34 0 6 (qX11_passesOne_2 2 154 rfl) (qX11_passesOne_2 3 0 rfl) (qX11_passesOne_2 4 6 rfl)
theorem dX11_passesOne_37 : decode cX11_passesOne 37 = .ok (.goto 195, 3) := @dq_o167 cX11_passesOne 37 0 195 (qX11_passesOne_2 5 167 rfl) (qX11_passesOne_2 6 0 rfl) (qX11_passesOne_2 7 195 rfl)
theorem dX11_passesOne_40 : decode cX11_passesOne 40 = .ok (.aload_n 0, 1) := @dq_o42 cX11_passesOne 40 (qX11_passesOne_2 8 42 rfl)
theorem dX11_passesOne_41 : decode cX11_passesOne 41 = .ok (.getfield 37, 3) := @dq_o180 cX11_passesOne 41 0 37 (qX11_passesOne_2 9 180 rfl) (qX11_passesOne_2 10 0 rfl) (qX11_passesOne_2 11 37 rfl)
theorem dX11_passesOne_44 : decode cX11_passesOne 44 = .ok (.iload 8, 2) := @dq_o21 cX11_passesOne 44 8 (qX11_passesOne_2 12 21 rfl) (qX11_passesOne_2 13 8 rfl)
theorem dX11_passesOne_46 : decode cX11_passesOne 46 = .ok (.aload_n 0, 1) := @dq_o42 cX11_passesOne 46 (qX11_passesOne_2 14 42 rfl)
theorem dX11_passesOne_47 : decode cX11_passesOne 47 = .ok (.getfield 37, 3) := @dq_o180 cX11_passesOne 47 0 37 (qX11_passesOne_2 15 180 rfl) (qX11_passesOne_3 0 0 rfl) (qX11_passesOne_3 1 37 rfl)
theorem dX11_passesOne_50 : decode cX11_passesOne 50 = .ok (.iload 8, 2) := @dq_o21 cX11_passesOne 50 8 (qX11_passesOne_3 2 21 rfl) (qX11_passesOne_3 3 8 rfl)
theorem dX11_passesOne_52 : decode cX11_passesOne 52 = .ok (.laload, 1) := @dq_o47 cX11_passesOne 52 (qX11_passesOne_3 4 47 rfl)
theorem dX11_passesOne_53 : decode cX11_passesOne 53 = .ok (.iload 9, 2) := @dq_o21 cX11_passesOne 53 9 (qX11_passesOne_3 5 21 rfl) (qX11_passesOne_3 6 9 rfl)
theorem dX11_passesOne_55 : decode cX11_passesOne 55 = .ok (.i2l, 1) := @dq_o133 cX11_passesOne 55 (qX11_passesOne_3 7 133 rfl)
theorem dX11_passesOne_56 : decode cX11_passesOne 56 = .ok (.lload 6, 2) := @dq_o22 cX11_passesOne 56 6 (qX11_passesOne_3 8 22 rfl) (qX11_passesOne_3 9 6 rfl)
theorem dX11_passesOne_58 : decode cX11_passesOne 58 = .ok (.lmul, 1) := @dq_o105 cX11_passesOne 58 (qX11_passesOne_3 10 105 rfl)
theorem dX11_passesOne_59 : decode cX11_passesOne 59 = .ok (.lload 4, 2) := @dq_o22 cX11_passesOne 59 4 (qX11_passesOne_3 11 22 rfl) (qX11_passesOne_3 12 4 rfl)
theorem dX11_passesOne_61 : decode cX11_passesOne 61 = .ok (.lmul, 1) := @dq_o105 cX11_passesOne 61 (qX11_passesOne_3 13 105 rfl)
theorem dX11_passesOne_62 : decode cX11_passesOne 62 = .ok (.ladd, 1) := @dq_o97 cX11_passesOne 62 (qX11_passesOne_3 14 97 rfl)
theorem dX11_passesOne_63 : decode cX11_passesOne 63 = .ok (.lastore, 1) := @dq_o80 cX11_passesOne 63 (qX11_passesOne_3 15 80 rfl)
theorem dX11_passesOne_64 : decode cX11_passesOne 64 = .ok (.aload_n 0, 1) := @dq_o42 cX11_passesOne 64 (qX11_passesOne_4 0 42 rfl)
theorem dX11_passesOne_65 : decode cX11_passesOne 65 = .ok (.iload 8, 2) := @dq_o21 cX11_passesOne 65 8 (qX11_passesOne_4 1 21 rfl) (qX11_passesOne_4 2 8 rfl)
theorem dX11_passesOne_67 : decode cX11_passesOne 67 = .ok (.invokevirtual 92, 3) := @dq_o182 cX11_passesOne 67 0 92 (qX11_passesOne_4 3 182 rfl) (qX11_passesOne_4 4 0 rfl) (qX11_passesOne_4 5 92 rfl)
theorem dX11_passesOne_70 : decode cX11_passesOne 70 = .ok (.iconst 2, 1) := @dq_o5 cX11_passesOne 70 (qX11_passesOne_4 6 5 rfl)
theorem dX11_passesOne_71 : decode cX11_passesOne 71 = .ok (.if_icmp .le 6, 3) := @dq_o164 cX11_passesOne 71 0 6 (qX11_passesOne_4 7 164 rfl) (qX11_passesOne_4 8 0 rfl) (qX11_passesOne_4 9 6 rfl)
theorem dX11_passesOne_74 : decode cX11_passesOne 74 = .ok (.goto 158, 3) := @dq_o167 cX11_passesOne 74 0 158 (qX11_passesOne_4 10 167 rfl) (qX11_passesOne_4 11 0 rfl) (qX11_passesOne_4 12 158 rfl)
theorem dX11_passesOne_77 : decode cX11_passesOne 77 = .ok (.iload 8, 2) := @dq_o21 cX11_passesOne 77 8 (qX11_passesOne_4 13 21 rfl) (qX11_passesOne_4 14 8 rfl)
theorem dX11_passesOne_79 : decode cX11_passesOne 79 = .ok (.iconst 1, 1) := @dq_o4 cX11_passesOne 79 (qX11_passesOne_4 15 4 rfl)
theorem dX11_passesOne_80 : decode cX11_passesOne 80 = .ok (.iadd, 1) := @dq_o96 cX11_passesOne 80 (qX11_passesOne_5 0 96 rfl)
theorem dX11_passesOne_81 : decode cX11_passesOne 81 = .ok (.istore 10, 2) := @dq_o54 cX11_passesOne 81 10 (qX11_passesOne_5 1 54 rfl) (qX11_passesOne_5 2 10 rfl)
theorem dX11_passesOne_83 : decode cX11_passesOne 83 = .ok (.iload 10, 2) := @dq_o21 cX11_passesOne 83 10 (qX11_passesOne_5 3 21 rfl) (qX11_passesOne_5 4 10 rfl)
theorem dX11_passesOne_85 : decode cX11_passesOne 85 = .ok (.aload_n 0, 1) := @dq_o42 cX11_passesOne 85 (qX11_passesOne_5 5 42 rfl)
theorem dX11_passesOne_86 : decode cX11_passesOne 86 = .ok (.invokevirtual 88, 3) := @dq_o182 cX11_passesOne 86 0 88 (qX11_passesOne_5 6 182 rfl) (qX11_passesOne_5 7 0 rfl) (qX11_passesOne_5 8 88 rfl)
theorem dX11_passesOne_89 : decode cX11_passesOne 89 = .ok (.if_icmp .ge 143, 3) := @dq_o162 cX11_passesOne 89 0 143 (qX11_passesOne_5 9 162 rfl) (qX11_passesOne_5 10 0 rfl) (qX11_passesOne_5 11 143 rfl)
theorem dX11_passesOne_92 : decode cX11_passesOne 92 = .ok (.aload_n 0, 1) := @dq_o42 cX11_passesOne 92 (qX11_passesOne_5 12 42 rfl)
theorem dX11_passesOne_93 : decode cX11_passesOne 93 = .ok (.getfield 37, 3) := @dq_o180 cX11_passesOne 93 0 37 (qX11_passesOne_5 13 180 rfl) (qX11_passesOne_5 14 0 rfl) (qX11_passesOne_5 15 37 rfl)
theorem dX11_passesOne_96 : decode cX11_passesOne 96 = .ok (.iload 10, 2) := @dq_o21 cX11_passesOne 96 10 (qX11_passesOne_6 0 21 rfl) (qX11_passesOne_6 1 10 rfl)
theorem dX11_passesOne_98 : decode cX11_passesOne 98 = .ok (.aload_n 0, 1) := @dq_o42 cX11_passesOne 98 (qX11_passesOne_6 2 42 rfl)
theorem dX11_passesOne_99 : decode cX11_passesOne 99 = .ok (.getfield 37, 3) := @dq_o180 cX11_passesOne 99 0 37 (qX11_passesOne_6 3 180 rfl) (qX11_passesOne_6 4 0 rfl) (qX11_passesOne_6 5 37 rfl)
theorem dX11_passesOne_102 : decode cX11_passesOne 102 = .ok (.iload 10, 2) := @dq_o21 cX11_passesOne 102 10 (qX11_passesOne_6 6 21 rfl) (qX11_passesOne_6 7 10 rfl)
theorem dX11_passesOne_104 : decode cX11_passesOne 104 = .ok (.laload, 1) := @dq_o47 cX11_passesOne 104 (qX11_passesOne_6 8 47 rfl)
theorem dX11_passesOne_105 : decode cX11_passesOne 105 = .ok (.iload 9, 2) := @dq_o21 cX11_passesOne 105 9 (qX11_passesOne_6 9 21 rfl) (qX11_passesOne_6 10 9 rfl)
theorem dX11_passesOne_107 : decode cX11_passesOne 107 = .ok (.i2l, 1) := @dq_o133 cX11_passesOne 107 (qX11_passesOne_6 11 133 rfl)
theorem dX11_passesOne_108 : decode cX11_passesOne 108 = .ok (.aload_n 0, 1) := @dq_o42 cX11_passesOne 108 (qX11_passesOne_6 12 42 rfl)
theorem dX11_passesOne_109 : decode cX11_passesOne 109 = .ok (.iload 8, 2) := @dq_o21 cX11_passesOne 109 8 (qX11_passesOne_6 13 21 rfl) (qX11_passesOne_6 14 8 rfl)
theorem dX11_passesOne_111 : decode cX11_passesOne 111 = .ok (.iload_n 3, 1) := @dq_o29 cX11_passesOne 111 (qX11_passesOne_6 15 29 rfl)
theorem dX11_passesOne_112 : decode cX11_passesOne 112 = .ok (.iload 10, 2) := @dq_o21 cX11_passesOne 112 10 (qX11_passesOne_7 0 21 rfl) (qX11_passesOne_7 1 10 rfl)
theorem dX11_passesOne_114 : decode cX11_passesOne 114 = .ok (.invokevirtual 130, 3) := @dq_o182 cX11_passesOne 114 0 130 (qX11_passesOne_7 2 182 rfl) (qX11_passesOne_7 3 0 rfl) (qX11_passesOne_7 4 130 rfl)
theorem dX11_passesOne_117 : decode cX11_passesOne 117 = .ok (.i2l, 1) := @dq_o133 cX11_passesOne 117 (qX11_passesOne_7 5 133 rfl)
theorem dX11_passesOne_118 : decode cX11_passesOne 118 = .ok (.lload 6, 2) := @dq_o22 cX11_passesOne 118 6 (qX11_passesOne_7 6 22 rfl) (qX11_passesOne_7 7 6 rfl)
theorem dX11_passesOne_120 : decode cX11_passesOne 120 = .ok (.lmul, 1) := @dq_o105 cX11_passesOne 120 (qX11_passesOne_7 8 105 rfl)
theorem dX11_passesOne_121 : decode cX11_passesOne 121 = .ok (.aload_n 0, 1) := @dq_o42 cX11_passesOne 121 (qX11_passesOne_7 9 42 rfl)
theorem dX11_passesOne_122 : decode cX11_passesOne 122 = .ok (.lload 4, 2) := @dq_o22 cX11_passesOne 122 4 (qX11_passesOne_7 10 22 rfl) (qX11_passesOne_7 11 4 rfl)
theorem dX11_passesOne_124 : decode cX11_passesOne 124 = .ok (.invokevirtual 183, 3) := @dq_o182 cX11_passesOne 124 0 183 (qX11_passesOne_7 12 182 rfl) (qX11_passesOne_7 13 0 rfl) (qX11_passesOne_7 14 183 rfl)
theorem dX11_passesOne_127 : decode cX11_passesOne 127 = .ok (.lmul, 1) := @dq_o105 cX11_passesOne 127 (qX11_passesOne_7 15 105 rfl)
theorem dX11_passesOne_128 : decode cX11_passesOne 128 = .ok (.aload_n 0, 1) := @dq_o42 cX11_passesOne 128 (qX11_passesOne_8 0 42 rfl)
theorem dX11_passesOne_129 : decode cX11_passesOne 129 = .ok (.iload 8, 2) := @dq_o21 cX11_passesOne 129 8 (qX11_passesOne_8 1 21 rfl) (qX11_passesOne_8 2 8 rfl)
theorem dX11_passesOne_131 : decode cX11_passesOne 131 = .ok (.iload_n 2, 1) := @dq_o28 cX11_passesOne 131 (qX11_passesOne_8 3 28 rfl)
theorem dX11_passesOne_132 : decode cX11_passesOne 132 = .ok (.iload 10, 2) := @dq_o21 cX11_passesOne 132 10 (qX11_passesOne_8 4 21 rfl) (qX11_passesOne_8 5 10 rfl)
theorem dX11_passesOne_134 : decode cX11_passesOne 134 = .ok (.invokevirtual 130, 3) := @dq_o182 cX11_passesOne 134 0 130 (qX11_passesOne_8 6 182 rfl) (qX11_passesOne_8 7 0 rfl) (qX11_passesOne_8 8 130 rfl)
theorem dX11_passesOne_137 : decode cX11_passesOne 137 = .ok (.i2l, 1) := @dq_o133 cX11_passesOne 137 (qX11_passesOne_8 9 133 rfl)
theorem dX11_passesOne_138 : decode cX11_passesOne 138 = .ok (.lload 4, 2) := @dq_o22 cX11_passesOne 138 4 (qX11_passesOne_8 10 22 rfl) (qX11_passesOne_8 11 4 rfl)
theorem dX11_passesOne_140 : decode cX11_passesOne 140 = .ok (.lmul, 1) := @dq_o105 cX11_passesOne 140 (qX11_passesOne_8 12 105 rfl)
theorem dX11_passesOne_141 : decode cX11_passesOne 141 = .ok (.aload_n 0, 1) := @dq_o42 cX11_passesOne 141 (qX11_passesOne_8 13 42 rfl)
theorem dX11_passesOne_142 : decode cX11_passesOne 142 = .ok (.lload 6, 2) := @dq_o22 cX11_passesOne 142 6 (qX11_passesOne_8 14 22 rfl) (qX11_passesOne_8 15 6 rfl)
theorem dX11_passesOne_144 : decode cX11_passesOne 144 = .ok (.invokevirtual 183, 3) := @dq_o182 cX11_passesOne 144 0 183 (qX11_passesOne_9 0 182 rfl) (qX11_passesOne_9 1 0 rfl) (qX11_passesOne_9 2 183 rfl)
theorem dX11_passesOne_147 : decode cX11_passesOne 147 = .ok (.lmul, 1) := @dq_o105 cX11_passesOne 147 (qX11_passesOne_9 3 105 rfl)
theorem dX11_passesOne_148 : decode cX11_passesOne 148 = .ok (.ladd, 1) := @dq_o97 cX11_passesOne 148 (qX11_passesOne_9 4 97 rfl)
theorem dX11_passesOne_149 : decode cX11_passesOne 149 = .ok (.lmul, 1) := @dq_o105 cX11_passesOne 149 (qX11_passesOne_9 5 105 rfl)
theorem dX11_passesOne_150 : decode cX11_passesOne 150 = .ok (.ladd, 1) := @dq_o97 cX11_passesOne 150 (qX11_passesOne_9 6 97 rfl)
theorem dX11_passesOne_151 : decode cX11_passesOne 151 = .ok (.lastore, 1) := @dq_o80 cX11_passesOne 151 (qX11_passesOne_9 7 80 rfl)
theorem dX11_passesOne_152 : decode cX11_passesOne 152 = .ok (.iload_n 2, 1) := @dq_o28 cX11_passesOne 152 (qX11_passesOne_9 8 28 rfl)
theorem dX11_passesOne_153 : decode cX11_passesOne 153 = .ok (.iconst 1, 1) := @dq_o4 cX11_passesOne 153 (qX11_passesOne_9 9 4 rfl)
theorem dX11_passesOne_154 : decode cX11_passesOne 154 = .ok (.iadd, 1) := @dq_o96 cX11_passesOne 154 (qX11_passesOne_9 10 96 rfl)
theorem dX11_passesOne_155 : decode cX11_passesOne 155 = .ok (.istore 11, 2) := @dq_o54 cX11_passesOne 155 11 (qX11_passesOne_9 11 54 rfl) (qX11_passesOne_9 12 11 rfl)
theorem dX11_passesOne_157 : decode cX11_passesOne 157 = .ok (.iload 11, 2) := @dq_o21 cX11_passesOne 157 11 (qX11_passesOne_9 13 21 rfl) (qX11_passesOne_9 14 11 rfl)
theorem dX11_passesOne_159 : decode cX11_passesOne 159 = .ok (.aload_n 0, 1) := @dq_o42 cX11_passesOne 159 (qX11_passesOne_9 15 42 rfl)
theorem dX11_passesOne_160 : decode cX11_passesOne 160 = .ok (.invokevirtual 88, 3) := @dq_o182 cX11_passesOne 160 0 88 (qX11_passesOne_10 0 182 rfl) (qX11_passesOne_10 1 0 rfl) (qX11_passesOne_10 2 88 rfl)
theorem dX11_passesOne_163 : decode cX11_passesOne 163 = .ok (.if_icmp .ge 63, 3) := @dq_o162 cX11_passesOne 163 0 63 (qX11_passesOne_10 3 162 rfl) (qX11_passesOne_10 4 0 rfl) (qX11_passesOne_10 5 63 rfl)
theorem dX11_passesOne_166 : decode cX11_passesOne 166 = .ok (.aload_n 0, 1) := @dq_o42 cX11_passesOne 166 (qX11_passesOne_10 6 42 rfl)
theorem dX11_passesOne_167 : decode cX11_passesOne 167 = .ok (.iload 11, 2) := @dq_o21 cX11_passesOne 167 11 (qX11_passesOne_10 7 21 rfl) (qX11_passesOne_10 8 11 rfl)
theorem dX11_passesOne_169 : decode cX11_passesOne 169 = .ok (.invokevirtual 92, 3) := @dq_o182 cX11_passesOne 169 0 92 (qX11_passesOne_10 9 182 rfl) (qX11_passesOne_10 10 0 rfl) (qX11_passesOne_10 11 92 rfl)
theorem dX11_passesOne_172 : decode cX11_passesOne 172 = .ok (.iconst 1, 1) := @dq_o4 cX11_passesOne 172 (qX11_passesOne_10 12 4 rfl)
theorem dX11_passesOne_173 : decode cX11_passesOne 173 = .ok (.if_icmp .ne 53, 3) := @dq_o160 cX11_passesOne 173 0 53 (qX11_passesOne_10 13 160 rfl) (qX11_passesOne_10 14 0 rfl) (qX11_passesOne_10 15 53 rfl)
theorem dX11_passesOne_176 : decode cX11_passesOne 176 = .ok (.aload_n 0, 1) := @dq_o42 cX11_passesOne 176 (qX11_passesOne_11 0 42 rfl)
theorem dX11_passesOne_177 : decode cX11_passesOne 177 = .ok (.getfield 37, 3) := @dq_o180 cX11_passesOne 177 0 37 (qX11_passesOne_11 1 180 rfl) (qX11_passesOne_11 2 0 rfl) (qX11_passesOne_11 3 37 rfl)
theorem dX11_passesOne_180 : decode cX11_passesOne 180 = .ok (.iload 10, 2) := @dq_o21 cX11_passesOne 180 10 (qX11_passesOne_11 4 21 rfl) (qX11_passesOne_11 5 10 rfl)
theorem dX11_passesOne_182 : decode cX11_passesOne 182 = .ok (.aload_n 0, 1) := @dq_o42 cX11_passesOne 182 (qX11_passesOne_11 6 42 rfl)
theorem dX11_passesOne_183 : decode cX11_passesOne 183 = .ok (.getfield 37, 3) := @dq_o180 cX11_passesOne 183 0 37 (qX11_passesOne_11 7 180 rfl) (qX11_passesOne_11 8 0 rfl) (qX11_passesOne_11 9 37 rfl)
theorem dX11_passesOne_186 : decode cX11_passesOne 186 = .ok (.iload 10, 2) := @dq_o21 cX11_passesOne 186 10 (qX11_passesOne_11 10 21 rfl) (qX11_passesOne_11 11 10 rfl)
theorem dX11_passesOne_188 : decode cX11_passesOne 188 = .ok (.laload, 1) := @dq_o47 cX11_passesOne 188 (qX11_passesOne_11 12 47 rfl)
theorem dX11_passesOne_189 : decode cX11_passesOne 189 = .ok (.iload 9, 2) := @dq_o21 cX11_passesOne 189 9 (qX11_passesOne_11 13 21 rfl) (qX11_passesOne_11 14 9 rfl)
theorem dX11_passesOne_191 : decode cX11_passesOne 191 = .ok (.i2l, 1) := @dq_o133 cX11_passesOne 191 (qX11_passesOne_11 15 133 rfl)
theorem dX11_passesOne_192 : decode cX11_passesOne 192 = .ok (.lload 6, 2) := @dq_o22 cX11_passesOne 192 6 (qX11_passesOne_12 0 22 rfl) (qX11_passesOne_12 1 6 rfl)
theorem dX11_passesOne_194 : decode cX11_passesOne 194 = .ok (.lmul, 1) := @dq_o105 cX11_passesOne 194 (qX11_passesOne_12 2 105 rfl)
theorem dX11_passesOne_195 : decode cX11_passesOne 195 = .ok (.lload 4, 2) := @dq_o22 cX11_passesOne 195 4 (qX11_passesOne_12 3 22 rfl) (qX11_passesOne_12 4 4 rfl)
theorem dX11_passesOne_197 : decode cX11_passesOne 197 = .ok (.lmul, 1) := @dq_o105 cX11_passesOne 197 (qX11_passesOne_12 5 105 rfl)
theorem dX11_passesOne_198 : decode cX11_passesOne 198 = .ok (.aload_n 0, 1) := @dq_o42 cX11_passesOne 198 (qX11_passesOne_12 6 42 rfl)
theorem dX11_passesOne_199 : decode cX11_passesOne 199 = .ok (.iload 8, 2) := @dq_o21 cX11_passesOne 199 8 (qX11_passesOne_12 7 21 rfl) (qX11_passesOne_12 8 8 rfl)
theorem dX11_passesOne_201 : decode cX11_passesOne 201 = .ok (.iload 11, 2) := @dq_o21 cX11_passesOne 201 11 (qX11_passesOne_12 9 21 rfl) (qX11_passesOne_12 10 11 rfl)
theorem dX11_passesOne_203 : decode cX11_passesOne 203 = .ok (.iload 10, 2) := @dq_o21 cX11_passesOne 203 10 (qX11_passesOne_12 11 21 rfl) (qX11_passesOne_12 12 10 rfl)
theorem dX11_passesOne_205 : decode cX11_passesOne 205 = .ok (.invokevirtual 130, 3) := @dq_o182 cX11_passesOne 205 0 130 (qX11_passesOne_12 13 182 rfl) (qX11_passesOne_12 14 0 rfl) (qX11_passesOne_12 15 130 rfl)
theorem dX11_passesOne_208 : decode cX11_passesOne 208 = .ok (.i2l, 1) := @dq_o133 cX11_passesOne 208 (qX11_passesOne_13 0 133 rfl)
theorem dX11_passesOne_209 : decode cX11_passesOne 209 = .ok (.lmul, 1) := @dq_o105 cX11_passesOne 209 (qX11_passesOne_13 1 105 rfl)
theorem dX11_passesOne_210 : decode cX11_passesOne 210 = .ok (.aload_n 0, 1) := @dq_o42 cX11_passesOne 210 (qX11_passesOne_13 2 42 rfl)
theorem dX11_passesOne_211 : decode cX11_passesOne 211 = .ok (.iload_n 1, 1) := @dq_o27 cX11_passesOne 211 (qX11_passesOne_13 3 27 rfl)
theorem dX11_passesOne_212 : decode cX11_passesOne 212 = .ok (.iload 11, 2) := @dq_o21 cX11_passesOne 212 11 (qX11_passesOne_13 4 21 rfl) (qX11_passesOne_13 5 11 rfl)
theorem dX11_passesOne_214 : decode cX11_passesOne 214 = .ok (.invokevirtual 166, 3) := @dq_o182 cX11_passesOne 214 0 166 (qX11_passesOne_13 6 182 rfl) (qX11_passesOne_13 7 0 rfl) (qX11_passesOne_13 8 166 rfl)
theorem dX11_passesOne_217 : decode cX11_passesOne 217 = .ok (.lmul, 1) := @dq_o105 cX11_passesOne 217 (qX11_passesOne_13 9 105 rfl)
theorem dX11_passesOne_218 : decode cX11_passesOne 218 = .ok (.ladd, 1) := @dq_o97 cX11_passesOne 218 (qX11_passesOne_13 10 97 rfl)
theorem dX11_passesOne_219 : decode cX11_passesOne 219 = .ok (.lastore, 1) := @dq_o80 cX11_passesOne 219 (qX11_passesOne_13 11 80 rfl)
theorem dX11_passesOne_220 : decode cX11_passesOne 220 = .ok (.iinc 11 1, 3) := @dq_o132 cX11_passesOne 220 11 1 (qX11_passesOne_13 12 132 rfl) (qX11_passesOne_13 13 11 rfl) (qX11_passesOne_13 14 1 rfl)
theorem dX11_passesOne_223 : decode cX11_passesOne 223 = .ok (.goto (-66), 3) := @dq_o167 cX11_passesOne 223 255 190 (qX11_passesOne_13 15 167 rfl) (qX11_passesOne_14 0 255 rfl) (qX11_passesOne_14 1 190 rfl)
theorem dX11_passesOne_226 : decode cX11_passesOne 226 = .ok (.iinc 10 1, 3) := @dq_o132 cX11_passesOne 226 10 1 (qX11_passesOne_14 2 132 rfl) (qX11_passesOne_14 3 10 rfl) (qX11_passesOne_14 4 1 rfl)
theorem dX11_passesOne_229 : decode cX11_passesOne 229 = .ok (.goto (-146), 3) := @dq_o167 cX11_passesOne 229 255 110 (qX11_passesOne_14 5 167 rfl) (qX11_passesOne_14 6 255 rfl) (qX11_passesOne_14 7 110 rfl)
theorem dX11_passesOne_232 : decode cX11_passesOne 232 = .ok (.iinc 8 1, 3) := @dq_o132 cX11_passesOne 232 8 1 (qX11_passesOne_14 8 132 rfl) (qX11_passesOne_14 9 8 rfl) (qX11_passesOne_14 10 1 rfl)
theorem dX11_passesOne_235 : decode cX11_passesOne 235 = .ok (.goto (-222), 3) := @dq_o167 cX11_passesOne 235 255 34 (qX11_passesOne_14 11 167 rfl) (qX11_passesOne_14 12 255 rfl) (qX11_passesOne_14 13 34 rfl)
theorem dX11_passesOne_238 : decode cX11_passesOne 238 = .ok (.return_, 1) := @dq_o177 cX11_passesOne 238 (qX11_passesOne_14 14 177 rfl)
abbrev qaX11_times_0 : List Nat := [3, 62, 29, 42, 182, 0, 88, 162, 0, 21, 42, 27, 29, 42, 28, 29]
abbrev qaX11_times_1 : List Nat := [182, 0, 166, 182, 0, 187, 132, 3, 1, 167, 255, 233, 177]
def qtX11_times_2 : List Nat := []
def qtX11_times_1 : List Nat := qaX11_times_1 ++ qtX11_times_2
def qtX11_times_0 : List Nat := qaX11_times_0 ++ qtX11_times_1
theorem qeX11_times : cX11_times.data.toList.map UInt8.toNat = qtX11_times_0 := by decide +kernel
theorem qsX11_times_0 : ∀ i, dqNth qtX11_times_0 (0 + i) = dqNth qtX11_times_0 i := fun i => by rw [Nat.zero_add]
theorem qsX11_times_1 : ∀ i, dqNth qtX11_times_0 (16 + i) = dqNth qtX11_times_1 i := dq_step qsX11_times_0 rfl rfl
theorem qX11_times_0 (i b : Nat) (h : dqNth qaX11_times_0 i = some b) : DqBy cX11_times (0 + i) b := dqBy_of qeX11_times ((qsX11_times_0 i).trans (dq_in h))
theorem qX11_times_1 (i b : Nat) (h : dqNth qaX11_times_1 i = some b) : DqBy cX11_times (16 + i) b := dqBy_of qeX11_times ((qsX11_times_1 i).trans (dq_in h))
theorem dX11_times_0 : decode cX11_times 0 = .ok (.iconst 0, 1) := @dq_o3 cX11_times 0 (qX11_times_0 0 3 rfl)
theorem dX11_times_1 : decode cX11_times 1 = .ok (.istore_n 3, 1) := @dq_o62 cX11_times 1 (qX11_times_0 1 62 rfl)
theorem dX11_times_2 : decode cX11_times 2 = .ok (.iload_n 3, 1) := @dq_o29 cX11_times 2 (qX11_times_0 2 29 rfl)
theorem dX11_times_3 : decode cX11_times 3 = .ok (.aload_n 0, 1) := @dq_o42 cX11_times 3 (qX11_times_0 3 42 rfl)
theorem dX11_times_4 : decode cX11_times 4 = .ok (.invokevirtual 88, 3) := @dq_o182 cX11_times 4 0 88 (qX11_times_0 4 182 rfl) (qX11_times_0 5 0 rfl) (qX11_times_0 6 88 rfl)
theorem dX11_times_7 : decode cX11_times 7 = .ok (.if_icmp .ge 21, 3) := @dq_o162 cX11_times 7 0 21 (qX11_times_0 7 162 rfl) (qX11_times_0 8 0 rfl) (qX11_times_0 9 21 rfl)
theorem dX11_times_10 : decode cX11_times 10 = .ok (.aload_n 0, 1) := @dq_o42 cX11_times 10 (qX11_times_0 10 42 rfl)
theorem dX11_times_11 : decode cX11_times 11 = .ok (.iload_n 1, 1) := @dq_o27 cX11_times 11 (qX11_times_0 11 27 rfl)
theorem dX11_times_12 : decode cX11_times 12 = .ok (.iload_n 3, 1) := @dq_o29 cX11_times 12 (qX11_times_0 12 29 rfl)
theorem dX11_times_13 : decode cX11_times 13 = .ok (.aload_n 0, 1) := @dq_o42 cX11_times 13 (qX11_times_0 13 42 rfl)
theorem dX11_times_14 : decode cX11_times 14 = .ok (.iload_n 2, 1) := @dq_o28 cX11_times 14 (qX11_times_0 14 28 rfl)
theorem dX11_times_15 : decode cX11_times 15 = .ok (.iload_n 3, 1) := @dq_o29 cX11_times 15 (qX11_times_0 15 29 rfl)
theorem dX11_times_16 : decode cX11_times 16 = .ok (.invokevirtual 166, 3) := @dq_o182 cX11_times 16 0 166 (qX11_times_1 0 182 rfl) (qX11_times_1 1 0 rfl) (qX11_times_1 2 166 rfl)
theorem dX11_times_19 : decode cX11_times 19 = .ok (.invokevirtual 187, 3) := @dq_o182 cX11_times 19 0 187 (qX11_times_1 3 182 rfl) (qX11_times_1 4 0 rfl) (qX11_times_1 5 187 rfl)
theorem dX11_times_22 : decode cX11_times 22 = .ok (.iinc 3 1, 3) := @dq_o132 cX11_times 22 3 1 (qX11_times_1 6 132 rfl) (qX11_times_1 7 3 rfl) (qX11_times_1 8 1 rfl)
theorem dX11_times_25 : decode cX11_times 25 = .ok (.goto (-23), 3) := @dq_o167 cX11_times 25 255 233 (qX11_times_1 9 167 rfl) (qX11_times_1 10 255 rfl) (qX11_times_1 11 233 rfl)
theorem dX11_times_28 : decode cX11_times 28 = .ok (.return_, 1) := @dq_o177 cX11_times 28 (qX11_times_1 12 177 rfl)
abbrev qaX11_inverse_0 : List Nat := [42, 28, 182, 0, 190, 3, 62, 29, 42, 182, 0, 88, 162, 0, 40, 42]
abbrev qaX11_inverse_1 : List Nat := [27, 28, 4, 96, 182, 0, 193, 42, 28, 4, 96, 28, 182, 0, 197, 42]
abbrev qaX11_inverse_2 : List Nat := [28, 29, 42, 28, 4, 96, 29, 182, 0, 166, 117, 182, 0, 162, 132, 3]
abbrev qaX11_inverse_3 : List Nat := [1, 167, 255, 214, 177]
def qtX11_inverse_4 : List Nat := []
def qtX11_inverse_3 : List Nat := qaX11_inverse_3 ++ qtX11_inverse_4
def qtX11_inverse_2 : List Nat := qaX11_inverse_2 ++ qtX11_inverse_3
def qtX11_inverse_1 : List Nat := qaX11_inverse_1 ++ qtX11_inverse_2
def qtX11_inverse_0 : List Nat := qaX11_inverse_0 ++ qtX11_inverse_1
theorem qeX11_inverse : cX11_inverse.data.toList.map UInt8.toNat = qtX11_inverse_0 := by decide +kernel
theorem qsX11_inverse_0 : ∀ i, dqNth qtX11_inverse_0 (0 + i) = dqNth qtX11_inverse_0 i := fun i => by rw [Nat.zero_add]
theorem qsX11_inverse_1 : ∀ i, dqNth qtX11_inverse_0 (16 + i) = dqNth qtX11_inverse_1 i := dq_step qsX11_inverse_0 rfl rfl
theorem qsX11_inverse_2 : ∀ i, dqNth qtX11_inverse_0 (32 + i) = dqNth qtX11_inverse_2 i := dq_step qsX11_inverse_1 rfl rfl
theorem qsX11_inverse_3 : ∀ i, dqNth qtX11_inverse_0 (48 + i) = dqNth qtX11_inverse_3 i := dq_step qsX11_inverse_2 rfl rfl
theorem qX11_inverse_0 (i b : Nat) (h : dqNth qaX11_inverse_0 i = some b) : DqBy cX11_inverse (0 + i) b := dqBy_of qeX11_inverse ((qsX11_inverse_0 i).trans (dq_in h))
theorem qX11_inverse_1 (i b : Nat) (h : dqNth qaX11_inverse_1 i = some b) : DqBy cX11_inverse (16 + i) b := dqBy_of qeX11_inverse ((qsX11_inverse_1 i).trans (dq_in h))
theorem qX11_inverse_2 (i b : Nat) (h : dqNth qaX11_inverse_2 i = some b) : DqBy cX11_inverse (32 + i) b := dqBy_of qeX11_inverse ((qsX11_inverse_2 i).trans (dq_in h))
theorem qX11_inverse_3 (i b : Nat) (h : dqNth qaX11_inverse_3 i = some b) : DqBy cX11_inverse (48 + i) b := dqBy_of qeX11_inverse ((qsX11_inverse_3 i).trans (dq_in h))
theorem dX11_inverse_0 : decode cX11_inverse 0 = .ok (.aload_n 0, 1) := @dq_o42 cX11_inverse 0 (qX11_inverse_0 0 42 rfl)
theorem dX11_inverse_1 : decode cX11_inverse 1 = .ok (.iload_n 2, 1) := @dq_o28 cX11_inverse 1 (qX11_inverse_0 1 28 rfl)
theorem dX11_inverse_2 : decode cX11_inverse 2 = .ok (.invokevirtual 190, 3) := @dq_o182 cX11_inverse 2 0 190 (qX11_inverse_0 2 182 rfl) (qX11_inverse_0 3 0 rfl) (qX11_inverse_0 4 190 rfl)
theorem dX11_inverse_5 : decode cX11_inverse 5 = .ok (.iconst 0, 1) := @dq_o3 cX11_inverse 5 (qX11_inverse_0 5 3 rfl)
theorem dX11_inverse_6 : decode cX11_inverse 6 = .ok (.istore_n 3, 1) := @dq_o62 cX11_inverse 6 (qX11_inverse_0 6 62 rfl)
theorem dX11_inverse_7 : decode cX11_inverse 7 = .ok (.iload_n 3, 1) := @dq_o29 cX11_inverse 7 (qX11_inverse_0 7 29 rfl)
theorem dX11_inverse_8 : decode cX11_inverse 8 = .ok (.aload_n 0, 1) := @dq_o42 cX11_inverse 8 (qX11_inverse_0 8 42 rfl)
theorem dX11_inverse_9 : decode cX11_inverse 9 = .ok (.invokevirtual 88, 3) := @dq_o182 cX11_inverse 9 0 88 (qX11_inverse_0 9 182 rfl) (qX11_inverse_0 10 0 rfl) (qX11_inverse_0 11 88 rfl)
theorem dX11_inverse_12 : decode cX11_inverse 12 = .ok (.if_icmp .ge 40, 3) := @dq_o162 cX11_inverse 12 0 40 (qX11_inverse_0 12 162 rfl) (qX11_inverse_0 13 0 rfl) (qX11_inverse_0 14 40 rfl)
theorem dX11_inverse_15 : decode cX11_inverse 15 = .ok (.aload_n 0, 1) := @dq_o42 cX11_inverse 15 (qX11_inverse_0 15 42 rfl)
theorem dX11_inverse_16 : decode cX11_inverse 16 = .ok (.iload_n 1, 1) := @dq_o27 cX11_inverse 16 (qX11_inverse_1 0 27 rfl)
theorem dX11_inverse_17 : decode cX11_inverse 17 = .ok (.iload_n 2, 1) := @dq_o28 cX11_inverse 17 (qX11_inverse_1 1 28 rfl)
theorem dX11_inverse_18 : decode cX11_inverse 18 = .ok (.iconst 1, 1) := @dq_o4 cX11_inverse 18 (qX11_inverse_1 2 4 rfl)
theorem dX11_inverse_19 : decode cX11_inverse 19 = .ok (.iadd, 1) := @dq_o96 cX11_inverse 19 (qX11_inverse_1 3 96 rfl)
theorem dX11_inverse_20 : decode cX11_inverse 20 = .ok (.invokevirtual 193, 3) := @dq_o182 cX11_inverse 20 0 193 (qX11_inverse_1 4 182 rfl) (qX11_inverse_1 5 0 rfl) (qX11_inverse_1 6 193 rfl)
theorem dX11_inverse_23 : decode cX11_inverse 23 = .ok (.aload_n 0, 1) := @dq_o42 cX11_inverse 23 (qX11_inverse_1 7 42 rfl)
theorem dX11_inverse_24 : decode cX11_inverse 24 = .ok (.iload_n 2, 1) := @dq_o28 cX11_inverse 24 (qX11_inverse_1 8 28 rfl)
theorem dX11_inverse_25 : decode cX11_inverse 25 = .ok (.iconst 1, 1) := @dq_o4 cX11_inverse 25 (qX11_inverse_1 9 4 rfl)
theorem dX11_inverse_26 : decode cX11_inverse 26 = .ok (.iadd, 1) := @dq_o96 cX11_inverse 26 (qX11_inverse_1 10 96 rfl)
theorem dX11_inverse_27 : decode cX11_inverse 27 = .ok (.iload_n 2, 1) := @dq_o28 cX11_inverse 27 (qX11_inverse_1 11 28 rfl)
theorem dX11_inverse_28 : decode cX11_inverse 28 = .ok (.invokevirtual 197, 3) := @dq_o182 cX11_inverse 28 0 197 (qX11_inverse_1 12 182 rfl) (qX11_inverse_1 13 0 rfl) (qX11_inverse_1 14 197 rfl)
theorem dX11_inverse_31 : decode cX11_inverse 31 = .ok (.aload_n 0, 1) := @dq_o42 cX11_inverse 31 (qX11_inverse_1 15 42 rfl)
theorem dX11_inverse_32 : decode cX11_inverse 32 = .ok (.iload_n 2, 1) := @dq_o28 cX11_inverse 32 (qX11_inverse_2 0 28 rfl)
theorem dX11_inverse_33 : decode cX11_inverse 33 = .ok (.iload_n 3, 1) := @dq_o29 cX11_inverse 33 (qX11_inverse_2 1 29 rfl)
theorem dX11_inverse_34 : decode cX11_inverse 34 = .ok (.aload_n 0, 1) := @dq_o42 cX11_inverse 34 (qX11_inverse_2 2 42 rfl)
theorem dX11_inverse_35 : decode cX11_inverse 35 = .ok (.iload_n 2, 1) := @dq_o28 cX11_inverse 35 (qX11_inverse_2 3 28 rfl)
theorem dX11_inverse_36 : decode cX11_inverse 36 = .ok (.iconst 1, 1) := @dq_o4 cX11_inverse 36 (qX11_inverse_2 4 4 rfl)
theorem dX11_inverse_37 : decode cX11_inverse 37 = .ok (.iadd, 1) := @dq_o96 cX11_inverse 37 (qX11_inverse_2 5 96 rfl)
theorem dX11_inverse_38 : decode cX11_inverse 38 = .ok (.iload_n 3, 1) := @dq_o29 cX11_inverse 38 (qX11_inverse_2 6 29 rfl)
theorem dX11_inverse_39 : decode cX11_inverse 39 = .ok (.invokevirtual 166, 3) := @dq_o182 cX11_inverse 39 0 166 (qX11_inverse_2 7 182 rfl) (qX11_inverse_2 8 0 rfl) (qX11_inverse_2 9 166 rfl)
theorem dX11_inverse_42 : decode cX11_inverse 42 = .ok (.lneg, 1) := @dq_o117 cX11_inverse 42 (qX11_inverse_2 10 117 rfl)
theorem dX11_inverse_43 : decode cX11_inverse 43 = .ok (.invokevirtual 162, 3) := @dq_o182 cX11_inverse 43 0 162 (qX11_inverse_2 11 182 rfl) (qX11_inverse_2 12 0 rfl) (qX11_inverse_2 13 162 rfl)
theorem dX11_inverse_46 : decode cX11_inverse 46 = .ok (.iinc 3 1, 3) := @dq_o132 cX11_inverse 46 3 1 (qX11_inverse_2 14 132 rfl) (qX11_inverse_2 15 3 rfl) (qX11_inverse_3 0 1 rfl)
theorem dX11_inverse_49 : decode cX11_inverse 49 = .ok (.goto (-42), 3) := @dq_o167 cX11_inverse 49 255 214 (qX11_inverse_3 1 167 rfl) (qX11_inverse_3 2 255 rfl) (qX11_inverse_3 3 214 rfl)
theorem dX11_inverse_52 : decode cX11_inverse 52 = .ok (.return_, 1) := @dq_o177 cX11_inverse 52 (qX11_inverse_3 4 177 rfl)
abbrev qaX11_raises_0 : List Nat := [29, 156, 0, 14, 42, 27, 28, 5, 96, 182, 0, 200, 167, 0, 11, 42]
abbrev qaX11_raises_1 : List Nat := [27, 28, 5, 96, 182, 0, 193, 42, 28, 182, 0, 190, 29, 156, 0, 8]
abbrev qaX11_raises_2 : List Nat := [29, 116, 167, 0, 4, 29, 54, 4, 21, 4, 158, 0, 17, 42, 28, 28]
abbrev qaX11_raises_3 : List Nat := [5, 96, 182, 0, 197, 132, 4, 255, 167, 255, 240, 177]
def qtX11_raises_4 : List Nat := []
def qtX11_raises_3 : List Nat := qaX11_raises_3 ++ qtX11_raises_4
def qtX11_raises_2 : List Nat := qaX11_raises_2 ++ qtX11_raises_3
def qtX11_raises_1 : List Nat := qaX11_raises_1 ++ qtX11_raises_2
def qtX11_raises_0 : List Nat := qaX11_raises_0 ++ qtX11_raises_1
theorem qeX11_raises : cX11_raises.data.toList.map UInt8.toNat = qtX11_raises_0 := by decide +kernel
theorem qsX11_raises_0 : ∀ i, dqNth qtX11_raises_0 (0 + i) = dqNth qtX11_raises_0 i := fun i => by rw [Nat.zero_add]
theorem qsX11_raises_1 : ∀ i, dqNth qtX11_raises_0 (16 + i) = dqNth qtX11_raises_1 i := dq_step qsX11_raises_0 rfl rfl
theorem qsX11_raises_2 : ∀ i, dqNth qtX11_raises_0 (32 + i) = dqNth qtX11_raises_2 i := dq_step qsX11_raises_1 rfl rfl
theorem qsX11_raises_3 : ∀ i, dqNth qtX11_raises_0 (48 + i) = dqNth qtX11_raises_3 i := dq_step qsX11_raises_2 rfl rfl
theorem qX11_raises_0 (i b : Nat) (h : dqNth qaX11_raises_0 i = some b) : DqBy cX11_raises (0 + i) b := dqBy_of qeX11_raises ((qsX11_raises_0 i).trans (dq_in h))
theorem qX11_raises_1 (i b : Nat) (h : dqNth qaX11_raises_1 i = some b) : DqBy cX11_raises (16 + i) b := dqBy_of qeX11_raises ((qsX11_raises_1 i).trans (dq_in h))
theorem qX11_raises_2 (i b : Nat) (h : dqNth qaX11_raises_2 i = some b) : DqBy cX11_raises (32 + i) b := dqBy_of qeX11_raises ((qsX11_raises_2 i).trans (dq_in h))
theorem qX11_raises_3 (i b : Nat) (h : dqNth qaX11_raises_3 i = some b) : DqBy cX11_raises (48 + i) b := dqBy_of qeX11_raises ((qsX11_raises_3 i).trans (dq_in h))
theorem dX11_raises_0 : decode cX11_raises 0 = .ok (.iload_n 3, 1) := @dq_o29 cX11_raises 0 (qX11_raises_0 0 29 rfl)
theorem dX11_raises_1 : decode cX11_raises 1 = .ok (.ifCond .ge 14, 3) := @dq_o156 cX11_raises 1 0 14 (qX11_raises_0 1 156 rfl) (qX11_raises_0 2 0 rfl) (qX11_raises_0 3 14 rfl)
theorem dX11_raises_4 : decode cX11_raises 4 = .ok (.aload_n 0, 1) := @dq_o42 cX11_raises 4 (qX11_raises_0 4 42 rfl)
theorem dX11_raises_5 : decode cX11_raises 5 = .ok (.iload_n 1, 1) := @dq_o27 cX11_raises 5 (qX11_raises_0 5 27 rfl)
theorem dX11_raises_6 : decode cX11_raises 6 = .ok (.iload_n 2, 1) := @dq_o28 cX11_raises 6 (qX11_raises_0 6 28 rfl)
theorem dX11_raises_7 : decode cX11_raises 7 = .ok (.iconst 2, 1) := @dq_o5 cX11_raises 7 (qX11_raises_0 7 5 rfl)
theorem dX11_raises_8 : decode cX11_raises 8 = .ok (.iadd, 1) := @dq_o96 cX11_raises 8 (qX11_raises_0 8 96 rfl)
theorem dX11_raises_9 : decode cX11_raises 9 = .ok (.invokevirtual 200, 3) := @dq_o182 cX11_raises 9 0 200 (qX11_raises_0 9 182 rfl) (qX11_raises_0 10 0 rfl) (qX11_raises_0 11 200 rfl)
theorem dX11_raises_12 : decode cX11_raises 12 = .ok (.goto 11, 3) := @dq_o167 cX11_raises 12 0 11 (qX11_raises_0 12 167 rfl) (qX11_raises_0 13 0 rfl) (qX11_raises_0 14 11 rfl)
theorem dX11_raises_15 : decode cX11_raises 15 = .ok (.aload_n 0, 1) := @dq_o42 cX11_raises 15 (qX11_raises_0 15 42 rfl)
theorem dX11_raises_16 : decode cX11_raises 16 = .ok (.iload_n 1, 1) := @dq_o27 cX11_raises 16 (qX11_raises_1 0 27 rfl)
theorem dX11_raises_17 : decode cX11_raises 17 = .ok (.iload_n 2, 1) := @dq_o28 cX11_raises 17 (qX11_raises_1 1 28 rfl)
theorem dX11_raises_18 : decode cX11_raises 18 = .ok (.iconst 2, 1) := @dq_o5 cX11_raises 18 (qX11_raises_1 2 5 rfl)
theorem dX11_raises_19 : decode cX11_raises 19 = .ok (.iadd, 1) := @dq_o96 cX11_raises 19 (qX11_raises_1 3 96 rfl)
theorem dX11_raises_20 : decode cX11_raises 20 = .ok (.invokevirtual 193, 3) := @dq_o182 cX11_raises 20 0 193 (qX11_raises_1 4 182 rfl) (qX11_raises_1 5 0 rfl) (qX11_raises_1 6 193 rfl)
theorem dX11_raises_23 : decode cX11_raises 23 = .ok (.aload_n 0, 1) := @dq_o42 cX11_raises 23 (qX11_raises_1 7 42 rfl)
theorem dX11_raises_24 : decode cX11_raises 24 = .ok (.iload_n 2, 1) := @dq_o28 cX11_raises 24 (qX11_raises_1 8 28 rfl)
theorem dX11_raises_25 : decode cX11_raises 25 = .ok (.invokevirtual 190, 3) := @dq_o182 cX11_raises 25 0 190 (qX11_raises_1 9 182 rfl) (qX11_raises_1 10 0 rfl) (qX11_raises_1 11 190 rfl)
theorem dX11_raises_28 : decode cX11_raises 28 = .ok (.iload_n 3, 1) := @dq_o29 cX11_raises 28 (qX11_raises_1 12 29 rfl)
theorem dX11_raises_29 : decode cX11_raises 29 = .ok (.ifCond .ge 8, 3) := @dq_o156 cX11_raises 29 0 8 (qX11_raises_1 13 156 rfl) (qX11_raises_1 14 0 rfl) (qX11_raises_1 15 8 rfl)
theorem dX11_raises_32 : decode cX11_raises 32 = .ok (.iload_n 3, 1) := @dq_o29 cX11_raises 32 (qX11_raises_2 0 29 rfl)
theorem dX11_raises_33 : decode cX11_raises 33 = .ok (.ineg, 1) := @dq_o116 cX11_raises 33 (qX11_raises_2 1 116 rfl)
theorem dX11_raises_34 : decode cX11_raises 34 = .ok (.goto 4, 3) := @dq_o167 cX11_raises 34 0 4 (qX11_raises_2 2 167 rfl) (qX11_raises_2 3 0 rfl) (qX11_raises_2 4 4 rfl)
theorem dX11_raises_37 : decode cX11_raises 37 = .ok (.iload_n 3, 1) := @dq_o29 cX11_raises 37 (qX11_raises_2 5 29 rfl)
theorem dX11_raises_38 : decode cX11_raises 38 = .ok (.istore 4, 2) := @dq_o54 cX11_raises 38 4 (qX11_raises_2 6 54 rfl) (qX11_raises_2 7 4 rfl)
theorem dX11_raises_40 : decode cX11_raises 40 = .ok (.iload 4, 2) := @dq_o21 cX11_raises 40 4 (qX11_raises_2 8 21 rfl) (qX11_raises_2 9 4 rfl)
theorem dX11_raises_42 : decode cX11_raises 42 = .ok (.ifCond .le 17, 3) := @dq_o158 cX11_raises 42 0 17 (qX11_raises_2 10 158 rfl) (qX11_raises_2 11 0 rfl) (qX11_raises_2 12 17 rfl)
theorem dX11_raises_45 : decode cX11_raises 45 = .ok (.aload_n 0, 1) := @dq_o42 cX11_raises 45 (qX11_raises_2 13 42 rfl)
theorem dX11_raises_46 : decode cX11_raises 46 = .ok (.iload_n 2, 1) := @dq_o28 cX11_raises 46 (qX11_raises_2 14 28 rfl)
theorem dX11_raises_47 : decode cX11_raises 47 = .ok (.iload_n 2, 1) := @dq_o28 cX11_raises 47 (qX11_raises_2 15 28 rfl)
theorem dX11_raises_48 : decode cX11_raises 48 = .ok (.iconst 2, 1) := @dq_o5 cX11_raises 48 (qX11_raises_3 0 5 rfl)
theorem dX11_raises_49 : decode cX11_raises 49 = .ok (.iadd, 1) := @dq_o96 cX11_raises 49 (qX11_raises_3 1 96 rfl)
theorem dX11_raises_50 : decode cX11_raises 50 = .ok (.invokevirtual 197, 3) := @dq_o182 cX11_raises 50 0 197 (qX11_raises_3 2 182 rfl) (qX11_raises_3 3 0 rfl) (qX11_raises_3 4 197 rfl)
theorem dX11_raises_53 : decode cX11_raises 53 = .ok (.iinc 4 (-1), 3) := @dq_o132 cX11_raises 53 4 255 (qX11_raises_3 5 132 rfl) (qX11_raises_3 6 4 rfl) (qX11_raises_3 7 255 rfl)
theorem dX11_raises_56 : decode cX11_raises 56 = .ok (.goto (-16), 3) := @dq_o167 cX11_raises 56 255 240 (qX11_raises_3 8 167 rfl) (qX11_raises_3 9 255 rfl) (qX11_raises_3 10 240 rfl)
theorem dX11_raises_59 : decode cX11_raises 59 = .ok (.return_, 1) := @dq_o177 cX11_raises 59 (qX11_raises_3 11 177 rfl)
abbrev qaX11_commutator_0 : List Nat := [42, 27, 29, 182, 0, 200, 42, 28, 29, 4, 96, 182, 0, 200, 42, 29]
abbrev qaX11_commutator_1 : List Nat := [29, 4, 96, 182, 0, 197, 42, 29, 27, 182, 0, 197, 42, 29, 28, 182]
abbrev qaX11_commutator_2 : List Nat := [0, 197, 177]
def qtX11_commutator_3 : List Nat := []
def qtX11_commutator_2 : List Nat := qaX11_commutator_2 ++ qtX11_commutator_3
def qtX11_commutator_1 : List Nat := qaX11_commutator_1 ++ qtX11_commutator_2
def qtX11_commutator_0 : List Nat := qaX11_commutator_0 ++ qtX11_commutator_1
theorem qeX11_commutator : cX11_commutator.data.toList.map UInt8.toNat = qtX11_commutator_0 := by decide +kernel
theorem qsX11_commutator_0 : ∀ i, dqNth qtX11_commutator_0 (0 + i) = dqNth qtX11_commutator_0 i := fun i => by rw [Nat.zero_add]
theorem qsX11_commutator_1 : ∀ i, dqNth qtX11_commutator_0 (16 + i) = dqNth qtX11_commutator_1 i := dq_step qsX11_commutator_0 rfl rfl
theorem qsX11_commutator_2 : ∀ i, dqNth qtX11_commutator_0 (32 + i) = dqNth qtX11_commutator_2 i := dq_step qsX11_commutator_1 rfl rfl
theorem qX11_commutator_0 (i b : Nat) (h : dqNth qaX11_commutator_0 i = some b) : DqBy cX11_commutator (0 + i) b := dqBy_of qeX11_commutator ((qsX11_commutator_0 i).trans (dq_in h))
theorem qX11_commutator_1 (i b : Nat) (h : dqNth qaX11_commutator_1 i = some b) : DqBy cX11_commutator (16 + i) b := dqBy_of qeX11_commutator ((qsX11_commutator_1 i).trans (dq_in h))
theorem qX11_commutator_2 (i b : Nat) (h : dqNth qaX11_commutator_2 i = some b) : DqBy cX11_commutator (32 + i) b := dqBy_of qeX11_commutator ((qsX11_commutator_2 i).trans (dq_in h))
theorem dX11_commutator_0 : decode cX11_commutator 0 = .ok (.aload_n 0, 1) := @dq_o42 cX11_commutator 0 (qX11_commutator_0 0 42 rfl)
theorem dX11_commutator_1 : decode cX11_commutator 1 = .ok (.iload_n 1, 1) := @dq_o27 cX11_commutator 1 (qX11_commutator_0 1 27 rfl)
theorem dX11_commutator_2 : decode cX11_commutator 2 = .ok (.iload_n 3, 1) := @dq_o29 cX11_commutator 2 (qX11_commutator_0 2 29 rfl)
theorem dX11_commutator_3 : decode cX11_commutator 3 = .ok (.invokevirtual 200, 3) := @dq_o182 cX11_commutator 3 0 200 (qX11_commutator_0 3 182 rfl) (qX11_commutator_0 4 0 rfl) (qX11_commutator_0 5 200 rfl)
theorem dX11_commutator_6 : decode cX11_commutator 6 = .ok (.aload_n 0, 1) := @dq_o42 cX11_commutator 6 (qX11_commutator_0 6 42 rfl)
theorem dX11_commutator_7 : decode cX11_commutator 7 = .ok (.iload_n 2, 1) := @dq_o28 cX11_commutator 7 (qX11_commutator_0 7 28 rfl)
theorem dX11_commutator_8 : decode cX11_commutator 8 = .ok (.iload_n 3, 1) := @dq_o29 cX11_commutator 8 (qX11_commutator_0 8 29 rfl)
theorem dX11_commutator_9 : decode cX11_commutator 9 = .ok (.iconst 1, 1) := @dq_o4 cX11_commutator 9 (qX11_commutator_0 9 4 rfl)
theorem dX11_commutator_10 : decode cX11_commutator 10 = .ok (.iadd, 1) := @dq_o96 cX11_commutator 10 (qX11_commutator_0 10 96 rfl)
theorem dX11_commutator_11 : decode cX11_commutator 11 = .ok (.invokevirtual 200, 3) := @dq_o182 cX11_commutator 11 0 200 (qX11_commutator_0 11 182 rfl) (qX11_commutator_0 12 0 rfl) (qX11_commutator_0 13 200 rfl)
theorem dX11_commutator_14 : decode cX11_commutator 14 = .ok (.aload_n 0, 1) := @dq_o42 cX11_commutator 14 (qX11_commutator_0 14 42 rfl)
theorem dX11_commutator_15 : decode cX11_commutator 15 = .ok (.iload_n 3, 1) := @dq_o29 cX11_commutator 15 (qX11_commutator_0 15 29 rfl)
theorem dX11_commutator_16 : decode cX11_commutator 16 = .ok (.iload_n 3, 1) := @dq_o29 cX11_commutator 16 (qX11_commutator_1 0 29 rfl)
theorem dX11_commutator_17 : decode cX11_commutator 17 = .ok (.iconst 1, 1) := @dq_o4 cX11_commutator 17 (qX11_commutator_1 1 4 rfl)
theorem dX11_commutator_18 : decode cX11_commutator 18 = .ok (.iadd, 1) := @dq_o96 cX11_commutator 18 (qX11_commutator_1 2 96 rfl)
theorem dX11_commutator_19 : decode cX11_commutator 19 = .ok (.invokevirtual 197, 3) := @dq_o182 cX11_commutator 19 0 197 (qX11_commutator_1 3 182 rfl) (qX11_commutator_1 4 0 rfl) (qX11_commutator_1 5 197 rfl)
theorem dX11_commutator_22 : decode cX11_commutator 22 = .ok (.aload_n 0, 1) := @dq_o42 cX11_commutator 22 (qX11_commutator_1 6 42 rfl)
theorem dX11_commutator_23 : decode cX11_commutator 23 = .ok (.iload_n 3, 1) := @dq_o29 cX11_commutator 23 (qX11_commutator_1 7 29 rfl)
theorem dX11_commutator_24 : decode cX11_commutator 24 = .ok (.iload_n 1, 1) := @dq_o27 cX11_commutator 24 (qX11_commutator_1 8 27 rfl)
theorem dX11_commutator_25 : decode cX11_commutator 25 = .ok (.invokevirtual 197, 3) := @dq_o182 cX11_commutator 25 0 197 (qX11_commutator_1 9 182 rfl) (qX11_commutator_1 10 0 rfl) (qX11_commutator_1 11 197 rfl)
theorem dX11_commutator_28 : decode cX11_commutator 28 = .ok (.aload_n 0, 1) := @dq_o42 cX11_commutator 28 (qX11_commutator_1 12 42 rfl)
theorem dX11_commutator_29 : decode cX11_commutator 29 = .ok (.iload_n 3, 1) := @dq_o29 cX11_commutator 29 (qX11_commutator_1 13 29 rfl)
theorem dX11_commutator_30 : decode cX11_commutator 30 = .ok (.iload_n 2, 1) := @dq_o28 cX11_commutator 30 (qX11_commutator_1 14 28 rfl)
theorem dX11_commutator_31 : decode cX11_commutator 31 = .ok (.invokevirtual 197, 3) := @dq_o182 cX11_commutator 31 0 197 (qX11_commutator_1 15 182 rfl) (qX11_commutator_2 0 0 rfl) (qX11_commutator_2 1 197 rfl)
theorem dX11_commutator_34 : decode cX11_commutator 34 = .ok (.return_, 1) := @dq_o177 cX11_commutator 34 (qX11_commutator_2 2 177 rfl)
abbrev qaX11_conjugates_0 : List Nat := [42, 28, 29, 182, 0, 200, 42, 29, 27, 182, 0, 197, 42, 29, 28, 182]
abbrev qaX11_conjugates_1 : List Nat := [0, 197, 177]
def qtX11_conjugates_2 : List Nat := []
def qtX11_conjugates_1 : List Nat := qaX11_conjugates_1 ++ qtX11_conjugates_2
def qtX11_conjugates_0 : List Nat := qaX11_conjugates_0 ++ qtX11_conjugates_1
theorem qeX11_conjugates : cX11_conjugates.data.toList.map UInt8.toNat = qtX11_conjugates_0 := by decide +kernel
theorem qsX11_conjugates_0 : ∀ i, dqNth qtX11_conjugates_0 (0 + i) = dqNth qtX11_conjugates_0 i := fun i => by rw [Nat.zero_add]
theorem qsX11_conjugates_1 : ∀ i, dqNth qtX11_conjugates_0 (16 + i) = dqNth qtX11_conjugates_1 i := dq_step qsX11_conjugates_0 rfl rfl
theorem qX11_conjugates_0 (i b : Nat) (h : dqNth qaX11_conjugates_0 i = some b) : DqBy cX11_conjugates (0 + i) b := dqBy_of qeX11_conjugates ((qsX11_conjugates_0 i).trans (dq_in h))
theorem qX11_conjugates_1 (i b : Nat) (h : dqNth qaX11_conjugates_1 i = some b) : DqBy cX11_conjugates (16 + i) b := dqBy_of qeX11_conjugates ((qsX11_conjugates_1 i).trans (dq_in h))
theorem dX11_conjugates_0 : decode cX11_conjugates 0 = .ok (.aload_n 0, 1) := @dq_o42 cX11_conjugates 0 (qX11_conjugates_0 0 42 rfl)
theorem dX11_conjugates_1 : decode cX11_conjugates 1 = .ok (.iload_n 2, 1) := @dq_o28 cX11_conjugates 1 (qX11_conjugates_0 1 28 rfl)
theorem dX11_conjugates_2 : decode cX11_conjugates 2 = .ok (.iload_n 3, 1) := @dq_o29 cX11_conjugates 2 (qX11_conjugates_0 2 29 rfl)
theorem dX11_conjugates_3 : decode cX11_conjugates 3 = .ok (.invokevirtual 200, 3) := @dq_o182 cX11_conjugates 3 0 200 (qX11_conjugates_0 3 182 rfl) (qX11_conjugates_0 4 0 rfl) (qX11_conjugates_0 5 200 rfl)
theorem dX11_conjugates_6 : decode cX11_conjugates 6 = .ok (.aload_n 0, 1) := @dq_o42 cX11_conjugates 6 (qX11_conjugates_0 6 42 rfl)
theorem dX11_conjugates_7 : decode cX11_conjugates 7 = .ok (.iload_n 3, 1) := @dq_o29 cX11_conjugates 7 (qX11_conjugates_0 7 29 rfl)
theorem dX11_conjugates_8 : decode cX11_conjugates 8 = .ok (.iload_n 1, 1) := @dq_o27 cX11_conjugates 8 (qX11_conjugates_0 8 27 rfl)
theorem dX11_conjugates_9 : decode cX11_conjugates 9 = .ok (.invokevirtual 197, 3) := @dq_o182 cX11_conjugates 9 0 197 (qX11_conjugates_0 9 182 rfl) (qX11_conjugates_0 10 0 rfl) (qX11_conjugates_0 11 197 rfl)
theorem dX11_conjugates_12 : decode cX11_conjugates 12 = .ok (.aload_n 0, 1) := @dq_o42 cX11_conjugates 12 (qX11_conjugates_0 12 42 rfl)
theorem dX11_conjugates_13 : decode cX11_conjugates 13 = .ok (.iload_n 3, 1) := @dq_o29 cX11_conjugates 13 (qX11_conjugates_0 13 29 rfl)
theorem dX11_conjugates_14 : decode cX11_conjugates 14 = .ok (.iload_n 2, 1) := @dq_o28 cX11_conjugates 14 (qX11_conjugates_0 14 28 rfl)
theorem dX11_conjugates_15 : decode cX11_conjugates 15 = .ok (.invokevirtual 197, 3) := @dq_o182 cX11_conjugates 15 0 197 (qX11_conjugates_0 15 182 rfl) (qX11_conjugates_1 0 0 rfl) (qX11_conjugates_1 1 197 rfl)
theorem dX11_conjugates_18 : decode cX11_conjugates 18 = .ok (.return_, 1) := @dq_o177 cX11_conjugates 18 (qX11_conjugates_1 2 177 rfl)
abbrev qaX11_isElement_0 : List Nat := [3, 61, 28, 42, 182, 0, 88, 162, 0, 30, 42, 42, 27, 28, 182, 0]
abbrev qaX11_isElement_1 : List Nat := [166, 20, 0, 203, 20, 0, 205, 182, 0, 101, 154, 0, 5, 3, 172, 132]
abbrev qaX11_isElement_2 : List Nat := [2, 1, 167, 255, 224, 4, 172]
def qtX11_isElement_3 : List Nat := []
def qtX11_isElement_2 : List Nat := qaX11_isElement_2 ++ qtX11_isElement_3
def qtX11_isElement_1 : List Nat := qaX11_isElement_1 ++ qtX11_isElement_2
def qtX11_isElement_0 : List Nat := qaX11_isElement_0 ++ qtX11_isElement_1
theorem qeX11_isElement : cX11_isElement.data.toList.map UInt8.toNat = qtX11_isElement_0 := by decide +kernel
theorem qsX11_isElement_0 : ∀ i, dqNth qtX11_isElement_0 (0 + i) = dqNth qtX11_isElement_0 i := fun i => by rw [Nat.zero_add]
theorem qsX11_isElement_1 : ∀ i, dqNth qtX11_isElement_0 (16 + i) = dqNth qtX11_isElement_1 i := dq_step qsX11_isElement_0 rfl rfl
theorem qsX11_isElement_2 : ∀ i, dqNth qtX11_isElement_0 (32 + i) = dqNth qtX11_isElement_2 i := dq_step qsX11_isElement_1 rfl rfl
theorem qX11_isElement_0 (i b : Nat) (h : dqNth qaX11_isElement_0 i = some b) : DqBy cX11_isElement (0 + i) b := dqBy_of qeX11_isElement ((qsX11_isElement_0 i).trans (dq_in h))
theorem qX11_isElement_1 (i b : Nat) (h : dqNth qaX11_isElement_1 i = some b) : DqBy cX11_isElement (16 + i) b := dqBy_of qeX11_isElement ((qsX11_isElement_1 i).trans (dq_in h))
theorem qX11_isElement_2 (i b : Nat) (h : dqNth qaX11_isElement_2 i = some b) : DqBy cX11_isElement (32 + i) b := dqBy_of qeX11_isElement ((qsX11_isElement_2 i).trans (dq_in h))
theorem dX11_isElement_0 : decode cX11_isElement 0 = .ok (.iconst 0, 1) := @dq_o3 cX11_isElement 0 (qX11_isElement_0 0 3 rfl)
theorem dX11_isElement_1 : decode cX11_isElement 1 = .ok (.istore_n 2, 1) := @dq_o61 cX11_isElement 1 (qX11_isElement_0 1 61 rfl)
theorem dX11_isElement_2 : decode cX11_isElement 2 = .ok (.iload_n 2, 1) := @dq_o28 cX11_isElement 2 (qX11_isElement_0 2 28 rfl)
theorem dX11_isElement_3 : decode cX11_isElement 3 = .ok (.aload_n 0, 1) := @dq_o42 cX11_isElement 3 (qX11_isElement_0 3 42 rfl)
theorem dX11_isElement_4 : decode cX11_isElement 4 = .ok (.invokevirtual 88, 3) := @dq_o182 cX11_isElement 4 0 88 (qX11_isElement_0 4 182 rfl) (qX11_isElement_0 5 0 rfl) (qX11_isElement_0 6 88 rfl)
theorem dX11_isElement_7 : decode cX11_isElement 7 = .ok (.if_icmp .ge 30, 3) := @dq_o162 cX11_isElement 7 0 30 (qX11_isElement_0 7 162 rfl) (qX11_isElement_0 8 0 rfl) (qX11_isElement_0 9 30 rfl)
theorem dX11_isElement_10 : decode cX11_isElement 10 = .ok (.aload_n 0, 1) := @dq_o42 cX11_isElement 10 (qX11_isElement_0 10 42 rfl)
theorem dX11_isElement_11 : decode cX11_isElement 11 = .ok (.aload_n 0, 1) := @dq_o42 cX11_isElement 11 (qX11_isElement_0 11 42 rfl)
theorem dX11_isElement_12 : decode cX11_isElement 12 = .ok (.iload_n 1, 1) := @dq_o27 cX11_isElement 12 (qX11_isElement_0 12 27 rfl)
theorem dX11_isElement_13 : decode cX11_isElement 13 = .ok (.iload_n 2, 1) := @dq_o28 cX11_isElement 13 (qX11_isElement_0 13 28 rfl)
theorem dX11_isElement_14 : decode cX11_isElement 14 = .ok (.invokevirtual 166, 3) := @dq_o182 cX11_isElement 14 0 166 (qX11_isElement_0 14 182 rfl) (qX11_isElement_0 15 0 rfl) (qX11_isElement_1 0 166 rfl)
theorem dX11_isElement_17 : decode cX11_isElement 17 = .ok (.ldc2_w 203, 3) := @dq_o20 cX11_isElement 17 0 203 (qX11_isElement_1 1 20 rfl) (qX11_isElement_1 2 0 rfl) (qX11_isElement_1 3 203 rfl)
theorem dX11_isElement_20 : decode cX11_isElement 20 = .ok (.ldc2_w 205, 3) := @dq_o20 cX11_isElement 20 0 205 (qX11_isElement_1 4 20 rfl) (qX11_isElement_1 5 0 rfl) (qX11_isElement_1 6 205 rfl)
theorem dX11_isElement_23 : decode cX11_isElement 23 = .ok (.invokevirtual 101, 3) := @dq_o182 cX11_isElement 23 0 101 (qX11_isElement_1 7 182 rfl) (qX11_isElement_1 8 0 rfl) (qX11_isElement_1 9 101 rfl)
theorem dX11_isElement_26 : decode cX11_isElement 26 = .ok (.ifCond .ne 5, 3) := @dq_o154 cX11_isElement 26 0 5 (qX11_isElement_1 10 154 rfl) (qX11_isElement_1 11 0 rfl) (qX11_isElement_1 12 5 rfl)
theorem dX11_isElement_29 : decode cX11_isElement 29 = .ok (.iconst 0, 1) := @dq_o3 cX11_isElement 29 (qX11_isElement_1 13 3 rfl)
theorem dX11_isElement_30 : decode cX11_isElement 30 = .ok (.ireturn, 1) := @dq_o172 cX11_isElement 30 (qX11_isElement_1 14 172 rfl)
theorem dX11_isElement_31 : decode cX11_isElement 31 = .ok (.iinc 2 1, 3) := @dq_o132 cX11_isElement 31 2 1 (qX11_isElement_1 15 132 rfl) (qX11_isElement_2 0 2 rfl) (qX11_isElement_2 1 1 rfl)
theorem dX11_isElement_34 : decode cX11_isElement 34 = .ok (.goto (-32), 3) := @dq_o167 cX11_isElement 34 255 224 (qX11_isElement_2 2 167 rfl) (qX11_isElement_2 3 255 rfl) (qX11_isElement_2 4 224 rfl)
theorem dX11_isElement_37 : decode cX11_isElement 37 = .ok (.iconst 1, 1) := @dq_o4 cX11_isElement 37 (qX11_isElement_2 5 4 rfl)
theorem dX11_isElement_38 : decode cX11_isElement 38 = .ok (.ireturn, 1) := @dq_o172 cX11_isElement 38 (qX11_isElement_2 6 172 rfl)
abbrev qaX11_isOne_0 : List Nat := [3, 61, 28, 42, 182, 0, 88, 162, 0, 22, 42, 27, 28, 182, 0, 166]
abbrev qaX11_isOne_1 : List Nat := [9, 148, 153, 0, 5, 3, 172, 132, 2, 1, 167, 255, 232, 4, 172]
def qtX11_isOne_2 : List Nat := []
def qtX11_isOne_1 : List Nat := qaX11_isOne_1 ++ qtX11_isOne_2
def qtX11_isOne_0 : List Nat := qaX11_isOne_0 ++ qtX11_isOne_1
theorem qeX11_isOne : cX11_isOne.data.toList.map UInt8.toNat = qtX11_isOne_0 := by decide +kernel
theorem qsX11_isOne_0 : ∀ i, dqNth qtX11_isOne_0 (0 + i) = dqNth qtX11_isOne_0 i := fun i => by rw [Nat.zero_add]
theorem qsX11_isOne_1 : ∀ i, dqNth qtX11_isOne_0 (16 + i) = dqNth qtX11_isOne_1 i := dq_step qsX11_isOne_0 rfl rfl
theorem qX11_isOne_0 (i b : Nat) (h : dqNth qaX11_isOne_0 i = some b) : DqBy cX11_isOne (0 + i) b := dqBy_of qeX11_isOne ((qsX11_isOne_0 i).trans (dq_in h))
theorem qX11_isOne_1 (i b : Nat) (h : dqNth qaX11_isOne_1 i = some b) : DqBy cX11_isOne (16 + i) b := dqBy_of qeX11_isOne ((qsX11_isOne_1 i).trans (dq_in h))
theorem dX11_isOne_0 : decode cX11_isOne 0 = .ok (.iconst 0, 1) := @dq_o3 cX11_isOne 0 (qX11_isOne_0 0 3 rfl)
theorem dX11_isOne_1 : decode cX11_isOne 1 = .ok (.istore_n 2, 1) := @dq_o61 cX11_isOne 1 (qX11_isOne_0 1 61 rfl)
theorem dX11_isOne_2 : decode cX11_isOne 2 = .ok (.iload_n 2, 1) := @dq_o28 cX11_isOne 2 (qX11_isOne_0 2 28 rfl)
theorem dX11_isOne_3 : decode cX11_isOne 3 = .ok (.aload_n 0, 1) := @dq_o42 cX11_isOne 3 (qX11_isOne_0 3 42 rfl)
theorem dX11_isOne_4 : decode cX11_isOne 4 = .ok (.invokevirtual 88, 3) := @dq_o182 cX11_isOne 4 0 88 (qX11_isOne_0 4 182 rfl) (qX11_isOne_0 5 0 rfl) (qX11_isOne_0 6 88 rfl)
theorem dX11_isOne_7 : decode cX11_isOne 7 = .ok (.if_icmp .ge 22, 3) := @dq_o162 cX11_isOne 7 0 22 (qX11_isOne_0 7 162 rfl) (qX11_isOne_0 8 0 rfl) (qX11_isOne_0 9 22 rfl)
theorem dX11_isOne_10 : decode cX11_isOne 10 = .ok (.aload_n 0, 1) := @dq_o42 cX11_isOne 10 (qX11_isOne_0 10 42 rfl)
theorem dX11_isOne_11 : decode cX11_isOne 11 = .ok (.iload_n 1, 1) := @dq_o27 cX11_isOne 11 (qX11_isOne_0 11 27 rfl)
theorem dX11_isOne_12 : decode cX11_isOne 12 = .ok (.iload_n 2, 1) := @dq_o28 cX11_isOne 12 (qX11_isOne_0 12 28 rfl)
theorem dX11_isOne_13 : decode cX11_isOne 13 = .ok (.invokevirtual 166, 3) := @dq_o182 cX11_isOne 13 0 166 (qX11_isOne_0 13 182 rfl) (qX11_isOne_0 14 0 rfl) (qX11_isOne_0 15 166 rfl)
theorem dX11_isOne_16 : decode cX11_isOne 16 = .ok (.lconst 0, 1) := @dq_o9 cX11_isOne 16 (qX11_isOne_1 0 9 rfl)
theorem dX11_isOne_17 : decode cX11_isOne 17 = .ok (.lcmp, 1) := @dq_o148 cX11_isOne 17 (qX11_isOne_1 1 148 rfl)
theorem dX11_isOne_18 : decode cX11_isOne 18 = .ok (.ifCond .eq 5, 3) := @dq_o153 cX11_isOne 18 0 5 (qX11_isOne_1 2 153 rfl) (qX11_isOne_1 3 0 rfl) (qX11_isOne_1 4 5 rfl)
theorem dX11_isOne_21 : decode cX11_isOne 21 = .ok (.iconst 0, 1) := @dq_o3 cX11_isOne 21 (qX11_isOne_1 5 3 rfl)
theorem dX11_isOne_22 : decode cX11_isOne 22 = .ok (.ireturn, 1) := @dq_o172 cX11_isOne 22 (qX11_isOne_1 6 172 rfl)
theorem dX11_isOne_23 : decode cX11_isOne 23 = .ok (.iinc 2 1, 3) := @dq_o132 cX11_isOne 23 2 1 (qX11_isOne_1 7 132 rfl) (qX11_isOne_1 8 2 rfl) (qX11_isOne_1 9 1 rfl)
theorem dX11_isOne_26 : decode cX11_isOne 26 = .ok (.goto (-24), 3) := @dq_o167 cX11_isOne 26 255 232 (qX11_isOne_1 10 167 rfl) (qX11_isOne_1 11 255 rfl) (qX11_isOne_1 12 232 rfl)
theorem dX11_isOne_29 : decode cX11_isOne 29 = .ok (.iconst 1, 1) := @dq_o4 cX11_isOne 29 (qX11_isOne_1 13 4 rfl)
theorem dX11_isOne_30 : decode cX11_isOne 30 = .ok (.ireturn, 1) := @dq_o172 cX11_isOne 30 (qX11_isOne_1 14 172 rfl)
abbrev qaX11_areSame_0 : List Nat := [3, 62, 29, 42, 182, 0, 88, 162, 0, 27, 42, 27, 29, 182, 0, 166]
abbrev qaX11_areSame_1 : List Nat := [42, 28, 29, 182, 0, 166, 148, 153, 0, 5, 3, 172, 132, 3, 1, 167]
abbrev qaX11_areSame_2 : List Nat := [255, 227, 4, 172]
def qtX11_areSame_3 : List Nat := []
def qtX11_areSame_2 : List Nat := qaX11_areSame_2 ++ qtX11_areSame_3
def qtX11_areSame_1 : List Nat := qaX11_areSame_1 ++ qtX11_areSame_2
def qtX11_areSame_0 : List Nat := qaX11_areSame_0 ++ qtX11_areSame_1
theorem qeX11_areSame : cX11_areSame.data.toList.map UInt8.toNat = qtX11_areSame_0 := by decide +kernel
theorem qsX11_areSame_0 : ∀ i, dqNth qtX11_areSame_0 (0 + i) = dqNth qtX11_areSame_0 i := fun i => by rw [Nat.zero_add]
theorem qsX11_areSame_1 : ∀ i, dqNth qtX11_areSame_0 (16 + i) = dqNth qtX11_areSame_1 i := dq_step qsX11_areSame_0 rfl rfl
theorem qsX11_areSame_2 : ∀ i, dqNth qtX11_areSame_0 (32 + i) = dqNth qtX11_areSame_2 i := dq_step qsX11_areSame_1 rfl rfl
theorem qX11_areSame_0 (i b : Nat) (h : dqNth qaX11_areSame_0 i = some b) : DqBy cX11_areSame (0 + i) b := dqBy_of qeX11_areSame ((qsX11_areSame_0 i).trans (dq_in h))
theorem qX11_areSame_1 (i b : Nat) (h : dqNth qaX11_areSame_1 i = some b) : DqBy cX11_areSame (16 + i) b := dqBy_of qeX11_areSame ((qsX11_areSame_1 i).trans (dq_in h))
theorem qX11_areSame_2 (i b : Nat) (h : dqNth qaX11_areSame_2 i = some b) : DqBy cX11_areSame (32 + i) b := dqBy_of qeX11_areSame ((qsX11_areSame_2 i).trans (dq_in h))
theorem dX11_areSame_0 : decode cX11_areSame 0 = .ok (.iconst 0, 1) := @dq_o3 cX11_areSame 0 (qX11_areSame_0 0 3 rfl)
theorem dX11_areSame_1 : decode cX11_areSame 1 = .ok (.istore_n 3, 1) := @dq_o62 cX11_areSame 1 (qX11_areSame_0 1 62 rfl)
theorem dX11_areSame_2 : decode cX11_areSame 2 = .ok (.iload_n 3, 1) := @dq_o29 cX11_areSame 2 (qX11_areSame_0 2 29 rfl)
theorem dX11_areSame_3 : decode cX11_areSame 3 = .ok (.aload_n 0, 1) := @dq_o42 cX11_areSame 3 (qX11_areSame_0 3 42 rfl)
theorem dX11_areSame_4 : decode cX11_areSame 4 = .ok (.invokevirtual 88, 3) := @dq_o182 cX11_areSame 4 0 88 (qX11_areSame_0 4 182 rfl) (qX11_areSame_0 5 0 rfl) (qX11_areSame_0 6 88 rfl)
theorem dX11_areSame_7 : decode cX11_areSame 7 = .ok (.if_icmp .ge 27, 3) := @dq_o162 cX11_areSame 7 0 27 (qX11_areSame_0 7 162 rfl) (qX11_areSame_0 8 0 rfl) (qX11_areSame_0 9 27 rfl)
theorem dX11_areSame_10 : decode cX11_areSame 10 = .ok (.aload_n 0, 1) := @dq_o42 cX11_areSame 10 (qX11_areSame_0 10 42 rfl)
theorem dX11_areSame_11 : decode cX11_areSame 11 = .ok (.iload_n 1, 1) := @dq_o27 cX11_areSame 11 (qX11_areSame_0 11 27 rfl)
theorem dX11_areSame_12 : decode cX11_areSame 12 = .ok (.iload_n 3, 1) := @dq_o29 cX11_areSame 12 (qX11_areSame_0 12 29 rfl)
theorem dX11_areSame_13 : decode cX11_areSame 13 = .ok (.invokevirtual 166, 3) := @dq_o182 cX11_areSame 13 0 166 (qX11_areSame_0 13 182 rfl) (qX11_areSame_0 14 0 rfl) (qX11_areSame_0 15 166 rfl)
theorem dX11_areSame_16 : decode cX11_areSame 16 = .ok (.aload_n 0, 1) := @dq_o42 cX11_areSame 16 (qX11_areSame_1 0 42 rfl)
theorem dX11_areSame_17 : decode cX11_areSame 17 = .ok (.iload_n 2, 1) := @dq_o28 cX11_areSame 17 (qX11_areSame_1 1 28 rfl)
theorem dX11_areSame_18 : decode cX11_areSame 18 = .ok (.iload_n 3, 1) := @dq_o29 cX11_areSame 18 (qX11_areSame_1 2 29 rfl)
theorem dX11_areSame_19 : decode cX11_areSame 19 = .ok (.invokevirtual 166, 3) := @dq_o182 cX11_areSame 19 0 166 (qX11_areSame_1 3 182 rfl) (qX11_areSame_1 4 0 rfl) (qX11_areSame_1 5 166 rfl)
theorem dX11_areSame_22 : decode cX11_areSame 22 = .ok (.lcmp, 1) := @dq_o148 cX11_areSame 22 (qX11_areSame_1 6 148 rfl)
theorem dX11_areSame_23 : decode cX11_areSame 23 = .ok (.ifCond .eq 5, 3) := @dq_o153 cX11_areSame 23 0 5 (qX11_areSame_1 7 153 rfl) (qX11_areSame_1 8 0 rfl) (qX11_areSame_1 9 5 rfl)
theorem dX11_areSame_26 : decode cX11_areSame 26 = .ok (.iconst 0, 1) := @dq_o3 cX11_areSame 26 (qX11_areSame_1 10 3 rfl)
theorem dX11_areSame_27 : decode cX11_areSame 27 = .ok (.ireturn, 1) := @dq_o172 cX11_areSame 27 (qX11_areSame_1 11 172 rfl)
theorem dX11_areSame_28 : decode cX11_areSame 28 = .ok (.iinc 3 1, 3) := @dq_o132 cX11_areSame 28 3 1 (qX11_areSame_1 12 132 rfl) (qX11_areSame_1 13 3 rfl) (qX11_areSame_1 14 1 rfl)
theorem dX11_areSame_31 : decode cX11_areSame 31 = .ok (.goto (-29), 3) := @dq_o167 cX11_areSame 31 255 227 (qX11_areSame_1 15 167 rfl) (qX11_areSame_2 0 255 rfl) (qX11_areSame_2 1 227 rfl)
theorem dX11_areSame_34 : decode cX11_areSame 34 = .ok (.iconst 1, 1) := @dq_o4 cX11_areSame 34 (qX11_areSame_2 2 4 rfl)
theorem dX11_areSame_35 : decode cX11_areSame 35 = .ok (.ireturn, 1) := @dq_o172 cX11_areSame 35 (qX11_areSame_2 3 172 rfl)
abbrev qaX11_weightOf_0 : List Nat := [42, 27, 42, 182, 0, 88, 112, 182, 0, 92, 172]
def qtX11_weightOf_1 : List Nat := []
def qtX11_weightOf_0 : List Nat := qaX11_weightOf_0 ++ qtX11_weightOf_1
theorem qeX11_weightOf : cX11_weightOf.data.toList.map UInt8.toNat = qtX11_weightOf_0 := by decide +kernel
theorem qsX11_weightOf_0 : ∀ i, dqNth qtX11_weightOf_0 (0 + i) = dqNth qtX11_weightOf_0 i := fun i => by rw [Nat.zero_add]
theorem qX11_weightOf_0 (i b : Nat) (h : dqNth qaX11_weightOf_0 i = some b) : DqBy cX11_weightOf (0 + i) b := dqBy_of qeX11_weightOf ((qsX11_weightOf_0 i).trans (dq_in h))
theorem dX11_weightOf_0 : decode cX11_weightOf 0 = .ok (.aload_n 0, 1) := @dq_o42 cX11_weightOf 0 (qX11_weightOf_0 0 42 rfl)
theorem dX11_weightOf_1 : decode cX11_weightOf 1 = .ok (.iload_n 1, 1) := @dq_o27 cX11_weightOf 1 (qX11_weightOf_0 1 27 rfl)
theorem dX11_weightOf_2 : decode cX11_weightOf 2 = .ok (.aload_n 0, 1) := @dq_o42 cX11_weightOf 2 (qX11_weightOf_0 2 42 rfl)
theorem dX11_weightOf_3 : decode cX11_weightOf 3 = .ok (.invokevirtual 88, 3) := @dq_o182 cX11_weightOf 3 0 88 (qX11_weightOf_0 3 182 rfl) (qX11_weightOf_0 4 0 rfl) (qX11_weightOf_0 5 88 rfl)
theorem dX11_weightOf_6 : decode cX11_weightOf 6 = .ok (.irem, 1) := @dq_o112 cX11_weightOf 6 (qX11_weightOf_0 6 112 rfl)
theorem dX11_weightOf_7 : decode cX11_weightOf 7 = .ok (.invokevirtual 92, 3) := @dq_o182 cX11_weightOf 7 0 92 (qX11_weightOf_0 7 182 rfl) (qX11_weightOf_0 8 0 rfl) (qX11_weightOf_0 9 92 rfl)
theorem dX11_weightOf_10 : decode cX11_weightOf 10 = .ok (.ireturn, 1) := @dq_o172 cX11_weightOf 10 (qX11_weightOf_0 10 172 rfl)
abbrev qaX11_laysTerms_0 : List Nat := [42, 27, 3, 42, 27, 182, 0, 92, 182, 0, 207, 177]
def qtX11_laysTerms_1 : List Nat := []
def qtX11_laysTerms_0 : List Nat := qaX11_laysTerms_0 ++ qtX11_laysTerms_1
theorem qeX11_laysTerms : cX11_laysTerms.data.toList.map UInt8.toNat = qtX11_laysTerms_0 := by decide +kernel
theorem qsX11_laysTerms_0 : ∀ i, dqNth qtX11_laysTerms_0 (0 + i) = dqNth qtX11_laysTerms_0 i := fun i => by rw [Nat.zero_add]
theorem qX11_laysTerms_0 (i b : Nat) (h : dqNth qaX11_laysTerms_0 i = some b) : DqBy cX11_laysTerms (0 + i) b := dqBy_of qeX11_laysTerms ((qsX11_laysTerms_0 i).trans (dq_in h))
theorem dX11_laysTerms_0 : decode cX11_laysTerms 0 = .ok (.aload_n 0, 1) := @dq_o42 cX11_laysTerms 0 (qX11_laysTerms_0 0 42 rfl)
theorem dX11_laysTerms_1 : decode cX11_laysTerms 1 = .ok (.iload_n 1, 1) := @dq_o27 cX11_laysTerms 1 (qX11_laysTerms_0 1 27 rfl)
theorem dX11_laysTerms_2 : decode cX11_laysTerms 2 = .ok (.iconst 0, 1) := @dq_o3 cX11_laysTerms 2 (qX11_laysTerms_0 2 3 rfl)
theorem dX11_laysTerms_3 : decode cX11_laysTerms 3 = .ok (.aload_n 0, 1) := @dq_o42 cX11_laysTerms 3 (qX11_laysTerms_0 3 42 rfl)
theorem dX11_laysTerms_4 : decode cX11_laysTerms 4 = .ok (.iload_n 1, 1) := @dq_o27 cX11_laysTerms 4 (qX11_laysTerms_0 4 27 rfl)
theorem dX11_laysTerms_5 : decode cX11_laysTerms 5 = .ok (.invokevirtual 92, 3) := @dq_o182 cX11_laysTerms 5 0 92 (qX11_laysTerms_0 5 182 rfl) (qX11_laysTerms_0 6 0 rfl) (qX11_laysTerms_0 7 92 rfl)
theorem dX11_laysTerms_8 : decode cX11_laysTerms 8 = .ok (.invokevirtual 207, 3) := @dq_o182 cX11_laysTerms 8 0 207 (qX11_laysTerms_0 8 182 rfl) (qX11_laysTerms_0 9 0 rfl) (qX11_laysTerms_0 10 207 rfl)
theorem dX11_laysTerms_11 : decode cX11_laysTerms 11 = .ok (.return_, 1) := @dq_o177 cX11_laysTerms 11 (qX11_laysTerms_0 11 177 rfl)
abbrev qaX11_rows_0 : List Nat := [28, 5, 42, 182, 0, 88, 104, 160, 0, 101, 42, 27, 3, 10, 182, 0]
abbrev qaX11_rows_1 : List Nat := [211, 55, 4, 22, 4, 9, 148, 154, 0, 4, 177, 17, 35, 140, 27, 104]
abbrev qaX11_rows_2 : List Nat := [16, 13, 42, 180, 0, 26, 27, 46, 104, 96, 54, 6, 42, 180, 0, 30]
abbrev qaX11_rows_3 : List Nat := [21, 6, 22, 4, 80, 3, 54, 7, 21, 7, 5, 42, 182, 0, 88, 104]
abbrev qaX11_rows_4 : List Nat := [162, 0, 29, 42, 180, 0, 30, 21, 6, 4, 96, 21, 7, 96, 42, 180]
abbrev qaX11_rows_5 : List Nat := [0, 40, 21, 7, 46, 133, 80, 132, 7, 1, 167, 255, 222, 42, 180, 0]
abbrev qaX11_rows_6 : List Nat := [26, 27, 42, 180, 0, 26, 27, 46, 4, 96, 79, 177, 3, 54, 4, 21]
abbrev qaX11_rows_7 : List Nat := [4, 42, 28, 182, 0, 215, 104, 29, 163, 0, 35, 42, 180, 0, 40, 28]
abbrev qaX11_rows_8 : List Nat := [21, 4, 79, 42, 27, 28, 4, 96, 29, 21, 4, 42, 28, 182, 0, 215]
abbrev qaX11_rows_9 : List Nat := [104, 100, 182, 0, 207, 132, 4, 1, 167, 255, 215, 42, 180, 0, 40, 28]
abbrev qaX11_rows_10 : List Nat := [3, 79, 177]
def qtX11_rows_11 : List Nat := []
def qtX11_rows_10 : List Nat := qaX11_rows_10 ++ qtX11_rows_11
def qtX11_rows_9 : List Nat := qaX11_rows_9 ++ qtX11_rows_10
def qtX11_rows_8 : List Nat := qaX11_rows_8 ++ qtX11_rows_9
def qtX11_rows_7 : List Nat := qaX11_rows_7 ++ qtX11_rows_8
def qtX11_rows_6 : List Nat := qaX11_rows_6 ++ qtX11_rows_7
def qtX11_rows_5 : List Nat := qaX11_rows_5 ++ qtX11_rows_6
def qtX11_rows_4 : List Nat := qaX11_rows_4 ++ qtX11_rows_5
def qtX11_rows_3 : List Nat := qaX11_rows_3 ++ qtX11_rows_4
def qtX11_rows_2 : List Nat := qaX11_rows_2 ++ qtX11_rows_3
def qtX11_rows_1 : List Nat := qaX11_rows_1 ++ qtX11_rows_2
def qtX11_rows_0 : List Nat := qaX11_rows_0 ++ qtX11_rows_1
theorem qeX11_rows : cX11_rows.data.toList.map UInt8.toNat = qtX11_rows_0 := by decide +kernel
theorem qsX11_rows_0 : ∀ i, dqNth qtX11_rows_0 (0 + i) = dqNth qtX11_rows_0 i := fun i => by rw [Nat.zero_add]
theorem qsX11_rows_1 : ∀ i, dqNth qtX11_rows_0 (16 + i) = dqNth qtX11_rows_1 i := dq_step qsX11_rows_0 rfl rfl
theorem qsX11_rows_2 : ∀ i, dqNth qtX11_rows_0 (32 + i) = dqNth qtX11_rows_2 i := dq_step qsX11_rows_1 rfl rfl
theorem qsX11_rows_3 : ∀ i, dqNth qtX11_rows_0 (48 + i) = dqNth qtX11_rows_3 i := dq_step qsX11_rows_2 rfl rfl
theorem qsX11_rows_4 : ∀ i, dqNth qtX11_rows_0 (64 + i) = dqNth qtX11_rows_4 i := dq_step qsX11_rows_3 rfl rfl
theorem qsX11_rows_5 : ∀ i, dqNth qtX11_rows_0 (80 + i) = dqNth qtX11_rows_5 i := dq_step qsX11_rows_4 rfl rfl
theorem qsX11_rows_6 : ∀ i, dqNth qtX11_rows_0 (96 + i) = dqNth qtX11_rows_6 i := dq_step qsX11_rows_5 rfl rfl
theorem qsX11_rows_7 : ∀ i, dqNth qtX11_rows_0 (112 + i) = dqNth qtX11_rows_7 i := dq_step qsX11_rows_6 rfl rfl
theorem qsX11_rows_8 : ∀ i, dqNth qtX11_rows_0 (128 + i) = dqNth qtX11_rows_8 i := dq_step qsX11_rows_7 rfl rfl
theorem qsX11_rows_9 : ∀ i, dqNth qtX11_rows_0 (144 + i) = dqNth qtX11_rows_9 i := dq_step qsX11_rows_8 rfl rfl
theorem qsX11_rows_10 : ∀ i, dqNth qtX11_rows_0 (160 + i) = dqNth qtX11_rows_10 i := dq_step qsX11_rows_9 rfl rfl
theorem qX11_rows_0 (i b : Nat) (h : dqNth qaX11_rows_0 i = some b) : DqBy cX11_rows (0 + i) b := dqBy_of qeX11_rows ((qsX11_rows_0 i).trans (dq_in h))
theorem qX11_rows_1 (i b : Nat) (h : dqNth qaX11_rows_1 i = some b) : DqBy cX11_rows (16 + i) b := dqBy_of qeX11_rows ((qsX11_rows_1 i).trans (dq_in h))
theorem qX11_rows_2 (i b : Nat) (h : dqNth qaX11_rows_2 i = some b) : DqBy cX11_rows (32 + i) b := dqBy_of qeX11_rows ((qsX11_rows_2 i).trans (dq_in h))
theorem qX11_rows_3 (i b : Nat) (h : dqNth qaX11_rows_3 i = some b) : DqBy cX11_rows (48 + i) b := dqBy_of qeX11_rows ((qsX11_rows_3 i).trans (dq_in h))
theorem qX11_rows_4 (i b : Nat) (h : dqNth qaX11_rows_4 i = some b) : DqBy cX11_rows (64 + i) b := dqBy_of qeX11_rows ((qsX11_rows_4 i).trans (dq_in h))
theorem qX11_rows_5 (i b : Nat) (h : dqNth qaX11_rows_5 i = some b) : DqBy cX11_rows (80 + i) b := dqBy_of qeX11_rows ((qsX11_rows_5 i).trans (dq_in h))
theorem qX11_rows_6 (i b : Nat) (h : dqNth qaX11_rows_6 i = some b) : DqBy cX11_rows (96 + i) b := dqBy_of qeX11_rows ((qsX11_rows_6 i).trans (dq_in h))
theorem qX11_rows_7 (i b : Nat) (h : dqNth qaX11_rows_7 i = some b) : DqBy cX11_rows (112 + i) b := dqBy_of qeX11_rows ((qsX11_rows_7 i).trans (dq_in h))
theorem qX11_rows_8 (i b : Nat) (h : dqNth qaX11_rows_8 i = some b) : DqBy cX11_rows (128 + i) b := dqBy_of qeX11_rows ((qsX11_rows_8 i).trans (dq_in h))
theorem qX11_rows_9 (i b : Nat) (h : dqNth qaX11_rows_9 i = some b) : DqBy cX11_rows (144 + i) b := dqBy_of qeX11_rows ((qsX11_rows_9 i).trans (dq_in h))
theorem qX11_rows_10 (i b : Nat) (h : dqNth qaX11_rows_10 i = some b) : DqBy cX11_rows (160 + i) b := dqBy_of qeX11_rows ((qsX11_rows_10 i).trans (dq_in h))
theorem dX11_rows_0 : decode cX11_rows 0 = .ok (.iload_n 2, 1) := @dq_o28 cX11_rows 0 (qX11_rows_0 0 28 rfl)
theorem dX11_rows_1 : decode cX11_rows 1 = .ok (.iconst 2, 1) := @dq_o5 cX11_rows 1 (qX11_rows_0 1 5 rfl)
theorem dX11_rows_2 : decode cX11_rows 2 = .ok (.aload_n 0, 1) := @dq_o42 cX11_rows 2 (qX11_rows_0 2 42 rfl)
theorem dX11_rows_3 : decode cX11_rows 3 = .ok (.invokevirtual 88, 3) := @dq_o182 cX11_rows 3 0 88 (qX11_rows_0 3 182 rfl) (qX11_rows_0 4 0 rfl) (qX11_rows_0 5 88 rfl)
theorem dX11_rows_6 : decode cX11_rows 6 = .ok (.imul, 1) := @dq_o104 cX11_rows 6 (qX11_rows_0 6 104 rfl)
theorem dX11_rows_7 : decode cX11_rows 7 = .ok (.if_icmp .ne 101, 3) := @dq_o160 cX11_rows 7 0 101 (qX11_rows_0 7 160 rfl) (qX11_rows_0 8 0 rfl) (qX11_rows_0 9 101 rfl)
theorem dX11_rows_10 : decode cX11_rows 10 = .ok (.aload_n 0, 1) := @dq_o42 cX11_rows 10 (qX11_rows_0 10 42 rfl)
theorem dX11_rows_11 : decode cX11_rows 11 = .ok (.iload_n 1, 1) := @dq_o27 cX11_rows 11 (qX11_rows_0 11 27 rfl)
theorem dX11_rows_12 : decode cX11_rows 12 = .ok (.iconst 0, 1) := @dq_o3 cX11_rows 12 (qX11_rows_0 12 3 rfl)
theorem dX11_rows_13 : decode cX11_rows 13 = .ok (.lconst 1, 1) := @dq_o10 cX11_rows 13 (qX11_rows_0 13 10 rfl)
theorem dX11_rows_14 : decode cX11_rows 14 = .ok (.invokevirtual 211, 3) := @dq_o182 cX11_rows 14 0 211 (qX11_rows_0 14 182 rfl) (qX11_rows_0 15 0 rfl) (qX11_rows_1 0 211 rfl)
theorem dX11_rows_17 : decode cX11_rows 17 = .ok (.lstore 4, 2) := @dq_o55 cX11_rows 17 4 (qX11_rows_1 1 55 rfl) (qX11_rows_1 2 4 rfl)
theorem dX11_rows_19 : decode cX11_rows 19 = .ok (.lload 4, 2) := @dq_o22 cX11_rows 19 4 (qX11_rows_1 3 22 rfl) (qX11_rows_1 4 4 rfl)
theorem dX11_rows_21 : decode cX11_rows 21 = .ok (.lconst 0, 1) := @dq_o9 cX11_rows 21 (qX11_rows_1 5 9 rfl)
theorem dX11_rows_22 : decode cX11_rows 22 = .ok (.lcmp, 1) := @dq_o148 cX11_rows 22 (qX11_rows_1 6 148 rfl)
theorem dX11_rows_23 : decode cX11_rows 23 = .ok (.ifCond .ne 4, 3) := @dq_o154 cX11_rows 23 0 4 (qX11_rows_1 7 154 rfl) (qX11_rows_1 8 0 rfl) (qX11_rows_1 9 4 rfl)
theorem dX11_rows_26 : decode cX11_rows 26 = .ok (.return_, 1) := @dq_o177 cX11_rows 26 (qX11_rows_1 10 177 rfl)
theorem dX11_rows_27 : decode cX11_rows 27 = .ok (.sipush 9100, 3) := @dq_o17 cX11_rows 27 35 140 (qX11_rows_1 11 17 rfl) (qX11_rows_1 12 35 rfl) (qX11_rows_1 13 140 rfl)
theorem dX11_rows_30 : decode cX11_rows 30 = .ok (.iload_n 1, 1) := @dq_o27 cX11_rows 30 (qX11_rows_1 14 27 rfl)
theorem dX11_rows_31 : decode cX11_rows 31 = .ok (.imul, 1) := @dq_o104 cX11_rows 31 (qX11_rows_1 15 104 rfl)
theorem dX11_rows_32 : decode cX11_rows 32 = .ok (.bipush 13, 2) := @dq_o16 cX11_rows 32 13 (qX11_rows_2 0 16 rfl) (qX11_rows_2 1 13 rfl)
theorem dX11_rows_34 : decode cX11_rows 34 = .ok (.aload_n 0, 1) := @dq_o42 cX11_rows 34 (qX11_rows_2 2 42 rfl)
theorem dX11_rows_35 : decode cX11_rows 35 = .ok (.getfield 26, 3) := @dq_o180 cX11_rows 35 0 26 (qX11_rows_2 3 180 rfl) (qX11_rows_2 4 0 rfl) (qX11_rows_2 5 26 rfl)
theorem dX11_rows_38 : decode cX11_rows 38 = .ok (.iload_n 1, 1) := @dq_o27 cX11_rows 38 (qX11_rows_2 6 27 rfl)
theorem dX11_rows_39 : decode cX11_rows 39 = .ok (.iaload, 1) := @dq_o46 cX11_rows 39 (qX11_rows_2 7 46 rfl)
theorem dX11_rows_40 : decode cX11_rows 40 = .ok (.imul, 1) := @dq_o104 cX11_rows 40 (qX11_rows_2 8 104 rfl)
theorem dX11_rows_41 : decode cX11_rows 41 = .ok (.iadd, 1) := @dq_o96 cX11_rows 41 (qX11_rows_2 9 96 rfl)
theorem dX11_rows_42 : decode cX11_rows 42 = .ok (.istore 6, 2) := @dq_o54 cX11_rows 42 6 (qX11_rows_2 10 54 rfl) (qX11_rows_2 11 6 rfl)
theorem dX11_rows_44 : decode cX11_rows 44 = .ok (.aload_n 0, 1) := @dq_o42 cX11_rows 44 (qX11_rows_2 12 42 rfl)
theorem dX11_rows_45 : decode cX11_rows 45 = .ok (.getfield 30, 3) := @dq_o180 cX11_rows 45 0 30 (qX11_rows_2 13 180 rfl) (qX11_rows_2 14 0 rfl) (qX11_rows_2 15 30 rfl)
theorem dX11_rows_48 : decode cX11_rows 48 = .ok (.iload 6, 2) := @dq_o21 cX11_rows 48 6 (qX11_rows_3 0 21 rfl) (qX11_rows_3 1 6 rfl)
theorem dX11_rows_50 : decode cX11_rows 50 = .ok (.lload 4, 2) := @dq_o22 cX11_rows 50 4 (qX11_rows_3 2 22 rfl) (qX11_rows_3 3 4 rfl)
theorem dX11_rows_52 : decode cX11_rows 52 = .ok (.lastore, 1) := @dq_o80 cX11_rows 52 (qX11_rows_3 4 80 rfl)
theorem dX11_rows_53 : decode cX11_rows 53 = .ok (.iconst 0, 1) := @dq_o3 cX11_rows 53 (qX11_rows_3 5 3 rfl)
theorem dX11_rows_54 : decode cX11_rows 54 = .ok (.istore 7, 2) := @dq_o54 cX11_rows 54 7 (qX11_rows_3 6 54 rfl) (qX11_rows_3 7 7 rfl)
theorem dX11_rows_56 : decode cX11_rows 56 = .ok (.iload 7, 2) := @dq_o21 cX11_rows 56 7 (qX11_rows_3 8 21 rfl) (qX11_rows_3 9 7 rfl)
theorem dX11_rows_58 : decode cX11_rows 58 = .ok (.iconst 2, 1) := @dq_o5 cX11_rows 58 (qX11_rows_3 10 5 rfl)
theorem dX11_rows_59 : decode cX11_rows 59 = .ok (.aload_n 0, 1) := @dq_o42 cX11_rows 59 (qX11_rows_3 11 42 rfl)
theorem dX11_rows_60 : decode cX11_rows 60 = .ok (.invokevirtual 88, 3) := @dq_o182 cX11_rows 60 0 88 (qX11_rows_3 12 182 rfl) (qX11_rows_3 13 0 rfl) (qX11_rows_3 14 88 rfl)
theorem dX11_rows_63 : decode cX11_rows 63 = .ok (.imul, 1) := @dq_o104 cX11_rows 63 (qX11_rows_3 15 104 rfl)
theorem dX11_rows_64 : decode cX11_rows 64 = .ok (.if_icmp .ge 29, 3) := @dq_o162 cX11_rows 64 0 29 (qX11_rows_4 0 162 rfl) (qX11_rows_4 1 0 rfl) (qX11_rows_4 2 29 rfl)
theorem dX11_rows_67 : decode cX11_rows 67 = .ok (.aload_n 0, 1) := @dq_o42 cX11_rows 67 (qX11_rows_4 3 42 rfl)
theorem dX11_rows_68 : decode cX11_rows 68 = .ok (.getfield 30, 3) := @dq_o180 cX11_rows 68 0 30 (qX11_rows_4 4 180 rfl) (qX11_rows_4 5 0 rfl) (qX11_rows_4 6 30 rfl)
theorem dX11_rows_71 : decode cX11_rows 71 = .ok (.iload 6, 2) := @dq_o21 cX11_rows 71 6 (qX11_rows_4 7 21 rfl) (qX11_rows_4 8 6 rfl)
theorem dX11_rows_73 : decode cX11_rows 73 = .ok (.iconst 1, 1) := @dq_o4 cX11_rows 73 (qX11_rows_4 9 4 rfl)
theorem dX11_rows_74 : decode cX11_rows 74 = .ok (.iadd, 1) := @dq_o96 cX11_rows 74 (qX11_rows_4 10 96 rfl)
theorem dX11_rows_75 : decode cX11_rows 75 = .ok (.iload 7, 2) := @dq_o21 cX11_rows 75 7 (qX11_rows_4 11 21 rfl) (qX11_rows_4 12 7 rfl)
theorem dX11_rows_77 : decode cX11_rows 77 = .ok (.iadd, 1) := @dq_o96 cX11_rows 77 (qX11_rows_4 13 96 rfl)
theorem dX11_rows_78 : decode cX11_rows 78 = .ok (.aload_n 0, 1) := @dq_o42 cX11_rows 78 (qX11_rows_4 14 42 rfl)
theorem dX11_rows_79 : decode cX11_rows 79 = .ok (.getfield 40, 3) := @dq_o180 cX11_rows 79 0 40 (qX11_rows_4 15 180 rfl) (qX11_rows_5 0 0 rfl) (qX11_rows_5 1 40 rfl)
theorem dX11_rows_82 : decode cX11_rows 82 = .ok (.iload 7, 2) := @dq_o21 cX11_rows 82 7 (qX11_rows_5 2 21 rfl) (qX11_rows_5 3 7 rfl)
theorem dX11_rows_84 : decode cX11_rows 84 = .ok (.iaload, 1) := @dq_o46 cX11_rows 84 (qX11_rows_5 4 46 rfl)
theorem dX11_rows_85 : decode cX11_rows 85 = .ok (.i2l, 1) := @dq_o133 cX11_rows 85 (qX11_rows_5 5 133 rfl)
theorem dX11_rows_86 : decode cX11_rows 86 = .ok (.lastore, 1) := @dq_o80 cX11_rows 86 (qX11_rows_5 6 80 rfl)
theorem dX11_rows_87 : decode cX11_rows 87 = .ok (.iinc 7 1, 3) := @dq_o132 cX11_rows 87 7 1 (qX11_rows_5 7 132 rfl) (qX11_rows_5 8 7 rfl) (qX11_rows_5 9 1 rfl)
theorem dX11_rows_90 : decode cX11_rows 90 = .ok (.goto (-34), 3) := @dq_o167 cX11_rows 90 255 222 (qX11_rows_5 10 167 rfl) (qX11_rows_5 11 255 rfl) (qX11_rows_5 12 222 rfl)
theorem dX11_rows_93 : decode cX11_rows 93 = .ok (.aload_n 0, 1) := @dq_o42 cX11_rows 93 (qX11_rows_5 13 42 rfl)
theorem dX11_rows_94 : decode cX11_rows 94 = .ok (.getfield 26, 3) := @dq_o180 cX11_rows 94 0 26 (qX11_rows_5 14 180 rfl) (qX11_rows_5 15 0 rfl) (qX11_rows_6 0 26 rfl)
theorem dX11_rows_97 : decode cX11_rows 97 = .ok (.iload_n 1, 1) := @dq_o27 cX11_rows 97 (qX11_rows_6 1 27 rfl)
theorem dX11_rows_98 : decode cX11_rows 98 = .ok (.aload_n 0, 1) := @dq_o42 cX11_rows 98 (qX11_rows_6 2 42 rfl)
theorem dX11_rows_99 : decode cX11_rows 99 = .ok (.getfield 26, 3) := @dq_o180 cX11_rows 99 0 26 (qX11_rows_6 3 180 rfl) (qX11_rows_6 4 0 rfl) (qX11_rows_6 5 26 rfl)
theorem dX11_rows_102 : decode cX11_rows 102 = .ok (.iload_n 1, 1) := @dq_o27 cX11_rows 102 (qX11_rows_6 6 27 rfl)
theorem dX11_rows_103 : decode cX11_rows 103 = .ok (.iaload, 1) := @dq_o46 cX11_rows 103 (qX11_rows_6 7 46 rfl)
theorem dX11_rows_104 : decode cX11_rows 104 = .ok (.iconst 1, 1) := @dq_o4 cX11_rows 104 (qX11_rows_6 8 4 rfl)
theorem dX11_rows_105 : decode cX11_rows 105 = .ok (.iadd, 1) := @dq_o96 cX11_rows 105 (qX11_rows_6 9 96 rfl)
theorem dX11_rows_106 : decode cX11_rows 106 = .ok (.iastore, 1) := @dq_o79 cX11_rows 106 (qX11_rows_6 10 79 rfl)
theorem dX11_rows_107 : decode cX11_rows 107 = .ok (.return_, 1) := @dq_o177 cX11_rows 107 (qX11_rows_6 11 177 rfl)
theorem dX11_rows_108 : decode cX11_rows 108 = .ok (.iconst 0, 1) := @dq_o3 cX11_rows 108 (qX11_rows_6 12 3 rfl)
theorem dX11_rows_109 : decode cX11_rows 109 = .ok (.istore 4, 2) := @dq_o54 cX11_rows 109 4 (qX11_rows_6 13 54 rfl) (qX11_rows_6 14 4 rfl)
theorem dX11_rows_111 : decode cX11_rows 111 = .ok (.iload 4, 2) := @dq_o21 cX11_rows 111 4 (qX11_rows_6 15 21 rfl) (qX11_rows_7 0 4 rfl)
theorem dX11_rows_113 : decode cX11_rows 113 = .ok (.aload_n 0, 1) := @dq_o42 cX11_rows 113 (qX11_rows_7 1 42 rfl)
theorem dX11_rows_114 : decode cX11_rows 114 = .ok (.iload_n 2, 1) := @dq_o28 cX11_rows 114 (qX11_rows_7 2 28 rfl)
theorem dX11_rows_115 : decode cX11_rows 115 = .ok (.invokevirtual 215, 3) := @dq_o182 cX11_rows 115 0 215 (qX11_rows_7 3 182 rfl) (qX11_rows_7 4 0 rfl) (qX11_rows_7 5 215 rfl)
theorem dX11_rows_118 : decode cX11_rows 118 = .ok (.imul, 1) := @dq_o104 cX11_rows 118 (qX11_rows_7 6 104 rfl)
theorem dX11_rows_119 : decode cX11_rows 119 = .ok (.iload_n 3, 1) := @dq_o29 cX11_rows 119 (qX11_rows_7 7 29 rfl)
theorem dX11_rows_120 : decode cX11_rows 120 = .ok (.if_icmp .gt 35, 3) := @dq_o163 cX11_rows 120 0 35 (qX11_rows_7 8 163 rfl) (qX11_rows_7 9 0 rfl) (qX11_rows_7 10 35 rfl)
theorem dX11_rows_123 : decode cX11_rows 123 = .ok (.aload_n 0, 1) := @dq_o42 cX11_rows 123 (qX11_rows_7 11 42 rfl)
theorem dX11_rows_124 : decode cX11_rows 124 = .ok (.getfield 40, 3) := @dq_o180 cX11_rows 124 0 40 (qX11_rows_7 12 180 rfl) (qX11_rows_7 13 0 rfl) (qX11_rows_7 14 40 rfl)
theorem dX11_rows_127 : decode cX11_rows 127 = .ok (.iload_n 2, 1) := @dq_o28 cX11_rows 127 (qX11_rows_7 15 28 rfl)
theorem dX11_rows_128 : decode cX11_rows 128 = .ok (.iload 4, 2) := @dq_o21 cX11_rows 128 4 (qX11_rows_8 0 21 rfl) (qX11_rows_8 1 4 rfl)
theorem dX11_rows_130 : decode cX11_rows 130 = .ok (.iastore, 1) := @dq_o79 cX11_rows 130 (qX11_rows_8 2 79 rfl)
theorem dX11_rows_131 : decode cX11_rows 131 = .ok (.aload_n 0, 1) := @dq_o42 cX11_rows 131 (qX11_rows_8 3 42 rfl)
theorem dX11_rows_132 : decode cX11_rows 132 = .ok (.iload_n 1, 1) := @dq_o27 cX11_rows 132 (qX11_rows_8 4 27 rfl)
theorem dX11_rows_133 : decode cX11_rows 133 = .ok (.iload_n 2, 1) := @dq_o28 cX11_rows 133 (qX11_rows_8 5 28 rfl)
theorem dX11_rows_134 : decode cX11_rows 134 = .ok (.iconst 1, 1) := @dq_o4 cX11_rows 134 (qX11_rows_8 6 4 rfl)
theorem dX11_rows_135 : decode cX11_rows 135 = .ok (.iadd, 1) := @dq_o96 cX11_rows 135 (qX11_rows_8 7 96 rfl)
theorem dX11_rows_136 : decode cX11_rows 136 = .ok (.iload_n 3, 1) := @dq_o29 cX11_rows 136 (qX11_rows_8 8 29 rfl)
theorem dX11_rows_137 : decode cX11_rows 137 = .ok (.iload 4, 2) := @dq_o21 cX11_rows 137 4 (qX11_rows_8 9 21 rfl) (qX11_rows_8 10 4 rfl)
theorem dX11_rows_139 : decode cX11_rows 139 = .ok (.aload_n 0, 1) := @dq_o42 cX11_rows 139 (qX11_rows_8 11 42 rfl)
theorem dX11_rows_140 : decode cX11_rows 140 = .ok (.iload_n 2, 1) := @dq_o28 cX11_rows 140 (qX11_rows_8 12 28 rfl)
theorem dX11_rows_141 : decode cX11_rows 141 = .ok (.invokevirtual 215, 3) := @dq_o182 cX11_rows 141 0 215 (qX11_rows_8 13 182 rfl) (qX11_rows_8 14 0 rfl) (qX11_rows_8 15 215 rfl)
theorem dX11_rows_144 : decode cX11_rows 144 = .ok (.imul, 1) := @dq_o104 cX11_rows 144 (qX11_rows_9 0 104 rfl)
theorem dX11_rows_145 : decode cX11_rows 145 = .ok (.isub, 1) := @dq_o100 cX11_rows 145 (qX11_rows_9 1 100 rfl)
theorem dX11_rows_146 : decode cX11_rows 146 = .ok (.invokevirtual 207, 3) := @dq_o182 cX11_rows 146 0 207 (qX11_rows_9 2 182 rfl) (qX11_rows_9 3 0 rfl) (qX11_rows_9 4 207 rfl)
theorem dX11_rows_149 : decode cX11_rows 149 = .ok (.iinc 4 1, 3) := @dq_o132 cX11_rows 149 4 1 (qX11_rows_9 5 132 rfl) (qX11_rows_9 6 4 rfl) (qX11_rows_9 7 1 rfl)
theorem dX11_rows_152 : decode cX11_rows 152 = .ok (.goto (-41), 3) := @dq_o167 cX11_rows 152 255 215 (qX11_rows_9 8 167 rfl) (qX11_rows_9 9 255 rfl) (qX11_rows_9 10 215 rfl)
theorem dX11_rows_155 : decode cX11_rows 155 = .ok (.aload_n 0, 1) := @dq_o42 cX11_rows 155 (qX11_rows_9 11 42 rfl)
theorem dX11_rows_156 : decode cX11_rows 156 = .ok (.getfield 40, 3) := @dq_o180 cX11_rows 156 0 40 (qX11_rows_9 12 180 rfl) (qX11_rows_9 13 0 rfl) (qX11_rows_9 14 40 rfl)
theorem dX11_rows_159 : decode cX11_rows 159 = .ok (.iload_n 2, 1) := @dq_o28 cX11_rows 159 (qX11_rows_9 15 28 rfl)
theorem dX11_rows_160 : decode cX11_rows 160 = .ok (.iconst 0, 1) := @dq_o3 cX11_rows 160 (qX11_rows_10 0 3 rfl)
theorem dX11_rows_161 : decode cX11_rows 161 = .ok (.iastore, 1) := @dq_o79 cX11_rows 161 (qX11_rows_10 1 79 rfl)
theorem dX11_rows_162 : decode cX11_rows 162 = .ok (.return_, 1) := @dq_o177 cX11_rows 162 (qX11_rows_10 2 177 rfl)
abbrev qaX11_choose_0 : List Nat := [10, 66, 3, 54, 5, 21, 5, 28, 162, 0, 23, 33, 27, 21, 5, 100]
abbrev qaX11_choose_1 : List Nat := [133, 105, 21, 5, 4, 96, 133, 109, 66, 132, 5, 1, 167, 255, 233, 33]
abbrev qaX11_choose_2 : List Nat := [173]
def qtX11_choose_3 : List Nat := []
def qtX11_choose_2 : List Nat := qaX11_choose_2 ++ qtX11_choose_3
def qtX11_choose_1 : List Nat := qaX11_choose_1 ++ qtX11_choose_2
def qtX11_choose_0 : List Nat := qaX11_choose_0 ++ qtX11_choose_1
theorem qeX11_choose : cX11_choose.data.toList.map UInt8.toNat = qtX11_choose_0 := by decide +kernel
theorem qsX11_choose_0 : ∀ i, dqNth qtX11_choose_0 (0 + i) = dqNth qtX11_choose_0 i := fun i => by rw [Nat.zero_add]
theorem qsX11_choose_1 : ∀ i, dqNth qtX11_choose_0 (16 + i) = dqNth qtX11_choose_1 i := dq_step qsX11_choose_0 rfl rfl
theorem qsX11_choose_2 : ∀ i, dqNth qtX11_choose_0 (32 + i) = dqNth qtX11_choose_2 i := dq_step qsX11_choose_1 rfl rfl
theorem qX11_choose_0 (i b : Nat) (h : dqNth qaX11_choose_0 i = some b) : DqBy cX11_choose (0 + i) b := dqBy_of qeX11_choose ((qsX11_choose_0 i).trans (dq_in h))
theorem qX11_choose_1 (i b : Nat) (h : dqNth qaX11_choose_1 i = some b) : DqBy cX11_choose (16 + i) b := dqBy_of qeX11_choose ((qsX11_choose_1 i).trans (dq_in h))
theorem qX11_choose_2 (i b : Nat) (h : dqNth qaX11_choose_2 i = some b) : DqBy cX11_choose (32 + i) b := dqBy_of qeX11_choose ((qsX11_choose_2 i).trans (dq_in h))
theorem dX11_choose_0 : decode cX11_choose 0 = .ok (.lconst 1, 1) := @dq_o10 cX11_choose 0 (qX11_choose_0 0 10 rfl)
theorem dX11_choose_1 : decode cX11_choose 1 = .ok (.lstore_n 3, 1) := @dq_o66 cX11_choose 1 (qX11_choose_0 1 66 rfl)
theorem dX11_choose_2 : decode cX11_choose 2 = .ok (.iconst 0, 1) := @dq_o3 cX11_choose 2 (qX11_choose_0 2 3 rfl)
theorem dX11_choose_3 : decode cX11_choose 3 = .ok (.istore 5, 2) := @dq_o54 cX11_choose 3 5 (qX11_choose_0 3 54 rfl) (qX11_choose_0 4 5 rfl)
theorem dX11_choose_5 : decode cX11_choose 5 = .ok (.iload 5, 2) := @dq_o21 cX11_choose 5 5 (qX11_choose_0 5 21 rfl) (qX11_choose_0 6 5 rfl)
theorem dX11_choose_7 : decode cX11_choose 7 = .ok (.iload_n 2, 1) := @dq_o28 cX11_choose 7 (qX11_choose_0 7 28 rfl)
theorem dX11_choose_8 : decode cX11_choose 8 = .ok (.if_icmp .ge 23, 3) := @dq_o162 cX11_choose 8 0 23 (qX11_choose_0 8 162 rfl) (qX11_choose_0 9 0 rfl) (qX11_choose_0 10 23 rfl)
theorem dX11_choose_11 : decode cX11_choose 11 = .ok (.lload_n 3, 1) := @dq_o33 cX11_choose 11 (qX11_choose_0 11 33 rfl)
theorem dX11_choose_12 : decode cX11_choose 12 = .ok (.iload_n 1, 1) := @dq_o27 cX11_choose 12 (qX11_choose_0 12 27 rfl)
theorem dX11_choose_13 : decode cX11_choose 13 = .ok (.iload 5, 2) := @dq_o21 cX11_choose 13 5 (qX11_choose_0 13 21 rfl) (qX11_choose_0 14 5 rfl)
theorem dX11_choose_15 : decode cX11_choose 15 = .ok (.isub, 1) := @dq_o100 cX11_choose 15 (qX11_choose_0 15 100 rfl)
theorem dX11_choose_16 : decode cX11_choose 16 = .ok (.i2l, 1) := @dq_o133 cX11_choose 16 (qX11_choose_1 0 133 rfl)
theorem dX11_choose_17 : decode cX11_choose 17 = .ok (.lmul, 1) := @dq_o105 cX11_choose 17 (qX11_choose_1 1 105 rfl)
theorem dX11_choose_18 : decode cX11_choose 18 = .ok (.iload 5, 2) := @dq_o21 cX11_choose 18 5 (qX11_choose_1 2 21 rfl) (qX11_choose_1 3 5 rfl)
theorem dX11_choose_20 : decode cX11_choose 20 = .ok (.iconst 1, 1) := @dq_o4 cX11_choose 20 (qX11_choose_1 4 4 rfl)
theorem dX11_choose_21 : decode cX11_choose 21 = .ok (.iadd, 1) := @dq_o96 cX11_choose 21 (qX11_choose_1 5 96 rfl)
theorem dX11_choose_22 : decode cX11_choose 22 = .ok (.i2l, 1) := @dq_o133 cX11_choose 22 (qX11_choose_1 6 133 rfl)
theorem dX11_choose_23 : decode cX11_choose 23 = .ok (.ldiv, 1) := @dq_o109 cX11_choose 23 (qX11_choose_1 7 109 rfl)
theorem dX11_choose_24 : decode cX11_choose 24 = .ok (.lstore_n 3, 1) := @dq_o66 cX11_choose 24 (qX11_choose_1 8 66 rfl)
theorem dX11_choose_25 : decode cX11_choose 25 = .ok (.iinc 5 1, 3) := @dq_o132 cX11_choose 25 5 1 (qX11_choose_1 9 132 rfl) (qX11_choose_1 10 5 rfl) (qX11_choose_1 11 1 rfl)
theorem dX11_choose_28 : decode cX11_choose 28 = .ok (.goto (-23), 3) := @dq_o167 cX11_choose 28 255 233 (qX11_choose_1 12 167 rfl) (qX11_choose_1 13 255 rfl) (qX11_choose_1 14 233 rfl)
theorem dX11_choose_31 : decode cX11_choose 31 = .ok (.lload_n 3, 1) := @dq_o33 cX11_choose 31 (qX11_choose_1 15 33 rfl)
theorem dX11_choose_32 : decode cX11_choose 32 = .ok (.lreturn, 1) := @dq_o173 cX11_choose 32 (qX11_choose_2 0 173 rfl)
abbrev qaX11_difference_0 : List Nat := [28, 5, 42, 182, 0, 88, 104, 160, 0, 100, 3, 54, 5, 21, 5, 16]
abbrev qaX11_difference_1 : List Nat := [6, 162, 0, 72, 42, 16, 90, 21, 5, 21, 5, 42, 182, 0, 88, 162]
abbrev qaX11_difference_2 : List Nat := [0, 14, 42, 180, 0, 43, 21, 5, 46, 133, 167, 0, 4, 9, 182, 0]
abbrev qaX11_difference_3 : List Nat := [162, 42, 16, 91, 21, 5, 21, 5, 42, 182, 0, 88, 162, 0, 19, 42]
abbrev qaX11_difference_4 : List Nat := [180, 0, 43, 42, 182, 0, 88, 21, 5, 96, 46, 133, 167, 0, 4, 9]
abbrev qaX11_difference_5 : List Nat := [182, 0, 162, 132, 5, 1, 167, 255, 183, 42, 16, 90, 16, 91, 182, 0]
abbrev qaX11_difference_6 : List Nat := [197, 33, 42, 16, 90, 27, 182, 0, 166, 105, 173, 9, 55, 5, 42, 180]
abbrev qaX11_difference_7 : List Nat := [0, 40, 28, 46, 54, 7, 3, 54, 8, 21, 8, 21, 7, 163, 0, 58]
abbrev qaX11_difference_8 : List Nat := [42, 180, 0, 43, 28, 21, 8, 79, 22, 5, 42, 27, 28, 4, 96, 33]
abbrev qaX11_difference_9 : List Nat := [42, 21, 7, 21, 8, 182, 0, 218, 105, 21, 7, 21, 8, 100, 5, 112]
abbrev qaX11_difference_10 : List Nat := [154, 0, 7, 10, 167, 0, 6, 20, 0, 221, 105, 182, 0, 211, 97, 55]
abbrev qaX11_difference_11 : List Nat := [5, 132, 8, 1, 167, 255, 197, 22, 5, 173]
def qtX11_difference_12 : List Nat := []
def qtX11_difference_11 : List Nat := qaX11_difference_11 ++ qtX11_difference_12
def qtX11_difference_10 : List Nat := qaX11_difference_10 ++ qtX11_difference_11
def qtX11_difference_9 : List Nat := qaX11_difference_9 ++ qtX11_difference_10
def qtX11_difference_8 : List Nat := qaX11_difference_8 ++ qtX11_difference_9
def qtX11_difference_7 : List Nat := qaX11_difference_7 ++ qtX11_difference_8
def qtX11_difference_6 : List Nat := qaX11_difference_6 ++ qtX11_difference_7
def qtX11_difference_5 : List Nat := qaX11_difference_5 ++ qtX11_difference_6
def qtX11_difference_4 : List Nat := qaX11_difference_4 ++ qtX11_difference_5
def qtX11_difference_3 : List Nat := qaX11_difference_3 ++ qtX11_difference_4
def qtX11_difference_2 : List Nat := qaX11_difference_2 ++ qtX11_difference_3
def qtX11_difference_1 : List Nat := qaX11_difference_1 ++ qtX11_difference_2
def qtX11_difference_0 : List Nat := qaX11_difference_0 ++ qtX11_difference_1
theorem qeX11_difference : cX11_difference.data.toList.map UInt8.toNat = qtX11_difference_0 := by decide +kernel
theorem qsX11_difference_0 : ∀ i, dqNth qtX11_difference_0 (0 + i) = dqNth qtX11_difference_0 i := fun i => by rw [Nat.zero_add]
theorem qsX11_difference_1 : ∀ i, dqNth qtX11_difference_0 (16 + i) = dqNth qtX11_difference_1 i := dq_step qsX11_difference_0 rfl rfl
theorem qsX11_difference_2 : ∀ i, dqNth qtX11_difference_0 (32 + i) = dqNth qtX11_difference_2 i := dq_step qsX11_difference_1 rfl rfl
theorem qsX11_difference_3 : ∀ i, dqNth qtX11_difference_0 (48 + i) = dqNth qtX11_difference_3 i := dq_step qsX11_difference_2 rfl rfl
theorem qsX11_difference_4 : ∀ i, dqNth qtX11_difference_0 (64 + i) = dqNth qtX11_difference_4 i := dq_step qsX11_difference_3 rfl rfl
theorem qsX11_difference_5 : ∀ i, dqNth qtX11_difference_0 (80 + i) = dqNth qtX11_difference_5 i := dq_step qsX11_difference_4 rfl rfl
theorem qsX11_difference_6 : ∀ i, dqNth qtX11_difference_0 (96 + i) = dqNth qtX11_difference_6 i := dq_step qsX11_difference_5 rfl rfl
theorem qsX11_difference_7 : ∀ i, dqNth qtX11_difference_0 (112 + i) = dqNth qtX11_difference_7 i := dq_step qsX11_difference_6 rfl rfl
theorem qsX11_difference_8 : ∀ i, dqNth qtX11_difference_0 (128 + i) = dqNth qtX11_difference_8 i := dq_step qsX11_difference_7 rfl rfl
theorem qsX11_difference_9 : ∀ i, dqNth qtX11_difference_0 (144 + i) = dqNth qtX11_difference_9 i := dq_step qsX11_difference_8 rfl rfl
theorem qsX11_difference_10 : ∀ i, dqNth qtX11_difference_0 (160 + i) = dqNth qtX11_difference_10 i := dq_step qsX11_difference_9 rfl rfl
theorem qsX11_difference_11 : ∀ i, dqNth qtX11_difference_0 (176 + i) = dqNth qtX11_difference_11 i := dq_step qsX11_difference_10 rfl rfl
theorem qX11_difference_0 (i b : Nat) (h : dqNth qaX11_difference_0 i = some b) : DqBy cX11_difference (0 + i) b := dqBy_of qeX11_difference ((qsX11_difference_0 i).trans (dq_in h))
theorem qX11_difference_1 (i b : Nat) (h : dqNth qaX11_difference_1 i = some b) : DqBy cX11_difference (16 + i) b := dqBy_of qeX11_difference ((qsX11_difference_1 i).trans (dq_in h))
theorem qX11_difference_2 (i b : Nat) (h : dqNth qaX11_difference_2 i = some b) : DqBy cX11_difference (32 + i) b := dqBy_of qeX11_difference ((qsX11_difference_2 i).trans (dq_in h))
theorem qX11_difference_3 (i b : Nat) (h : dqNth qaX11_difference_3 i = some b) : DqBy cX11_difference (48 + i) b := dqBy_of qeX11_difference ((qsX11_difference_3 i).trans (dq_in h))
theorem qX11_difference_4 (i b : Nat) (h : dqNth qaX11_difference_4 i = some b) : DqBy cX11_difference (64 + i) b := dqBy_of qeX11_difference ((qsX11_difference_4 i).trans (dq_in h))
theorem qX11_difference_5 (i b : Nat) (h : dqNth qaX11_difference_5 i = some b) : DqBy cX11_difference (80 + i) b := dqBy_of qeX11_difference ((qsX11_difference_5 i).trans (dq_in h))
theorem qX11_difference_6 (i b : Nat) (h : dqNth qaX11_difference_6 i = some b) : DqBy cX11_difference (96 + i) b := dqBy_of qeX11_difference ((qsX11_difference_6 i).trans (dq_in h))
theorem qX11_difference_7 (i b : Nat) (h : dqNth qaX11_difference_7 i = some b) : DqBy cX11_difference (112 + i) b := dqBy_of qeX11_difference ((qsX11_difference_7 i).trans (dq_in h))
theorem qX11_difference_8 (i b : Nat) (h : dqNth qaX11_difference_8 i = some b) : DqBy cX11_difference (128 + i) b := dqBy_of qeX11_difference ((qsX11_difference_8 i).trans (dq_in h))
theorem qX11_difference_9 (i b : Nat) (h : dqNth qaX11_difference_9 i = some b) : DqBy cX11_difference (144 + i) b := dqBy_of qeX11_difference ((qsX11_difference_9 i).trans (dq_in h))
theorem qX11_difference_10 (i b : Nat) (h : dqNth qaX11_difference_10 i = some b) : DqBy cX11_difference (160 + i) b := dqBy_of qeX11_difference ((qsX11_difference_10 i).trans (dq_in h))
theorem qX11_difference_11 (i b : Nat) (h : dqNth qaX11_difference_11 i = some b) : DqBy cX11_difference (176 + i) b := dqBy_of qeX11_difference ((qsX11_difference_11 i).trans (dq_in h))
theorem dX11_difference_0 : decode cX11_difference 0 = .ok (.iload_n 2, 1) := @dq_o28 cX11_difference 0 (qX11_difference_0 0 28 rfl)
theorem dX11_difference_1 : decode cX11_difference 1 = .ok (.iconst 2, 1) := @dq_o5 cX11_difference 1 (qX11_difference_0 1 5 rfl)
theorem dX11_difference_2 : decode cX11_difference 2 = .ok (.aload_n 0, 1) := @dq_o42 cX11_difference 2 (qX11_difference_0 2 42 rfl)
theorem dX11_difference_3 : decode cX11_difference 3 = .ok (.invokevirtual 88, 3) := @dq_o182 cX11_difference 3 0 88 (qX11_difference_0 3 182 rfl) (qX11_difference_0 4 0 rfl) (qX11_difference_0 5 88 rfl)
theorem dX11_difference_6 : decode cX11_difference 6 = .ok (.imul, 1) := @dq_o104 cX11_difference 6 (qX11_difference_0 6 104 rfl)
theorem dX11_difference_7 : decode cX11_difference 7 = .ok (.if_icmp .ne 100, 3) := @dq_o160 cX11_difference 7 0 100 (qX11_difference_0 7 160 rfl) (qX11_difference_0 8 0 rfl) (qX11_difference_0 9 100 rfl)
theorem dX11_difference_10 : decode cX11_difference 10 = .ok (.iconst 0, 1) := @dq_o3 cX11_difference 10 (qX11_difference_0 10 3 rfl)
theorem dX11_difference_11 : decode cX11_difference 11 = .ok (.istore 5, 2) := @dq_o54 cX11_difference 11 5 (qX11_difference_0 11 54 rfl) (qX11_difference_0 12 5 rfl)
theorem dX11_difference_13 : decode cX11_difference 13 = .ok (.iload 5, 2) := @dq_o21 cX11_difference 13 5 (qX11_difference_0 13 21 rfl) (qX11_difference_0 14 5 rfl)
theorem dX11_difference_15 : decode cX11_difference 15 = .ok (.bipush 6, 2) := @dq_o16 cX11_difference 15 6 (qX11_difference_0 15 16 rfl) (qX11_difference_1 0 6 rfl)
theorem dX11_difference_17 : decode cX11_difference 17 = .ok (.if_icmp .ge 72, 3) := @dq_o162 cX11_difference 17 0 72 (qX11_difference_1 1 162 rfl) (qX11_difference_1 2 0 rfl) (qX11_difference_1 3 72 rfl)
theorem dX11_difference_20 : decode cX11_difference 20 = .ok (.aload_n 0, 1) := @dq_o42 cX11_difference 20 (qX11_difference_1 4 42 rfl)
theorem dX11_difference_21 : decode cX11_difference 21 = .ok (.bipush 90, 2) := @dq_o16 cX11_difference 21 90 (qX11_difference_1 5 16 rfl) (qX11_difference_1 6 90 rfl)
theorem dX11_difference_23 : decode cX11_difference 23 = .ok (.iload 5, 2) := @dq_o21 cX11_difference 23 5 (qX11_difference_1 7 21 rfl) (qX11_difference_1 8 5 rfl)
theorem dX11_difference_25 : decode cX11_difference 25 = .ok (.iload 5, 2) := @dq_o21 cX11_difference 25 5 (qX11_difference_1 9 21 rfl) (qX11_difference_1 10 5 rfl)
theorem dX11_difference_27 : decode cX11_difference 27 = .ok (.aload_n 0, 1) := @dq_o42 cX11_difference 27 (qX11_difference_1 11 42 rfl)
theorem dX11_difference_28 : decode cX11_difference 28 = .ok (.invokevirtual 88, 3) := @dq_o182 cX11_difference 28 0 88 (qX11_difference_1 12 182 rfl) (qX11_difference_1 13 0 rfl) (qX11_difference_1 14 88 rfl)
theorem dX11_difference_31 : decode cX11_difference 31 = .ok (.if_icmp .ge 14, 3) := @dq_o162 cX11_difference 31 0 14 (qX11_difference_1 15 162 rfl) (qX11_difference_2 0 0 rfl) (qX11_difference_2 1 14 rfl)
theorem dX11_difference_34 : decode cX11_difference 34 = .ok (.aload_n 0, 1) := @dq_o42 cX11_difference 34 (qX11_difference_2 2 42 rfl)
theorem dX11_difference_35 : decode cX11_difference 35 = .ok (.getfield 43, 3) := @dq_o180 cX11_difference 35 0 43 (qX11_difference_2 3 180 rfl) (qX11_difference_2 4 0 rfl) (qX11_difference_2 5 43 rfl)
theorem dX11_difference_38 : decode cX11_difference 38 = .ok (.iload 5, 2) := @dq_o21 cX11_difference 38 5 (qX11_difference_2 6 21 rfl) (qX11_difference_2 7 5 rfl)
theorem dX11_difference_40 : decode cX11_difference 40 = .ok (.iaload, 1) := @dq_o46 cX11_difference 40 (qX11_difference_2 8 46 rfl)
theorem dX11_difference_41 : decode cX11_difference 41 = .ok (.i2l, 1) := @dq_o133 cX11_difference 41 (qX11_difference_2 9 133 rfl)
theorem dX11_difference_42 : decode cX11_difference 42 = .ok (.goto 4, 3) := @dq_o167 cX11_difference 42 0 4 (qX11_difference_2 10 167 rfl) (qX11_difference_2 11 0 rfl) (qX11_difference_2 12 4 rfl)
theorem dX11_difference_45 : decode cX11_difference 45 = .ok (.lconst 0, 1) := @dq_o9 cX11_difference 45 (qX11_difference_2 13 9 rfl)
theorem dX11_difference_46 : decode cX11_difference 46 = .ok (.invokevirtual 162, 3) := @dq_o182 cX11_difference 46 0 162 (qX11_difference_2 14 182 rfl) (qX11_difference_2 15 0 rfl) (qX11_difference_3 0 162 rfl)
theorem dX11_difference_49 : decode cX11_difference 49 = .ok (.aload_n 0, 1) := @dq_o42 cX11_difference 49 (qX11_difference_3 1 42 rfl)
theorem dX11_difference_50 : decode cX11_difference 50 = .ok (.bipush 91, 2) := @dq_o16 cX11_difference 50 91 (qX11_difference_3 2 16 rfl) (qX11_difference_3 3 91 rfl)
theorem dX11_difference_52 : decode cX11_difference 52 = .ok (.iload 5, 2) := @dq_o21 cX11_difference 52 5 (qX11_difference_3 4 21 rfl) (qX11_difference_3 5 5 rfl)
theorem dX11_difference_54 : decode cX11_difference 54 = .ok (.iload 5, 2) := @dq_o21 cX11_difference 54 5 (qX11_difference_3 6 21 rfl) (qX11_difference_3 7 5 rfl)
theorem dX11_difference_56 : decode cX11_difference 56 = .ok (.aload_n 0, 1) := @dq_o42 cX11_difference 56 (qX11_difference_3 8 42 rfl)
theorem dX11_difference_57 : decode cX11_difference 57 = .ok (.invokevirtual 88, 3) := @dq_o182 cX11_difference 57 0 88 (qX11_difference_3 9 182 rfl) (qX11_difference_3 10 0 rfl) (qX11_difference_3 11 88 rfl)
theorem dX11_difference_60 : decode cX11_difference 60 = .ok (.if_icmp .ge 19, 3) := @dq_o162 cX11_difference 60 0 19 (qX11_difference_3 12 162 rfl) (qX11_difference_3 13 0 rfl) (qX11_difference_3 14 19 rfl)
theorem dX11_difference_63 : decode cX11_difference 63 = .ok (.aload_n 0, 1) := @dq_o42 cX11_difference 63 (qX11_difference_3 15 42 rfl)
theorem dX11_difference_64 : decode cX11_difference 64 = .ok (.getfield 43, 3) := @dq_o180 cX11_difference 64 0 43 (qX11_difference_4 0 180 rfl) (qX11_difference_4 1 0 rfl) (qX11_difference_4 2 43 rfl)
theorem dX11_difference_67 : decode cX11_difference 67 = .ok (.aload_n 0, 1) := @dq_o42 cX11_difference 67 (qX11_difference_4 3 42 rfl)
theorem dX11_difference_68 : decode cX11_difference 68 = .ok (.invokevirtual 88, 3) := @dq_o182 cX11_difference 68 0 88 (qX11_difference_4 4 182 rfl) (qX11_difference_4 5 0 rfl) (qX11_difference_4 6 88 rfl)
theorem dX11_difference_71 : decode cX11_difference 71 = .ok (.iload 5, 2) := @dq_o21 cX11_difference 71 5 (qX11_difference_4 7 21 rfl) (qX11_difference_4 8 5 rfl)
theorem dX11_difference_73 : decode cX11_difference 73 = .ok (.iadd, 1) := @dq_o96 cX11_difference 73 (qX11_difference_4 9 96 rfl)
theorem dX11_difference_74 : decode cX11_difference 74 = .ok (.iaload, 1) := @dq_o46 cX11_difference 74 (qX11_difference_4 10 46 rfl)
theorem dX11_difference_75 : decode cX11_difference 75 = .ok (.i2l, 1) := @dq_o133 cX11_difference 75 (qX11_difference_4 11 133 rfl)
theorem dX11_difference_76 : decode cX11_difference 76 = .ok (.goto 4, 3) := @dq_o167 cX11_difference 76 0 4 (qX11_difference_4 12 167 rfl) (qX11_difference_4 13 0 rfl) (qX11_difference_4 14 4 rfl)
theorem dX11_difference_79 : decode cX11_difference 79 = .ok (.lconst 0, 1) := @dq_o9 cX11_difference 79 (qX11_difference_4 15 9 rfl)
theorem dX11_difference_80 : decode cX11_difference 80 = .ok (.invokevirtual 162, 3) := @dq_o182 cX11_difference 80 0 162 (qX11_difference_5 0 182 rfl) (qX11_difference_5 1 0 rfl) (qX11_difference_5 2 162 rfl)
theorem dX11_difference_83 : decode cX11_difference 83 = .ok (.iinc 5 1, 3) := @dq_o132 cX11_difference 83 5 1 (qX11_difference_5 3 132 rfl) (qX11_difference_5 4 5 rfl) (qX11_difference_5 5 1 rfl)
theorem dX11_difference_86 : decode cX11_difference 86 = .ok (.goto (-73), 3) := @dq_o167 cX11_difference 86 255 183 (qX11_difference_5 6 167 rfl) (qX11_difference_5 7 255 rfl) (qX11_difference_5 8 183 rfl)
theorem dX11_difference_89 : decode cX11_difference 89 = .ok (.aload_n 0, 1) := @dq_o42 cX11_difference 89 (qX11_difference_5 9 42 rfl)
theorem dX11_difference_90 : decode cX11_difference 90 = .ok (.bipush 90, 2) := @dq_o16 cX11_difference 90 90 (qX11_difference_5 10 16 rfl) (qX11_difference_5 11 90 rfl)
theorem dX11_difference_92 : decode cX11_difference 92 = .ok (.bipush 91, 2) := @dq_o16 cX11_difference 92 91 (qX11_difference_5 12 16 rfl) (qX11_difference_5 13 91 rfl)
theorem dX11_difference_94 : decode cX11_difference 94 = .ok (.invokevirtual 197, 3) := @dq_o182 cX11_difference 94 0 197 (qX11_difference_5 14 182 rfl) (qX11_difference_5 15 0 rfl) (qX11_difference_6 0 197 rfl)
theorem dX11_difference_97 : decode cX11_difference 97 = .ok (.lload_n 3, 1) := @dq_o33 cX11_difference 97 (qX11_difference_6 1 33 rfl)
theorem dX11_difference_98 : decode cX11_difference 98 = .ok (.aload_n 0, 1) := @dq_o42 cX11_difference 98 (qX11_difference_6 2 42 rfl)
theorem dX11_difference_99 : decode cX11_difference 99 = .ok (.bipush 90, 2) := @dq_o16 cX11_difference 99 90 (qX11_difference_6 3 16 rfl) (qX11_difference_6 4 90 rfl)
theorem dX11_difference_101 : decode cX11_difference 101 = .ok (.iload_n 1, 1) := @dq_o27 cX11_difference 101 (qX11_difference_6 5 27 rfl)
theorem dX11_difference_102 : decode cX11_difference 102 = .ok (.invokevirtual 166, 3) := @dq_o182 cX11_difference 102 0 166 (qX11_difference_6 6 182 rfl) (qX11_difference_6 7 0 rfl) (qX11_difference_6 8 166 rfl)
theorem dX11_difference_105 : decode cX11_difference 105 = .ok (.lmul, 1) := @dq_o105 cX11_difference 105 (qX11_difference_6 9 105 rfl)
theorem dX11_difference_106 : decode cX11_difference 106 = .ok (.lreturn, 1) := @dq_o173 cX11_difference 106 (qX11_difference_6 10 173 rfl)
theorem dX11_difference_107 : decode cX11_difference 107 = .ok (.lconst 0, 1) := @dq_o9 cX11_difference 107 (qX11_difference_6 11 9 rfl)
theorem dX11_difference_108 : decode cX11_difference 108 = .ok (.lstore 5, 2) := @dq_o55 cX11_difference 108 5 (qX11_difference_6 12 55 rfl) (qX11_difference_6 13 5 rfl)
theorem dX11_difference_110 : decode cX11_difference 110 = .ok (.aload_n 0, 1) := @dq_o42 cX11_difference 110 (qX11_difference_6 14 42 rfl)
theorem dX11_difference_111 : decode cX11_difference 111 = .ok (.getfield 40, 3) := @dq_o180 cX11_difference 111 0 40 (qX11_difference_6 15 180 rfl) (qX11_difference_7 0 0 rfl) (qX11_difference_7 1 40 rfl)
theorem dX11_difference_114 : decode cX11_difference 114 = .ok (.iload_n 2, 1) := @dq_o28 cX11_difference 114 (qX11_difference_7 2 28 rfl)
theorem dX11_difference_115 : decode cX11_difference 115 = .ok (.iaload, 1) := @dq_o46 cX11_difference 115 (qX11_difference_7 3 46 rfl)
theorem dX11_difference_116 : decode cX11_difference 116 = .ok (.istore 7, 2) := @dq_o54 cX11_difference 116 7 (qX11_difference_7 4 54 rfl) (qX11_difference_7 5 7 rfl)
theorem dX11_difference_118 : decode cX11_difference 118 = .ok (.iconst 0, 1) := @dq_o3 cX11_difference 118 (qX11_difference_7 6 3 rfl)
theorem dX11_difference_119 : decode cX11_difference 119 = .ok (.istore 8, 2) := @dq_o54 cX11_difference 119 8 (qX11_difference_7 7 54 rfl) (qX11_difference_7 8 8 rfl)
theorem dX11_difference_121 : decode cX11_difference 121 = .ok (.iload 8, 2) := @dq_o21 cX11_difference 121 8 (qX11_difference_7 9 21 rfl) (qX11_difference_7 10 8 rfl)
theorem dX11_difference_123 : decode cX11_difference 123 = .ok (.iload 7, 2) := @dq_o21 cX11_difference 123 7 (qX11_difference_7 11 21 rfl) (qX11_difference_7 12 7 rfl)
theorem dX11_difference_125 : decode cX11_difference 125 = .ok (.if_icmp .gt 58, 3) := @dq_o163 cX11_difference 125 0 58 (qX11_difference_7 13 163 rfl) (qX11_difference_7 14 0 rfl) (qX11_difference_7 15 58 rfl)
theorem dX11_difference_128 : decode cX11_difference 128 = .ok (.aload_n 0, 1) := @dq_o42 cX11_difference 128 (qX11_difference_8 0 42 rfl)
theorem dX11_difference_129 : decode cX11_difference 129 = .ok (.getfield 43, 3) := @dq_o180 cX11_difference 129 0 43 (qX11_difference_8 1 180 rfl) (qX11_difference_8 2 0 rfl) (qX11_difference_8 3 43 rfl)
theorem dX11_difference_132 : decode cX11_difference 132 = .ok (.iload_n 2, 1) := @dq_o28 cX11_difference 132 (qX11_difference_8 4 28 rfl)
theorem dX11_difference_133 : decode cX11_difference 133 = .ok (.iload 8, 2) := @dq_o21 cX11_difference 133 8 (qX11_difference_8 5 21 rfl) (qX11_difference_8 6 8 rfl)
theorem dX11_difference_135 : decode cX11_difference 135 = .ok (.iastore, 1) := @dq_o79 cX11_difference 135 (qX11_difference_8 7 79 rfl)
theorem dX11_difference_136 : decode cX11_difference 136 = .ok (.lload 5, 2) := @dq_o22 cX11_difference 136 5 (qX11_difference_8 8 22 rfl) (qX11_difference_8 9 5 rfl)
theorem dX11_difference_138 : decode cX11_difference 138 = .ok (.aload_n 0, 1) := @dq_o42 cX11_difference 138 (qX11_difference_8 10 42 rfl)
theorem dX11_difference_139 : decode cX11_difference 139 = .ok (.iload_n 1, 1) := @dq_o27 cX11_difference 139 (qX11_difference_8 11 27 rfl)
theorem dX11_difference_140 : decode cX11_difference 140 = .ok (.iload_n 2, 1) := @dq_o28 cX11_difference 140 (qX11_difference_8 12 28 rfl)
theorem dX11_difference_141 : decode cX11_difference 141 = .ok (.iconst 1, 1) := @dq_o4 cX11_difference 141 (qX11_difference_8 13 4 rfl)
theorem dX11_difference_142 : decode cX11_difference 142 = .ok (.iadd, 1) := @dq_o96 cX11_difference 142 (qX11_difference_8 14 96 rfl)
theorem dX11_difference_143 : decode cX11_difference 143 = .ok (.lload_n 3, 1) := @dq_o33 cX11_difference 143 (qX11_difference_8 15 33 rfl)
theorem dX11_difference_144 : decode cX11_difference 144 = .ok (.aload_n 0, 1) := @dq_o42 cX11_difference 144 (qX11_difference_9 0 42 rfl)
theorem dX11_difference_145 : decode cX11_difference 145 = .ok (.iload 7, 2) := @dq_o21 cX11_difference 145 7 (qX11_difference_9 1 21 rfl) (qX11_difference_9 2 7 rfl)
theorem dX11_difference_147 : decode cX11_difference 147 = .ok (.iload 8, 2) := @dq_o21 cX11_difference 147 8 (qX11_difference_9 3 21 rfl) (qX11_difference_9 4 8 rfl)
theorem dX11_difference_149 : decode cX11_difference 149 = .ok (.invokevirtual 218, 3) := @dq_o182 cX11_difference 149 0 218 (qX11_difference_9 5 182 rfl) (qX11_difference_9 6 0 rfl) (qX11_difference_9 7 218 rfl)
theorem dX11_difference_152 : decode cX11_difference 152 = .ok (.lmul, 1) := @dq_o105 cX11_difference 152 (qX11_difference_9 8 105 rfl)
theorem dX11_difference_153 : decode cX11_difference 153 = .ok (.iload 7, 2) := @dq_o21 cX11_difference 153 7 (qX11_difference_9 9 21 rfl) (qX11_difference_9 10 7 rfl)
theorem dX11_difference_155 : decode cX11_difference 155 = .ok (.iload 8, 2) := @dq_o21 cX11_difference 155 8 (qX11_difference_9 11 21 rfl) (qX11_difference_9 12 8 rfl)
theorem dX11_difference_157 : decode cX11_difference 157 = .ok (.isub, 1) := @dq_o100 cX11_difference 157 (qX11_difference_9 13 100 rfl)
theorem dX11_difference_158 : decode cX11_difference 158 = .ok (.iconst 2, 1) := @dq_o5 cX11_difference 158 (qX11_difference_9 14 5 rfl)
theorem dX11_difference_159 : decode cX11_difference 159 = .ok (.irem, 1) := @dq_o112 cX11_difference 159 (qX11_difference_9 15 112 rfl)
theorem dX11_difference_160 : decode cX11_difference 160 = .ok (.ifCond .ne 7, 3) := @dq_o154 cX11_difference 160 0 7 (qX11_difference_10 0 154 rfl) (qX11_difference_10 1 0 rfl) (qX11_difference_10 2 7 rfl)
theorem dX11_difference_163 : decode cX11_difference 163 = .ok (.lconst 1, 1) := @dq_o10 cX11_difference 163 (qX11_difference_10 3 10 rfl)
theorem dX11_difference_164 : decode cX11_difference 164 = .ok (.goto 6, 3) := @dq_o167 cX11_difference 164 0 6 (qX11_difference_10 4 167 rfl) (qX11_difference_10 5 0 rfl) (qX11_difference_10 6 6 rfl)
theorem dX11_difference_167 : decode cX11_difference 167 = .ok (.ldc2_w 221, 3) := @dq_o20 cX11_difference 167 0 221 (qX11_difference_10 7 20 rfl) (qX11_difference_10 8 0 rfl) (qX11_difference_10 9 221 rfl)
theorem dX11_difference_170 : decode cX11_difference 170 = .ok (.lmul, 1) := @dq_o105 cX11_difference 170 (qX11_difference_10 10 105 rfl)
theorem dX11_difference_171 : decode cX11_difference 171 = .ok (.invokevirtual 211, 3) := @dq_o182 cX11_difference 171 0 211 (qX11_difference_10 11 182 rfl) (qX11_difference_10 12 0 rfl) (qX11_difference_10 13 211 rfl)
theorem dX11_difference_174 : decode cX11_difference 174 = .ok (.ladd, 1) := @dq_o97 cX11_difference 174 (qX11_difference_10 14 97 rfl)
theorem dX11_difference_175 : decode cX11_difference 175 = .ok (.lstore 5, 2) := @dq_o55 cX11_difference 175 5 (qX11_difference_10 15 55 rfl) (qX11_difference_11 0 5 rfl)
theorem dX11_difference_177 : decode cX11_difference 177 = .ok (.iinc 8 1, 3) := @dq_o132 cX11_difference 177 8 1 (qX11_difference_11 1 132 rfl) (qX11_difference_11 2 8 rfl) (qX11_difference_11 3 1 rfl)
theorem dX11_difference_180 : decode cX11_difference 180 = .ok (.goto (-59), 3) := @dq_o167 cX11_difference 180 255 197 (qX11_difference_11 4 167 rfl) (qX11_difference_11 5 255 rfl) (qX11_difference_11 6 197 rfl)
theorem dX11_difference_183 : decode cX11_difference 183 = .ok (.lload 5, 2) := @dq_o22 cX11_difference 183 5 (qX11_difference_11 7 22 rfl) (qX11_difference_11 8 5 rfl)
theorem dX11_difference_185 : decode cX11_difference 185 = .ok (.lreturn, 1) := @dq_o173 cX11_difference 185 (qX11_difference_11 9 173 rfl)
abbrev qaX11_isRegister_0 : List Nat := [42, 27, 133, 9, 20, 0, 223, 182, 0, 101, 172]
def qtX11_isRegister_1 : List Nat := []
def qtX11_isRegister_0 : List Nat := qaX11_isRegister_0 ++ qtX11_isRegister_1
theorem qeX11_isRegister : cX11_isRegister.data.toList.map UInt8.toNat = qtX11_isRegister_0 := by decide +kernel
theorem qsX11_isRegister_0 : ∀ i, dqNth qtX11_isRegister_0 (0 + i) = dqNth qtX11_isRegister_0 i := fun i => by rw [Nat.zero_add]
theorem qX11_isRegister_0 (i b : Nat) (h : dqNth qaX11_isRegister_0 i = some b) : DqBy cX11_isRegister (0 + i) b := dqBy_of qeX11_isRegister ((qsX11_isRegister_0 i).trans (dq_in h))
theorem dX11_isRegister_0 : decode cX11_isRegister 0 = .ok (.aload_n 0, 1) := @dq_o42 cX11_isRegister 0 (qX11_isRegister_0 0 42 rfl)
theorem dX11_isRegister_1 : decode cX11_isRegister 1 = .ok (.iload_n 1, 1) := @dq_o27 cX11_isRegister 1 (qX11_isRegister_0 1 27 rfl)
theorem dX11_isRegister_2 : decode cX11_isRegister 2 = .ok (.i2l, 1) := @dq_o133 cX11_isRegister 2 (qX11_isRegister_0 2 133 rfl)
theorem dX11_isRegister_3 : decode cX11_isRegister 3 = .ok (.lconst 0, 1) := @dq_o9 cX11_isRegister 3 (qX11_isRegister_0 3 9 rfl)
theorem dX11_isRegister_4 : decode cX11_isRegister 4 = .ok (.ldc2_w 223, 3) := @dq_o20 cX11_isRegister 4 0 223 (qX11_isRegister_0 4 20 rfl) (qX11_isRegister_0 5 0 rfl) (qX11_isRegister_0 6 223 rfl)
theorem dX11_isRegister_7 : decode cX11_isRegister 7 = .ok (.invokevirtual 101, 3) := @dq_o182 cX11_isRegister 7 0 101 (qX11_isRegister_0 7 182 rfl) (qX11_isRegister_0 8 0 rfl) (qX11_isRegister_0 9 101 rfl)
theorem dX11_isRegister_10 : decode cX11_isRegister 10 = .ok (.ireturn, 1) := @dq_o172 cX11_isRegister 10 (qX11_isRegister_0 10 172 rfl)
abbrev qaX11_gives_0 : List Nat := [42, 28, 182, 0, 225, 154, 0, 15, 42, 42, 180, 0, 229, 4, 96, 181]
abbrev qaX11_gives_1 : List Nat := [0, 229, 3, 172, 42, 182, 0, 109, 3, 62, 29, 16, 6, 162, 0, 43]
abbrev qaX11_gives_2 : List Nat := [42, 180, 0, 13, 17, 0, 223, 16, 6, 27, 104, 96, 29, 96, 29, 42]
abbrev qaX11_gives_3 : List Nat := [182, 0, 88, 162, 0, 13, 42, 28, 29, 182, 0, 166, 136, 167, 0, 4]
abbrev qaX11_gives_4 : List Nat := [3, 79, 132, 3, 1, 167, 255, 213, 4, 172]
def qtX11_gives_5 : List Nat := []
def qtX11_gives_4 : List Nat := qaX11_gives_4 ++ qtX11_gives_5
def qtX11_gives_3 : List Nat := qaX11_gives_3 ++ qtX11_gives_4
def qtX11_gives_2 : List Nat := qaX11_gives_2 ++ qtX11_gives_3
def qtX11_gives_1 : List Nat := qaX11_gives_1 ++ qtX11_gives_2
def qtX11_gives_0 : List Nat := qaX11_gives_0 ++ qtX11_gives_1
theorem qeX11_gives : cX11_gives.data.toList.map UInt8.toNat = qtX11_gives_0 := by decide +kernel
theorem qsX11_gives_0 : ∀ i, dqNth qtX11_gives_0 (0 + i) = dqNth qtX11_gives_0 i := fun i => by rw [Nat.zero_add]
theorem qsX11_gives_1 : ∀ i, dqNth qtX11_gives_0 (16 + i) = dqNth qtX11_gives_1 i := dq_step qsX11_gives_0 rfl rfl
theorem qsX11_gives_2 : ∀ i, dqNth qtX11_gives_0 (32 + i) = dqNth qtX11_gives_2 i := dq_step qsX11_gives_1 rfl rfl
theorem qsX11_gives_3 : ∀ i, dqNth qtX11_gives_0 (48 + i) = dqNth qtX11_gives_3 i := dq_step qsX11_gives_2 rfl rfl
theorem qsX11_gives_4 : ∀ i, dqNth qtX11_gives_0 (64 + i) = dqNth qtX11_gives_4 i := dq_step qsX11_gives_3 rfl rfl
theorem qX11_gives_0 (i b : Nat) (h : dqNth qaX11_gives_0 i = some b) : DqBy cX11_gives (0 + i) b := dqBy_of qeX11_gives ((qsX11_gives_0 i).trans (dq_in h))
theorem qX11_gives_1 (i b : Nat) (h : dqNth qaX11_gives_1 i = some b) : DqBy cX11_gives (16 + i) b := dqBy_of qeX11_gives ((qsX11_gives_1 i).trans (dq_in h))
theorem qX11_gives_2 (i b : Nat) (h : dqNth qaX11_gives_2 i = some b) : DqBy cX11_gives (32 + i) b := dqBy_of qeX11_gives ((qsX11_gives_2 i).trans (dq_in h))
theorem qX11_gives_3 (i b : Nat) (h : dqNth qaX11_gives_3 i = some b) : DqBy cX11_gives (48 + i) b := dqBy_of qeX11_gives ((qsX11_gives_3 i).trans (dq_in h))
theorem qX11_gives_4 (i b : Nat) (h : dqNth qaX11_gives_4 i = some b) : DqBy cX11_gives (64 + i) b := dqBy_of qeX11_gives ((qsX11_gives_4 i).trans (dq_in h))
theorem dX11_gives_0 : decode cX11_gives 0 = .ok (.aload_n 0, 1) := @dq_o42 cX11_gives 0 (qX11_gives_0 0 42 rfl)
theorem dX11_gives_1 : decode cX11_gives 1 = .ok (.iload_n 2, 1) := @dq_o28 cX11_gives 1 (qX11_gives_0 1 28 rfl)
theorem dX11_gives_2 : decode cX11_gives 2 = .ok (.invokevirtual 225, 3) := @dq_o182 cX11_gives 2 0 225 (qX11_gives_0 2 182 rfl) (qX11_gives_0 3 0 rfl) (qX11_gives_0 4 225 rfl)
theorem dX11_gives_5 : decode cX11_gives 5 = .ok (.ifCond .ne 15, 3) := @dq_o154 cX11_gives 5 0 15 (qX11_gives_0 5 154 rfl) (qX11_gives_0 6 0 rfl) (qX11_gives_0 7 15 rfl)
theorem dX11_gives_8 : decode cX11_gives 8 = .ok (.aload_n 0, 1) := @dq_o42 cX11_gives 8 (qX11_gives_0 8 42 rfl)
theorem dX11_gives_9 : decode cX11_gives 9 = .ok (.aload_n 0, 1) := @dq_o42 cX11_gives 9 (qX11_gives_0 9 42 rfl)
theorem dX11_gives_10 : decode cX11_gives 10 = .ok (.getfield 229, 3) := @dq_o180 cX11_gives 10 0 229 (qX11_gives_0 10 180 rfl) (qX11_gives_0 11 0 rfl) (qX11_gives_0 12 229 rfl)
theorem dX11_gives_13 : decode cX11_gives 13 = .ok (.iconst 1, 1) := @dq_o4 cX11_gives 13 (qX11_gives_0 13 4 rfl)
theorem dX11_gives_14 : decode cX11_gives 14 = .ok (.iadd, 1) := @dq_o96 cX11_gives 14 (qX11_gives_0 14 96 rfl)
theorem dX11_gives_15 : decode cX11_gives 15 = .ok (.putfield 229, 3) := @dq_o181 cX11_gives 15 0 229 (qX11_gives_0 15 181 rfl) (qX11_gives_1 0 0 rfl) (qX11_gives_1 1 229 rfl)
theorem dX11_gives_18 : decode cX11_gives 18 = .ok (.iconst 0, 1) := @dq_o3 cX11_gives 18 (qX11_gives_1 2 3 rfl)
theorem dX11_gives_19 : decode cX11_gives 19 = .ok (.ireturn, 1) := @dq_o172 cX11_gives 19 (qX11_gives_1 3 172 rfl)
theorem dX11_gives_20 : decode cX11_gives 20 = .ok (.aload_n 0, 1) := @dq_o42 cX11_gives 20 (qX11_gives_1 4 42 rfl)
theorem dX11_gives_21 : decode cX11_gives 21 = .ok (.invokevirtual 109, 3) := @dq_o182 cX11_gives 21 0 109 (qX11_gives_1 5 182 rfl) (qX11_gives_1 6 0 rfl) (qX11_gives_1 7 109 rfl)
theorem dX11_gives_24 : decode cX11_gives 24 = .ok (.iconst 0, 1) := @dq_o3 cX11_gives 24 (qX11_gives_1 8 3 rfl)
theorem dX11_gives_25 : decode cX11_gives 25 = .ok (.istore_n 3, 1) := @dq_o62 cX11_gives 25 (qX11_gives_1 9 62 rfl)
theorem dX11_gives_26 : decode cX11_gives 26 = .ok (.iload_n 3, 1) := @dq_o29 cX11_gives 26 (qX11_gives_1 10 29 rfl)
theorem dX11_gives_27 : decode cX11_gives 27 = .ok (.bipush 6, 2) := @dq_o16 cX11_gives 27 6 (qX11_gives_1 11 16 rfl) (qX11_gives_1 12 6 rfl)
theorem dX11_gives_29 : decode cX11_gives 29 = .ok (.if_icmp .ge 43, 3) := @dq_o162 cX11_gives 29 0 43 (qX11_gives_1 13 162 rfl) (qX11_gives_1 14 0 rfl) (qX11_gives_1 15 43 rfl)
theorem dX11_gives_32 : decode cX11_gives 32 = .ok (.aload_n 0, 1) := @dq_o42 cX11_gives 32 (qX11_gives_2 0 42 rfl)
theorem dX11_gives_33 : decode cX11_gives 33 = .ok (.getfield 13, 3) := @dq_o180 cX11_gives 33 0 13 (qX11_gives_2 1 180 rfl) (qX11_gives_2 2 0 rfl) (qX11_gives_2 3 13 rfl)
theorem dX11_gives_36 : decode cX11_gives 36 = .ok (.sipush 223, 3) := @dq_o17 cX11_gives 36 0 223 (qX11_gives_2 4 17 rfl) (qX11_gives_2 5 0 rfl) (qX11_gives_2 6 223 rfl)
theorem dX11_gives_39 : decode cX11_gives 39 = .ok (.bipush 6, 2) := @dq_o16 cX11_gives 39 6 (qX11_gives_2 7 16 rfl) (qX11_gives_2 8 6 rfl)
theorem dX11_gives_41 : decode cX11_gives 41 = .ok (.iload_n 1, 1) := @dq_o27 cX11_gives 41 (qX11_gives_2 9 27 rfl)
theorem dX11_gives_42 : decode cX11_gives 42 = .ok (.imul, 1) := @dq_o104 cX11_gives 42 (qX11_gives_2 10 104 rfl)
theorem dX11_gives_43 : decode cX11_gives 43 = .ok (.iadd, 1) := @dq_o96 cX11_gives 43 (qX11_gives_2 11 96 rfl)
theorem dX11_gives_44 : decode cX11_gives 44 = .ok (.iload_n 3, 1) := @dq_o29 cX11_gives 44 (qX11_gives_2 12 29 rfl)
theorem dX11_gives_45 : decode cX11_gives 45 = .ok (.iadd, 1) := @dq_o96 cX11_gives 45 (qX11_gives_2 13 96 rfl)
theorem dX11_gives_46 : decode cX11_gives 46 = .ok (.iload_n 3, 1) := @dq_o29 cX11_gives 46 (qX11_gives_2 14 29 rfl)
theorem dX11_gives_47 : decode cX11_gives 47 = .ok (.aload_n 0, 1) := @dq_o42 cX11_gives 47 (qX11_gives_2 15 42 rfl)
theorem dX11_gives_48 : decode cX11_gives 48 = .ok (.invokevirtual 88, 3) := @dq_o182 cX11_gives 48 0 88 (qX11_gives_3 0 182 rfl) (qX11_gives_3 1 0 rfl) (qX11_gives_3 2 88 rfl)
theorem dX11_gives_51 : decode cX11_gives 51 = .ok (.if_icmp .ge 13, 3) := @dq_o162 cX11_gives 51 0 13 (qX11_gives_3 3 162 rfl) (qX11_gives_3 4 0 rfl) (qX11_gives_3 5 13 rfl)
theorem dX11_gives_54 : decode cX11_gives 54 = .ok (.aload_n 0, 1) := @dq_o42 cX11_gives 54 (qX11_gives_3 6 42 rfl)
theorem dX11_gives_55 : decode cX11_gives 55 = .ok (.iload_n 2, 1) := @dq_o28 cX11_gives 55 (qX11_gives_3 7 28 rfl)
theorem dX11_gives_56 : decode cX11_gives 56 = .ok (.iload_n 3, 1) := @dq_o29 cX11_gives 56 (qX11_gives_3 8 29 rfl)
theorem dX11_gives_57 : decode cX11_gives 57 = .ok (.invokevirtual 166, 3) := @dq_o182 cX11_gives 57 0 166 (qX11_gives_3 9 182 rfl) (qX11_gives_3 10 0 rfl) (qX11_gives_3 11 166 rfl)
theorem dX11_gives_60 : decode cX11_gives 60 = .ok (.l2i, 1) := @dq_o136 cX11_gives 60 (qX11_gives_3 12 136 rfl)
theorem dX11_gives_61 : decode cX11_gives 61 = .ok (.goto 4, 3) := @dq_o167 cX11_gives 61 0 4 (qX11_gives_3 13 167 rfl) (qX11_gives_3 14 0 rfl) (qX11_gives_3 15 4 rfl)
theorem dX11_gives_64 : decode cX11_gives 64 = .ok (.iconst 0, 1) := @dq_o3 cX11_gives 64 (qX11_gives_4 0 3 rfl)
theorem dX11_gives_65 : decode cX11_gives 65 = .ok (.iastore, 1) := @dq_o79 cX11_gives 65 (qX11_gives_4 1 79 rfl)
theorem dX11_gives_66 : decode cX11_gives 66 = .ok (.iinc 3 1, 3) := @dq_o132 cX11_gives 66 3 1 (qX11_gives_4 2 132 rfl) (qX11_gives_4 3 3 rfl) (qX11_gives_4 4 1 rfl)
theorem dX11_gives_69 : decode cX11_gives 69 = .ok (.goto (-43), 3) := @dq_o167 cX11_gives 69 255 213 (qX11_gives_4 5 167 rfl) (qX11_gives_4 6 255 rfl) (qX11_gives_4 7 213 rfl)
theorem dX11_gives_72 : decode cX11_gives 72 = .ok (.iconst 1, 1) := @dq_o4 cX11_gives 72 (qX11_gives_4 8 4 rfl)
theorem dX11_gives_73 : decode cX11_gives 73 = .ok (.ireturn, 1) := @dq_o172 cX11_gives 73 (qX11_gives_4 9 172 rfl)
abbrev qaX11_can_0 : List Nat := [42, 3, 181, 0, 1, 42, 27, 182, 0, 232, 153, 0, 30, 42, 28, 182]
abbrev qaX11_can_1 : List Nat := [0, 232, 153, 0, 22, 42, 29, 182, 0, 232, 153, 0, 14, 42, 182, 0]
abbrev qaX11_can_2 : List Nat := [235, 153, 0, 7, 4, 167, 0, 4, 3, 172]
def qtX11_can_3 : List Nat := []
def qtX11_can_2 : List Nat := qaX11_can_2 ++ qtX11_can_3
def qtX11_can_1 : List Nat := qaX11_can_1 ++ qtX11_can_2
def qtX11_can_0 : List Nat := qaX11_can_0 ++ qtX11_can_1
theorem qeX11_can : cX11_can.data.toList.map UInt8.toNat = qtX11_can_0 := by decide +kernel
theorem qsX11_can_0 : ∀ i, dqNth qtX11_can_0 (0 + i) = dqNth qtX11_can_0 i := fun i => by rw [Nat.zero_add]
theorem qsX11_can_1 : ∀ i, dqNth qtX11_can_0 (16 + i) = dqNth qtX11_can_1 i := dq_step qsX11_can_0 rfl rfl
theorem qsX11_can_2 : ∀ i, dqNth qtX11_can_0 (32 + i) = dqNth qtX11_can_2 i := dq_step qsX11_can_1 rfl rfl
theorem qX11_can_0 (i b : Nat) (h : dqNth qaX11_can_0 i = some b) : DqBy cX11_can (0 + i) b := dqBy_of qeX11_can ((qsX11_can_0 i).trans (dq_in h))
theorem qX11_can_1 (i b : Nat) (h : dqNth qaX11_can_1 i = some b) : DqBy cX11_can (16 + i) b := dqBy_of qeX11_can ((qsX11_can_1 i).trans (dq_in h))
theorem qX11_can_2 (i b : Nat) (h : dqNth qaX11_can_2 i = some b) : DqBy cX11_can (32 + i) b := dqBy_of qeX11_can ((qsX11_can_2 i).trans (dq_in h))
theorem dX11_can_0 : decode cX11_can 0 = .ok (.aload_n 0, 1) := @dq_o42 cX11_can 0 (qX11_can_0 0 42 rfl)
theorem dX11_can_1 : decode cX11_can 1 = .ok (.iconst 0, 1) := @dq_o3 cX11_can 1 (qX11_can_0 1 3 rfl)
theorem dX11_can_2 : decode cX11_can 2 = .ok (.putfield 1, 3) := @dq_o181 cX11_can 2 0 1 (qX11_can_0 2 181 rfl) (qX11_can_0 3 0 rfl) (qX11_can_0 4 1 rfl)
theorem dX11_can_5 : decode cX11_can 5 = .ok (.aload_n 0, 1) := @dq_o42 cX11_can 5 (qX11_can_0 5 42 rfl)
theorem dX11_can_6 : decode cX11_can 6 = .ok (.iload_n 1, 1) := @dq_o27 cX11_can 6 (qX11_can_0 6 27 rfl)
theorem dX11_can_7 : decode cX11_can 7 = .ok (.invokevirtual 232, 3) := @dq_o182 cX11_can 7 0 232 (qX11_can_0 7 182 rfl) (qX11_can_0 8 0 rfl) (qX11_can_0 9 232 rfl)
theorem dX11_can_10 : decode cX11_can 10 = .ok (.ifCond .eq 30, 3) := @dq_o153 cX11_can 10 0 30 (qX11_can_0 10 153 rfl) (qX11_can_0 11 0 rfl) (qX11_can_0 12 30 rfl)
theorem dX11_can_13 : decode cX11_can 13 = .ok (.aload_n 0, 1) := @dq_o42 cX11_can 13 (qX11_can_0 13 42 rfl)
theorem dX11_can_14 : decode cX11_can 14 = .ok (.iload_n 2, 1) := @dq_o28 cX11_can 14 (qX11_can_0 14 28 rfl)
theorem dX11_can_15 : decode cX11_can 15 = .ok (.invokevirtual 232, 3) := @dq_o182 cX11_can 15 0 232 (qX11_can_0 15 182 rfl) (qX11_can_1 0 0 rfl) (qX11_can_1 1 232 rfl)
theorem dX11_can_18 : decode cX11_can 18 = .ok (.ifCond .eq 22, 3) := @dq_o153 cX11_can 18 0 22 (qX11_can_1 2 153 rfl) (qX11_can_1 3 0 rfl) (qX11_can_1 4 22 rfl)
theorem dX11_can_21 : decode cX11_can 21 = .ok (.aload_n 0, 1) := @dq_o42 cX11_can 21 (qX11_can_1 5 42 rfl)
theorem dX11_can_22 : decode cX11_can 22 = .ok (.iload_n 3, 1) := @dq_o29 cX11_can 22 (qX11_can_1 6 29 rfl)
theorem dX11_can_23 : decode cX11_can 23 = .ok (.invokevirtual 232, 3) := @dq_o182 cX11_can 23 0 232 (qX11_can_1 7 182 rfl) (qX11_can_1 8 0 rfl) (qX11_can_1 9 232 rfl)
theorem dX11_can_26 : decode cX11_can 26 = .ok (.ifCond .eq 14, 3) := @dq_o153 cX11_can 26 0 14 (qX11_can_1 10 153 rfl) (qX11_can_1 11 0 rfl) (qX11_can_1 12 14 rfl)
theorem dX11_can_29 : decode cX11_can 29 = .ok (.aload_n 0, 1) := @dq_o42 cX11_can 29 (qX11_can_1 13 42 rfl)
theorem dX11_can_30 : decode cX11_can 30 = .ok (.invokevirtual 235, 3) := @dq_o182 cX11_can 30 0 235 (qX11_can_1 14 182 rfl) (qX11_can_1 15 0 rfl) (qX11_can_2 0 235 rfl)
theorem dX11_can_33 : decode cX11_can 33 = .ok (.ifCond .eq 7, 3) := @dq_o153 cX11_can 33 0 7 (qX11_can_2 1 153 rfl) (qX11_can_2 2 0 rfl) (qX11_can_2 3 7 rfl)
theorem dX11_can_36 : decode cX11_can 36 = .ok (.iconst 1, 1) := @dq_o4 cX11_can 36 (qX11_can_2 4 4 rfl)
theorem dX11_can_37 : decode cX11_can 37 = .ok (.goto 4, 3) := @dq_o167 cX11_can 37 0 4 (qX11_can_2 5 167 rfl) (qX11_can_2 6 0 rfl) (qX11_can_2 7 4 rfl)
theorem dX11_can_40 : decode cX11_can 40 = .ok (.iconst 0, 1) := @dq_o3 cX11_can 40 (qX11_can_2 8 3 rfl)
theorem dX11_can_41 : decode cX11_can 41 = .ok (.ireturn, 1) := @dq_o172 cX11_can 41 (qX11_can_2 9 172 rfl)
abbrev qaX11_set_0 : List Nat := [42, 27, 3, 3, 182, 0, 238, 153, 0, 33, 42, 28, 133, 10, 42, 182]
abbrev qaX11_set_1 : List Nat := [0, 88, 133, 182, 0, 101, 153, 0, 18, 42, 29, 133, 20, 0, 203, 20]
abbrev qaX11_set_2 : List Nat := [0, 205, 182, 0, 101, 154, 0, 5, 3, 172, 42, 3, 27, 182, 0, 241]
abbrev qaX11_set_3 : List Nat := [42, 3, 28, 4, 100, 29, 133, 182, 0, 162, 42, 27, 3, 182, 0, 244]
abbrev qaX11_set_4 : List Nat := [172]
def qtX11_set_5 : List Nat := []
def qtX11_set_4 : List Nat := qaX11_set_4 ++ qtX11_set_5
def qtX11_set_3 : List Nat := qaX11_set_3 ++ qtX11_set_4
def qtX11_set_2 : List Nat := qaX11_set_2 ++ qtX11_set_3
def qtX11_set_1 : List Nat := qaX11_set_1 ++ qtX11_set_2
def qtX11_set_0 : List Nat := qaX11_set_0 ++ qtX11_set_1
theorem qeX11_set : cX11_set.data.toList.map UInt8.toNat = qtX11_set_0 := by decide +kernel
theorem qsX11_set_0 : ∀ i, dqNth qtX11_set_0 (0 + i) = dqNth qtX11_set_0 i := fun i => by rw [Nat.zero_add]
theorem qsX11_set_1 : ∀ i, dqNth qtX11_set_0 (16 + i) = dqNth qtX11_set_1 i := dq_step qsX11_set_0 rfl rfl
theorem qsX11_set_2 : ∀ i, dqNth qtX11_set_0 (32 + i) = dqNth qtX11_set_2 i := dq_step qsX11_set_1 rfl rfl
theorem qsX11_set_3 : ∀ i, dqNth qtX11_set_0 (48 + i) = dqNth qtX11_set_3 i := dq_step qsX11_set_2 rfl rfl
theorem qsX11_set_4 : ∀ i, dqNth qtX11_set_0 (64 + i) = dqNth qtX11_set_4 i := dq_step qsX11_set_3 rfl rfl
theorem qX11_set_0 (i b : Nat) (h : dqNth qaX11_set_0 i = some b) : DqBy cX11_set (0 + i) b := dqBy_of qeX11_set ((qsX11_set_0 i).trans (dq_in h))
theorem qX11_set_1 (i b : Nat) (h : dqNth qaX11_set_1 i = some b) : DqBy cX11_set (16 + i) b := dqBy_of qeX11_set ((qsX11_set_1 i).trans (dq_in h))
theorem qX11_set_2 (i b : Nat) (h : dqNth qaX11_set_2 i = some b) : DqBy cX11_set (32 + i) b := dqBy_of qeX11_set ((qsX11_set_2 i).trans (dq_in h))
theorem qX11_set_3 (i b : Nat) (h : dqNth qaX11_set_3 i = some b) : DqBy cX11_set (48 + i) b := dqBy_of qeX11_set ((qsX11_set_3 i).trans (dq_in h))
theorem qX11_set_4 (i b : Nat) (h : dqNth qaX11_set_4 i = some b) : DqBy cX11_set (64 + i) b := dqBy_of qeX11_set ((qsX11_set_4 i).trans (dq_in h))
theorem dX11_set_0 : decode cX11_set 0 = .ok (.aload_n 0, 1) := @dq_o42 cX11_set 0 (qX11_set_0 0 42 rfl)
theorem dX11_set_1 : decode cX11_set 1 = .ok (.iload_n 1, 1) := @dq_o27 cX11_set 1 (qX11_set_0 1 27 rfl)
theorem dX11_set_2 : decode cX11_set 2 = .ok (.iconst 0, 1) := @dq_o3 cX11_set 2 (qX11_set_0 2 3 rfl)
theorem dX11_set_3 : decode cX11_set 3 = .ok (.iconst 0, 1) := @dq_o3 cX11_set 3 (qX11_set_0 3 3 rfl)
theorem dX11_set_4 : decode cX11_set 4 = .ok (.invokevirtual 238, 3) := @dq_o182 cX11_set 4 0 238 (qX11_set_0 4 182 rfl) (qX11_set_0 5 0 rfl) (qX11_set_0 6 238 rfl)
theorem dX11_set_7 : decode cX11_set 7 = .ok (.ifCond .eq 33, 3) := @dq_o153 cX11_set 7 0 33 (qX11_set_0 7 153 rfl) (qX11_set_0 8 0 rfl) (qX11_set_0 9 33 rfl)
theorem dX11_set_10 : decode cX11_set 10 = .ok (.aload_n 0, 1) := @dq_o42 cX11_set 10 (qX11_set_0 10 42 rfl)
theorem dX11_set_11 : decode cX11_set 11 = .ok (.iload_n 2, 1) := @dq_o28 cX11_set 11 (qX11_set_0 11 28 rfl)
theorem dX11_set_12 : decode cX11_set 12 = .ok (.i2l, 1) := @dq_o133 cX11_set 12 (qX11_set_0 12 133 rfl)
theorem dX11_set_13 : decode cX11_set 13 = .ok (.lconst 1, 1) := @dq_o10 cX11_set 13 (qX11_set_0 13 10 rfl)
theorem dX11_set_14 : decode cX11_set 14 = .ok (.aload_n 0, 1) := @dq_o42 cX11_set 14 (qX11_set_0 14 42 rfl)
theorem dX11_set_15 : decode cX11_set 15 = .ok (.invokevirtual 88, 3) := @dq_o182 cX11_set 15 0 88 (qX11_set_0 15 182 rfl) (qX11_set_1 0 0 rfl) (qX11_set_1 1 88 rfl)
theorem dX11_set_18 : decode cX11_set 18 = .ok (.i2l, 1) := @dq_o133 cX11_set 18 (qX11_set_1 2 133 rfl)
theorem dX11_set_19 : decode cX11_set 19 = .ok (.invokevirtual 101, 3) := @dq_o182 cX11_set 19 0 101 (qX11_set_1 3 182 rfl) (qX11_set_1 4 0 rfl) (qX11_set_1 5 101 rfl)
theorem dX11_set_22 : decode cX11_set 22 = .ok (.ifCond .eq 18, 3) := @dq_o153 cX11_set 22 0 18 (qX11_set_1 6 153 rfl) (qX11_set_1 7 0 rfl) (qX11_set_1 8 18 rfl)
theorem dX11_set_25 : decode cX11_set 25 = .ok (.aload_n 0, 1) := @dq_o42 cX11_set 25 (qX11_set_1 9 42 rfl)
theorem dX11_set_26 : decode cX11_set 26 = .ok (.iload_n 3, 1) := @dq_o29 cX11_set 26 (qX11_set_1 10 29 rfl)
theorem dX11_set_27 : decode cX11_set 27 = .ok (.i2l, 1) := @dq_o133 cX11_set 27 (qX11_set_1 11 133 rfl)
theorem dX11_set_28 : decode cX11_set 28 = .ok (.ldc2_w 203, 3) := @dq_o20 cX11_set 28 0 203 (qX11_set_1 12 20 rfl) (qX11_set_1 13 0 rfl) (qX11_set_1 14 203 rfl)
theorem dX11_set_31 : decode cX11_set 31 = .ok (.ldc2_w 205, 3) := @dq_o20 cX11_set 31 0 205 (qX11_set_1 15 20 rfl) (qX11_set_2 0 0 rfl) (qX11_set_2 1 205 rfl)
theorem dX11_set_34 : decode cX11_set 34 = .ok (.invokevirtual 101, 3) := @dq_o182 cX11_set 34 0 101 (qX11_set_2 2 182 rfl) (qX11_set_2 3 0 rfl) (qX11_set_2 4 101 rfl)
theorem dX11_set_37 : decode cX11_set 37 = .ok (.ifCond .ne 5, 3) := @dq_o154 cX11_set 37 0 5 (qX11_set_2 5 154 rfl) (qX11_set_2 6 0 rfl) (qX11_set_2 7 5 rfl)
theorem dX11_set_40 : decode cX11_set 40 = .ok (.iconst 0, 1) := @dq_o3 cX11_set 40 (qX11_set_2 8 3 rfl)
theorem dX11_set_41 : decode cX11_set 41 = .ok (.ireturn, 1) := @dq_o172 cX11_set 41 (qX11_set_2 9 172 rfl)
theorem dX11_set_42 : decode cX11_set 42 = .ok (.aload_n 0, 1) := @dq_o42 cX11_set 42 (qX11_set_2 10 42 rfl)
theorem dX11_set_43 : decode cX11_set 43 = .ok (.iconst 0, 1) := @dq_o3 cX11_set 43 (qX11_set_2 11 3 rfl)
theorem dX11_set_44 : decode cX11_set 44 = .ok (.iload_n 1, 1) := @dq_o27 cX11_set 44 (qX11_set_2 12 27 rfl)
theorem dX11_set_45 : decode cX11_set 45 = .ok (.invokevirtual 241, 3) := @dq_o182 cX11_set 45 0 241 (qX11_set_2 13 182 rfl) (qX11_set_2 14 0 rfl) (qX11_set_2 15 241 rfl)
theorem dX11_set_48 : decode cX11_set 48 = .ok (.aload_n 0, 1) := @dq_o42 cX11_set 48 (qX11_set_3 0 42 rfl)
theorem dX11_set_49 : decode cX11_set 49 = .ok (.iconst 0, 1) := @dq_o3 cX11_set 49 (qX11_set_3 1 3 rfl)
theorem dX11_set_50 : decode cX11_set 50 = .ok (.iload_n 2, 1) := @dq_o28 cX11_set 50 (qX11_set_3 2 28 rfl)
theorem dX11_set_51 : decode cX11_set 51 = .ok (.iconst 1, 1) := @dq_o4 cX11_set 51 (qX11_set_3 3 4 rfl)
theorem dX11_set_52 : decode cX11_set 52 = .ok (.isub, 1) := @dq_o100 cX11_set 52 (qX11_set_3 4 100 rfl)
theorem dX11_set_53 : decode cX11_set 53 = .ok (.iload_n 3, 1) := @dq_o29 cX11_set 53 (qX11_set_3 5 29 rfl)
theorem dX11_set_54 : decode cX11_set 54 = .ok (.i2l, 1) := @dq_o133 cX11_set 54 (qX11_set_3 6 133 rfl)
theorem dX11_set_55 : decode cX11_set 55 = .ok (.invokevirtual 162, 3) := @dq_o182 cX11_set 55 0 162 (qX11_set_3 7 182 rfl) (qX11_set_3 8 0 rfl) (qX11_set_3 9 162 rfl)
theorem dX11_set_58 : decode cX11_set 58 = .ok (.aload_n 0, 1) := @dq_o42 cX11_set 58 (qX11_set_3 10 42 rfl)
theorem dX11_set_59 : decode cX11_set 59 = .ok (.iload_n 1, 1) := @dq_o27 cX11_set 59 (qX11_set_3 11 27 rfl)
theorem dX11_set_60 : decode cX11_set 60 = .ok (.iconst 0, 1) := @dq_o3 cX11_set 60 (qX11_set_3 12 3 rfl)
theorem dX11_set_61 : decode cX11_set 61 = .ok (.invokevirtual 244, 3) := @dq_o182 cX11_set 61 0 244 (qX11_set_3 13 182 rfl) (qX11_set_3 14 0 rfl) (qX11_set_3 15 244 rfl)
theorem dX11_set_64 : decode cX11_set 64 = .ok (.ireturn, 1) := @dq_o172 cX11_set 64 (qX11_set_4 0 172 rfl)
abbrev qaX11_multiply_0 : List Nat := [42, 27, 28, 29, 182, 0, 238, 154, 0, 5, 3, 172, 42, 3, 28, 182]
abbrev qaX11_multiply_1 : List Nat := [0, 241, 42, 4, 29, 182, 0, 241, 42, 3, 4, 182, 0, 197, 42, 27]
abbrev qaX11_multiply_2 : List Nat := [3, 182, 0, 244, 172]
def qtX11_multiply_3 : List Nat := []
def qtX11_multiply_2 : List Nat := qaX11_multiply_2 ++ qtX11_multiply_3
def qtX11_multiply_1 : List Nat := qaX11_multiply_1 ++ qtX11_multiply_2
def qtX11_multiply_0 : List Nat := qaX11_multiply_0 ++ qtX11_multiply_1
theorem qeX11_multiply : cX11_multiply.data.toList.map UInt8.toNat = qtX11_multiply_0 := by decide +kernel
theorem qsX11_multiply_0 : ∀ i, dqNth qtX11_multiply_0 (0 + i) = dqNth qtX11_multiply_0 i := fun i => by rw [Nat.zero_add]
theorem qsX11_multiply_1 : ∀ i, dqNth qtX11_multiply_0 (16 + i) = dqNth qtX11_multiply_1 i := dq_step qsX11_multiply_0 rfl rfl
theorem qsX11_multiply_2 : ∀ i, dqNth qtX11_multiply_0 (32 + i) = dqNth qtX11_multiply_2 i := dq_step qsX11_multiply_1 rfl rfl
theorem qX11_multiply_0 (i b : Nat) (h : dqNth qaX11_multiply_0 i = some b) : DqBy cX11_multiply (0 + i) b := dqBy_of qeX11_multiply ((qsX11_multiply_0 i).trans (dq_in h))
theorem qX11_multiply_1 (i b : Nat) (h : dqNth qaX11_multiply_1 i = some b) : DqBy cX11_multiply (16 + i) b := dqBy_of qeX11_multiply ((qsX11_multiply_1 i).trans (dq_in h))
theorem qX11_multiply_2 (i b : Nat) (h : dqNth qaX11_multiply_2 i = some b) : DqBy cX11_multiply (32 + i) b := dqBy_of qeX11_multiply ((qsX11_multiply_2 i).trans (dq_in h))
theorem dX11_multiply_0 : decode cX11_multiply 0 = .ok (.aload_n 0, 1) := @dq_o42 cX11_multiply 0 (qX11_multiply_0 0 42 rfl)
theorem dX11_multiply_1 : decode cX11_multiply 1 = .ok (.iload_n 1, 1) := @dq_o27 cX11_multiply 1 (qX11_multiply_0 1 27 rfl)
theorem dX11_multiply_2 : decode cX11_multiply 2 = .ok (.iload_n 2, 1) := @dq_o28 cX11_multiply 2 (qX11_multiply_0 2 28 rfl)
theorem dX11_multiply_3 : decode cX11_multiply 3 = .ok (.iload_n 3, 1) := @dq_o29 cX11_multiply 3 (qX11_multiply_0 3 29 rfl)
theorem dX11_multiply_4 : decode cX11_multiply 4 = .ok (.invokevirtual 238, 3) := @dq_o182 cX11_multiply 4 0 238 (qX11_multiply_0 4 182 rfl) (qX11_multiply_0 5 0 rfl) (qX11_multiply_0 6 238 rfl)
theorem dX11_multiply_7 : decode cX11_multiply 7 = .ok (.ifCond .ne 5, 3) := @dq_o154 cX11_multiply 7 0 5 (qX11_multiply_0 7 154 rfl) (qX11_multiply_0 8 0 rfl) (qX11_multiply_0 9 5 rfl)
theorem dX11_multiply_10 : decode cX11_multiply 10 = .ok (.iconst 0, 1) := @dq_o3 cX11_multiply 10 (qX11_multiply_0 10 3 rfl)
theorem dX11_multiply_11 : decode cX11_multiply 11 = .ok (.ireturn, 1) := @dq_o172 cX11_multiply 11 (qX11_multiply_0 11 172 rfl)
theorem dX11_multiply_12 : decode cX11_multiply 12 = .ok (.aload_n 0, 1) := @dq_o42 cX11_multiply 12 (qX11_multiply_0 12 42 rfl)
theorem dX11_multiply_13 : decode cX11_multiply 13 = .ok (.iconst 0, 1) := @dq_o3 cX11_multiply 13 (qX11_multiply_0 13 3 rfl)
theorem dX11_multiply_14 : decode cX11_multiply 14 = .ok (.iload_n 2, 1) := @dq_o28 cX11_multiply 14 (qX11_multiply_0 14 28 rfl)
theorem dX11_multiply_15 : decode cX11_multiply 15 = .ok (.invokevirtual 241, 3) := @dq_o182 cX11_multiply 15 0 241 (qX11_multiply_0 15 182 rfl) (qX11_multiply_1 0 0 rfl) (qX11_multiply_1 1 241 rfl)
theorem dX11_multiply_18 : decode cX11_multiply 18 = .ok (.aload_n 0, 1) := @dq_o42 cX11_multiply 18 (qX11_multiply_1 2 42 rfl)
theorem dX11_multiply_19 : decode cX11_multiply 19 = .ok (.iconst 1, 1) := @dq_o4 cX11_multiply 19 (qX11_multiply_1 3 4 rfl)
theorem dX11_multiply_20 : decode cX11_multiply 20 = .ok (.iload_n 3, 1) := @dq_o29 cX11_multiply 20 (qX11_multiply_1 4 29 rfl)
theorem dX11_multiply_21 : decode cX11_multiply 21 = .ok (.invokevirtual 241, 3) := @dq_o182 cX11_multiply 21 0 241 (qX11_multiply_1 5 182 rfl) (qX11_multiply_1 6 0 rfl) (qX11_multiply_1 7 241 rfl)
theorem dX11_multiply_24 : decode cX11_multiply 24 = .ok (.aload_n 0, 1) := @dq_o42 cX11_multiply 24 (qX11_multiply_1 8 42 rfl)
theorem dX11_multiply_25 : decode cX11_multiply 25 = .ok (.iconst 0, 1) := @dq_o3 cX11_multiply 25 (qX11_multiply_1 9 3 rfl)
theorem dX11_multiply_26 : decode cX11_multiply 26 = .ok (.iconst 1, 1) := @dq_o4 cX11_multiply 26 (qX11_multiply_1 10 4 rfl)
theorem dX11_multiply_27 : decode cX11_multiply 27 = .ok (.invokevirtual 197, 3) := @dq_o182 cX11_multiply 27 0 197 (qX11_multiply_1 11 182 rfl) (qX11_multiply_1 12 0 rfl) (qX11_multiply_1 13 197 rfl)
theorem dX11_multiply_30 : decode cX11_multiply 30 = .ok (.aload_n 0, 1) := @dq_o42 cX11_multiply 30 (qX11_multiply_1 14 42 rfl)
theorem dX11_multiply_31 : decode cX11_multiply 31 = .ok (.iload_n 1, 1) := @dq_o27 cX11_multiply 31 (qX11_multiply_1 15 27 rfl)
theorem dX11_multiply_32 : decode cX11_multiply 32 = .ok (.iconst 0, 1) := @dq_o3 cX11_multiply 32 (qX11_multiply_2 0 3 rfl)
theorem dX11_multiply_33 : decode cX11_multiply 33 = .ok (.invokevirtual 244, 3) := @dq_o182 cX11_multiply 33 0 244 (qX11_multiply_2 1 182 rfl) (qX11_multiply_2 2 0 rfl) (qX11_multiply_2 3 244 rfl)
theorem dX11_multiply_36 : decode cX11_multiply 36 = .ok (.ireturn, 1) := @dq_o172 cX11_multiply 36 (qX11_multiply_2 4 172 rfl)
abbrev qaX11_invert_0 : List Nat := [42, 27, 28, 28, 182, 0, 238, 154, 0, 5, 3, 172, 42, 3, 28, 182]
abbrev qaX11_invert_1 : List Nat := [0, 241, 42, 3, 4, 182, 0, 200, 42, 27, 4, 182, 0, 244, 172]
def qtX11_invert_2 : List Nat := []
def qtX11_invert_1 : List Nat := qaX11_invert_1 ++ qtX11_invert_2
def qtX11_invert_0 : List Nat := qaX11_invert_0 ++ qtX11_invert_1
theorem qeX11_invert : cX11_invert.data.toList.map UInt8.toNat = qtX11_invert_0 := by decide +kernel
theorem qsX11_invert_0 : ∀ i, dqNth qtX11_invert_0 (0 + i) = dqNth qtX11_invert_0 i := fun i => by rw [Nat.zero_add]
theorem qsX11_invert_1 : ∀ i, dqNth qtX11_invert_0 (16 + i) = dqNth qtX11_invert_1 i := dq_step qsX11_invert_0 rfl rfl
theorem qX11_invert_0 (i b : Nat) (h : dqNth qaX11_invert_0 i = some b) : DqBy cX11_invert (0 + i) b := dqBy_of qeX11_invert ((qsX11_invert_0 i).trans (dq_in h))
theorem qX11_invert_1 (i b : Nat) (h : dqNth qaX11_invert_1 i = some b) : DqBy cX11_invert (16 + i) b := dqBy_of qeX11_invert ((qsX11_invert_1 i).trans (dq_in h))
theorem dX11_invert_0 : decode cX11_invert 0 = .ok (.aload_n 0, 1) := @dq_o42 cX11_invert 0 (qX11_invert_0 0 42 rfl)
theorem dX11_invert_1 : decode cX11_invert 1 = .ok (.iload_n 1, 1) := @dq_o27 cX11_invert 1 (qX11_invert_0 1 27 rfl)
theorem dX11_invert_2 : decode cX11_invert 2 = .ok (.iload_n 2, 1) := @dq_o28 cX11_invert 2 (qX11_invert_0 2 28 rfl)
theorem dX11_invert_3 : decode cX11_invert 3 = .ok (.iload_n 2, 1) := @dq_o28 cX11_invert 3 (qX11_invert_0 3 28 rfl)
theorem dX11_invert_4 : decode cX11_invert 4 = .ok (.invokevirtual 238, 3) := @dq_o182 cX11_invert 4 0 238 (qX11_invert_0 4 182 rfl) (qX11_invert_0 5 0 rfl) (qX11_invert_0 6 238 rfl)
theorem dX11_invert_7 : decode cX11_invert 7 = .ok (.ifCond .ne 5, 3) := @dq_o154 cX11_invert 7 0 5 (qX11_invert_0 7 154 rfl) (qX11_invert_0 8 0 rfl) (qX11_invert_0 9 5 rfl)
theorem dX11_invert_10 : decode cX11_invert 10 = .ok (.iconst 0, 1) := @dq_o3 cX11_invert 10 (qX11_invert_0 10 3 rfl)
theorem dX11_invert_11 : decode cX11_invert 11 = .ok (.ireturn, 1) := @dq_o172 cX11_invert 11 (qX11_invert_0 11 172 rfl)
theorem dX11_invert_12 : decode cX11_invert 12 = .ok (.aload_n 0, 1) := @dq_o42 cX11_invert 12 (qX11_invert_0 12 42 rfl)
theorem dX11_invert_13 : decode cX11_invert 13 = .ok (.iconst 0, 1) := @dq_o3 cX11_invert 13 (qX11_invert_0 13 3 rfl)
theorem dX11_invert_14 : decode cX11_invert 14 = .ok (.iload_n 2, 1) := @dq_o28 cX11_invert 14 (qX11_invert_0 14 28 rfl)
theorem dX11_invert_15 : decode cX11_invert 15 = .ok (.invokevirtual 241, 3) := @dq_o182 cX11_invert 15 0 241 (qX11_invert_0 15 182 rfl) (qX11_invert_1 0 0 rfl) (qX11_invert_1 1 241 rfl)
theorem dX11_invert_18 : decode cX11_invert 18 = .ok (.aload_n 0, 1) := @dq_o42 cX11_invert 18 (qX11_invert_1 2 42 rfl)
theorem dX11_invert_19 : decode cX11_invert 19 = .ok (.iconst 0, 1) := @dq_o3 cX11_invert 19 (qX11_invert_1 3 3 rfl)
theorem dX11_invert_20 : decode cX11_invert 20 = .ok (.iconst 1, 1) := @dq_o4 cX11_invert 20 (qX11_invert_1 4 4 rfl)
theorem dX11_invert_21 : decode cX11_invert 21 = .ok (.invokevirtual 200, 3) := @dq_o182 cX11_invert 21 0 200 (qX11_invert_1 5 182 rfl) (qX11_invert_1 6 0 rfl) (qX11_invert_1 7 200 rfl)
theorem dX11_invert_24 : decode cX11_invert 24 = .ok (.aload_n 0, 1) := @dq_o42 cX11_invert 24 (qX11_invert_1 8 42 rfl)
theorem dX11_invert_25 : decode cX11_invert 25 = .ok (.iload_n 1, 1) := @dq_o27 cX11_invert 25 (qX11_invert_1 9 27 rfl)
theorem dX11_invert_26 : decode cX11_invert 26 = .ok (.iconst 1, 1) := @dq_o4 cX11_invert 26 (qX11_invert_1 10 4 rfl)
theorem dX11_invert_27 : decode cX11_invert 27 = .ok (.invokevirtual 244, 3) := @dq_o182 cX11_invert 27 0 244 (qX11_invert_1 11 182 rfl) (qX11_invert_1 12 0 rfl) (qX11_invert_1 13 244 rfl)
theorem dX11_invert_30 : decode cX11_invert 30 = .ok (.ireturn, 1) := @dq_o172 cX11_invert 30 (qX11_invert_1 14 172 rfl)
abbrev qaX11_power_0 : List Nat := [42, 27, 28, 28, 182, 0, 238, 153, 0, 18, 42, 29, 133, 20, 0, 247]
abbrev qaX11_power_1 : List Nat := [20, 0, 249, 182, 0, 101, 154, 0, 5, 3, 172, 42, 3, 28, 182, 0]
abbrev qaX11_power_2 : List Nat := [241, 42, 3, 4, 29, 182, 0, 251, 42, 27, 4, 182, 0, 244, 172]
def qtX11_power_3 : List Nat := []
def qtX11_power_2 : List Nat := qaX11_power_2 ++ qtX11_power_3
def qtX11_power_1 : List Nat := qaX11_power_1 ++ qtX11_power_2
def qtX11_power_0 : List Nat := qaX11_power_0 ++ qtX11_power_1
theorem qeX11_power : cX11_power.data.toList.map UInt8.toNat = qtX11_power_0 := by decide +kernel
theorem qsX11_power_0 : ∀ i, dqNth qtX11_power_0 (0 + i) = dqNth qtX11_power_0 i := fun i => by rw [Nat.zero_add]
theorem qsX11_power_1 : ∀ i, dqNth qtX11_power_0 (16 + i) = dqNth qtX11_power_1 i := dq_step qsX11_power_0 rfl rfl
theorem qsX11_power_2 : ∀ i, dqNth qtX11_power_0 (32 + i) = dqNth qtX11_power_2 i := dq_step qsX11_power_1 rfl rfl
theorem qX11_power_0 (i b : Nat) (h : dqNth qaX11_power_0 i = some b) : DqBy cX11_power (0 + i) b := dqBy_of qeX11_power ((qsX11_power_0 i).trans (dq_in h))
theorem qX11_power_1 (i b : Nat) (h : dqNth qaX11_power_1 i = some b) : DqBy cX11_power (16 + i) b := dqBy_of qeX11_power ((qsX11_power_1 i).trans (dq_in h))
theorem qX11_power_2 (i b : Nat) (h : dqNth qaX11_power_2 i = some b) : DqBy cX11_power (32 + i) b := dqBy_of qeX11_power ((qsX11_power_2 i).trans (dq_in h))
theorem dX11_power_0 : decode cX11_power 0 = .ok (.aload_n 0, 1) := @dq_o42 cX11_power 0 (qX11_power_0 0 42 rfl)
theorem dX11_power_1 : decode cX11_power 1 = .ok (.iload_n 1, 1) := @dq_o27 cX11_power 1 (qX11_power_0 1 27 rfl)
theorem dX11_power_2 : decode cX11_power 2 = .ok (.iload_n 2, 1) := @dq_o28 cX11_power 2 (qX11_power_0 2 28 rfl)
theorem dX11_power_3 : decode cX11_power 3 = .ok (.iload_n 2, 1) := @dq_o28 cX11_power 3 (qX11_power_0 3 28 rfl)
theorem dX11_power_4 : decode cX11_power 4 = .ok (.invokevirtual 238, 3) := @dq_o182 cX11_power 4 0 238 (qX11_power_0 4 182 rfl) (qX11_power_0 5 0 rfl) (qX11_power_0 6 238 rfl)
theorem dX11_power_7 : decode cX11_power 7 = .ok (.ifCond .eq 18, 3) := @dq_o153 cX11_power 7 0 18 (qX11_power_0 7 153 rfl) (qX11_power_0 8 0 rfl) (qX11_power_0 9 18 rfl)
theorem dX11_power_10 : decode cX11_power 10 = .ok (.aload_n 0, 1) := @dq_o42 cX11_power 10 (qX11_power_0 10 42 rfl)
theorem dX11_power_11 : decode cX11_power 11 = .ok (.iload_n 3, 1) := @dq_o29 cX11_power 11 (qX11_power_0 11 29 rfl)
theorem dX11_power_12 : decode cX11_power 12 = .ok (.i2l, 1) := @dq_o133 cX11_power 12 (qX11_power_0 12 133 rfl)
theorem dX11_power_13 : decode cX11_power 13 = .ok (.ldc2_w 247, 3) := @dq_o20 cX11_power 13 0 247 (qX11_power_0 13 20 rfl) (qX11_power_0 14 0 rfl) (qX11_power_0 15 247 rfl)
theorem dX11_power_16 : decode cX11_power 16 = .ok (.ldc2_w 249, 3) := @dq_o20 cX11_power 16 0 249 (qX11_power_1 0 20 rfl) (qX11_power_1 1 0 rfl) (qX11_power_1 2 249 rfl)
theorem dX11_power_19 : decode cX11_power 19 = .ok (.invokevirtual 101, 3) := @dq_o182 cX11_power 19 0 101 (qX11_power_1 3 182 rfl) (qX11_power_1 4 0 rfl) (qX11_power_1 5 101 rfl)
theorem dX11_power_22 : decode cX11_power 22 = .ok (.ifCond .ne 5, 3) := @dq_o154 cX11_power 22 0 5 (qX11_power_1 6 154 rfl) (qX11_power_1 7 0 rfl) (qX11_power_1 8 5 rfl)
theorem dX11_power_25 : decode cX11_power 25 = .ok (.iconst 0, 1) := @dq_o3 cX11_power 25 (qX11_power_1 9 3 rfl)
theorem dX11_power_26 : decode cX11_power 26 = .ok (.ireturn, 1) := @dq_o172 cX11_power 26 (qX11_power_1 10 172 rfl)
theorem dX11_power_27 : decode cX11_power 27 = .ok (.aload_n 0, 1) := @dq_o42 cX11_power 27 (qX11_power_1 11 42 rfl)
theorem dX11_power_28 : decode cX11_power 28 = .ok (.iconst 0, 1) := @dq_o3 cX11_power 28 (qX11_power_1 12 3 rfl)
theorem dX11_power_29 : decode cX11_power 29 = .ok (.iload_n 2, 1) := @dq_o28 cX11_power 29 (qX11_power_1 13 28 rfl)
theorem dX11_power_30 : decode cX11_power 30 = .ok (.invokevirtual 241, 3) := @dq_o182 cX11_power 30 0 241 (qX11_power_1 14 182 rfl) (qX11_power_1 15 0 rfl) (qX11_power_2 0 241 rfl)
theorem dX11_power_33 : decode cX11_power 33 = .ok (.aload_n 0, 1) := @dq_o42 cX11_power 33 (qX11_power_2 1 42 rfl)
theorem dX11_power_34 : decode cX11_power 34 = .ok (.iconst 0, 1) := @dq_o3 cX11_power 34 (qX11_power_2 2 3 rfl)
theorem dX11_power_35 : decode cX11_power 35 = .ok (.iconst 1, 1) := @dq_o4 cX11_power 35 (qX11_power_2 3 4 rfl)
theorem dX11_power_36 : decode cX11_power 36 = .ok (.iload_n 3, 1) := @dq_o29 cX11_power 36 (qX11_power_2 4 29 rfl)
theorem dX11_power_37 : decode cX11_power 37 = .ok (.invokevirtual 251, 3) := @dq_o182 cX11_power 37 0 251 (qX11_power_2 5 182 rfl) (qX11_power_2 6 0 rfl) (qX11_power_2 7 251 rfl)
theorem dX11_power_40 : decode cX11_power 40 = .ok (.aload_n 0, 1) := @dq_o42 cX11_power 40 (qX11_power_2 8 42 rfl)
theorem dX11_power_41 : decode cX11_power 41 = .ok (.iload_n 1, 1) := @dq_o27 cX11_power 41 (qX11_power_2 9 27 rfl)
theorem dX11_power_42 : decode cX11_power 42 = .ok (.iconst 1, 1) := @dq_o4 cX11_power 42 (qX11_power_2 10 4 rfl)
theorem dX11_power_43 : decode cX11_power 43 = .ok (.invokevirtual 244, 3) := @dq_o182 cX11_power 43 0 244 (qX11_power_2 11 182 rfl) (qX11_power_2 12 0 rfl) (qX11_power_2 13 244 rfl)
theorem dX11_power_46 : decode cX11_power 46 = .ok (.ireturn, 1) := @dq_o172 cX11_power 46 (qX11_power_2 14 172 rfl)
abbrev qaX11_commute_0 : List Nat := [42, 27, 28, 29, 182, 0, 238, 154, 0, 5, 3, 172, 42, 3, 28, 182]
abbrev qaX11_commute_1 : List Nat := [0, 241, 42, 4, 29, 182, 0, 241, 42, 3, 4, 5, 182, 0, 254, 42]
abbrev qaX11_commute_2 : List Nat := [27, 5, 182, 0, 244, 172]
def qtX11_commute_3 : List Nat := []
def qtX11_commute_2 : List Nat := qaX11_commute_2 ++ qtX11_commute_3
def qtX11_commute_1 : List Nat := qaX11_commute_1 ++ qtX11_commute_2
def qtX11_commute_0 : List Nat := qaX11_commute_0 ++ qtX11_commute_1
theorem qeX11_commute : cX11_commute.data.toList.map UInt8.toNat = qtX11_commute_0 := by decide +kernel
theorem qsX11_commute_0 : ∀ i, dqNth qtX11_commute_0 (0 + i) = dqNth qtX11_commute_0 i := fun i => by rw [Nat.zero_add]
theorem qsX11_commute_1 : ∀ i, dqNth qtX11_commute_0 (16 + i) = dqNth qtX11_commute_1 i := dq_step qsX11_commute_0 rfl rfl
theorem qsX11_commute_2 : ∀ i, dqNth qtX11_commute_0 (32 + i) = dqNth qtX11_commute_2 i := dq_step qsX11_commute_1 rfl rfl
theorem qX11_commute_0 (i b : Nat) (h : dqNth qaX11_commute_0 i = some b) : DqBy cX11_commute (0 + i) b := dqBy_of qeX11_commute ((qsX11_commute_0 i).trans (dq_in h))
theorem qX11_commute_1 (i b : Nat) (h : dqNth qaX11_commute_1 i = some b) : DqBy cX11_commute (16 + i) b := dqBy_of qeX11_commute ((qsX11_commute_1 i).trans (dq_in h))
theorem qX11_commute_2 (i b : Nat) (h : dqNth qaX11_commute_2 i = some b) : DqBy cX11_commute (32 + i) b := dqBy_of qeX11_commute ((qsX11_commute_2 i).trans (dq_in h))
theorem dX11_commute_0 : decode cX11_commute 0 = .ok (.aload_n 0, 1) := @dq_o42 cX11_commute 0 (qX11_commute_0 0 42 rfl)
theorem dX11_commute_1 : decode cX11_commute 1 = .ok (.iload_n 1, 1) := @dq_o27 cX11_commute 1 (qX11_commute_0 1 27 rfl)
theorem dX11_commute_2 : decode cX11_commute 2 = .ok (.iload_n 2, 1) := @dq_o28 cX11_commute 2 (qX11_commute_0 2 28 rfl)
theorem dX11_commute_3 : decode cX11_commute 3 = .ok (.iload_n 3, 1) := @dq_o29 cX11_commute 3 (qX11_commute_0 3 29 rfl)
theorem dX11_commute_4 : decode cX11_commute 4 = .ok (.invokevirtual 238, 3) := @dq_o182 cX11_commute 4 0 238 (qX11_commute_0 4 182 rfl) (qX11_commute_0 5 0 rfl) (qX11_commute_0 6 238 rfl)
theorem dX11_commute_7 : decode cX11_commute 7 = .ok (.ifCond .ne 5, 3) := @dq_o154 cX11_commute 7 0 5 (qX11_commute_0 7 154 rfl) (qX11_commute_0 8 0 rfl) (qX11_commute_0 9 5 rfl)
theorem dX11_commute_10 : decode cX11_commute 10 = .ok (.iconst 0, 1) := @dq_o3 cX11_commute 10 (qX11_commute_0 10 3 rfl)
theorem dX11_commute_11 : decode cX11_commute 11 = .ok (.ireturn, 1) := @dq_o172 cX11_commute 11 (qX11_commute_0 11 172 rfl)
theorem dX11_commute_12 : decode cX11_commute 12 = .ok (.aload_n 0, 1) := @dq_o42 cX11_commute 12 (qX11_commute_0 12 42 rfl)
theorem dX11_commute_13 : decode cX11_commute 13 = .ok (.iconst 0, 1) := @dq_o3 cX11_commute 13 (qX11_commute_0 13 3 rfl)
theorem dX11_commute_14 : decode cX11_commute 14 = .ok (.iload_n 2, 1) := @dq_o28 cX11_commute 14 (qX11_commute_0 14 28 rfl)
theorem dX11_commute_15 : decode cX11_commute 15 = .ok (.invokevirtual 241, 3) := @dq_o182 cX11_commute 15 0 241 (qX11_commute_0 15 182 rfl) (qX11_commute_1 0 0 rfl) (qX11_commute_1 1 241 rfl)
theorem dX11_commute_18 : decode cX11_commute 18 = .ok (.aload_n 0, 1) := @dq_o42 cX11_commute 18 (qX11_commute_1 2 42 rfl)
theorem dX11_commute_19 : decode cX11_commute 19 = .ok (.iconst 1, 1) := @dq_o4 cX11_commute 19 (qX11_commute_1 3 4 rfl)
theorem dX11_commute_20 : decode cX11_commute 20 = .ok (.iload_n 3, 1) := @dq_o29 cX11_commute 20 (qX11_commute_1 4 29 rfl)
theorem dX11_commute_21 : decode cX11_commute 21 = .ok (.invokevirtual 241, 3) := @dq_o182 cX11_commute 21 0 241 (qX11_commute_1 5 182 rfl) (qX11_commute_1 6 0 rfl) (qX11_commute_1 7 241 rfl)
theorem dX11_commute_24 : decode cX11_commute 24 = .ok (.aload_n 0, 1) := @dq_o42 cX11_commute 24 (qX11_commute_1 8 42 rfl)
theorem dX11_commute_25 : decode cX11_commute 25 = .ok (.iconst 0, 1) := @dq_o3 cX11_commute 25 (qX11_commute_1 9 3 rfl)
theorem dX11_commute_26 : decode cX11_commute 26 = .ok (.iconst 1, 1) := @dq_o4 cX11_commute 26 (qX11_commute_1 10 4 rfl)
theorem dX11_commute_27 : decode cX11_commute 27 = .ok (.iconst 2, 1) := @dq_o5 cX11_commute 27 (qX11_commute_1 11 5 rfl)
theorem dX11_commute_28 : decode cX11_commute 28 = .ok (.invokevirtual 254, 3) := @dq_o182 cX11_commute 28 0 254 (qX11_commute_1 12 182 rfl) (qX11_commute_1 13 0 rfl) (qX11_commute_1 14 254 rfl)
theorem dX11_commute_31 : decode cX11_commute 31 = .ok (.aload_n 0, 1) := @dq_o42 cX11_commute 31 (qX11_commute_1 15 42 rfl)
theorem dX11_commute_32 : decode cX11_commute 32 = .ok (.iload_n 1, 1) := @dq_o27 cX11_commute 32 (qX11_commute_2 0 27 rfl)
theorem dX11_commute_33 : decode cX11_commute 33 = .ok (.iconst 2, 1) := @dq_o5 cX11_commute 33 (qX11_commute_2 1 5 rfl)
theorem dX11_commute_34 : decode cX11_commute 34 = .ok (.invokevirtual 244, 3) := @dq_o182 cX11_commute 34 0 244 (qX11_commute_2 2 182 rfl) (qX11_commute_2 3 0 rfl) (qX11_commute_2 4 244 rfl)
theorem dX11_commute_37 : decode cX11_commute 37 = .ok (.ireturn, 1) := @dq_o172 cX11_commute 37 (qX11_commute_2 5 172 rfl)
abbrev qaX11_conjugate_0 : List Nat := [42, 27, 28, 29, 182, 0, 238, 154, 0, 5, 3, 172, 42, 3, 28, 182]
abbrev qaX11_conjugate_1 : List Nat := [0, 241, 42, 4, 29, 182, 0, 241, 42, 3, 4, 5, 182, 1, 1, 42]
abbrev qaX11_conjugate_2 : List Nat := [27, 5, 182, 0, 244, 172]
def qtX11_conjugate_3 : List Nat := []
def qtX11_conjugate_2 : List Nat := qaX11_conjugate_2 ++ qtX11_conjugate_3
def qtX11_conjugate_1 : List Nat := qaX11_conjugate_1 ++ qtX11_conjugate_2
def qtX11_conjugate_0 : List Nat := qaX11_conjugate_0 ++ qtX11_conjugate_1
theorem qeX11_conjugate : cX11_conjugate.data.toList.map UInt8.toNat = qtX11_conjugate_0 := by decide +kernel
theorem qsX11_conjugate_0 : ∀ i, dqNth qtX11_conjugate_0 (0 + i) = dqNth qtX11_conjugate_0 i := fun i => by rw [Nat.zero_add]
theorem qsX11_conjugate_1 : ∀ i, dqNth qtX11_conjugate_0 (16 + i) = dqNth qtX11_conjugate_1 i := dq_step qsX11_conjugate_0 rfl rfl
theorem qsX11_conjugate_2 : ∀ i, dqNth qtX11_conjugate_0 (32 + i) = dqNth qtX11_conjugate_2 i := dq_step qsX11_conjugate_1 rfl rfl
theorem qX11_conjugate_0 (i b : Nat) (h : dqNth qaX11_conjugate_0 i = some b) : DqBy cX11_conjugate (0 + i) b := dqBy_of qeX11_conjugate ((qsX11_conjugate_0 i).trans (dq_in h))
theorem qX11_conjugate_1 (i b : Nat) (h : dqNth qaX11_conjugate_1 i = some b) : DqBy cX11_conjugate (16 + i) b := dqBy_of qeX11_conjugate ((qsX11_conjugate_1 i).trans (dq_in h))
theorem qX11_conjugate_2 (i b : Nat) (h : dqNth qaX11_conjugate_2 i = some b) : DqBy cX11_conjugate (32 + i) b := dqBy_of qeX11_conjugate ((qsX11_conjugate_2 i).trans (dq_in h))
theorem dX11_conjugate_0 : decode cX11_conjugate 0 = .ok (.aload_n 0, 1) := @dq_o42 cX11_conjugate 0 (qX11_conjugate_0 0 42 rfl)
theorem dX11_conjugate_1 : decode cX11_conjugate 1 = .ok (.iload_n 1, 1) := @dq_o27 cX11_conjugate 1 (qX11_conjugate_0 1 27 rfl)
theorem dX11_conjugate_2 : decode cX11_conjugate 2 = .ok (.iload_n 2, 1) := @dq_o28 cX11_conjugate 2 (qX11_conjugate_0 2 28 rfl)
theorem dX11_conjugate_3 : decode cX11_conjugate 3 = .ok (.iload_n 3, 1) := @dq_o29 cX11_conjugate 3 (qX11_conjugate_0 3 29 rfl)
theorem dX11_conjugate_4 : decode cX11_conjugate 4 = .ok (.invokevirtual 238, 3) := @dq_o182 cX11_conjugate 4 0 238 (qX11_conjugate_0 4 182 rfl) (qX11_conjugate_0 5 0 rfl) (qX11_conjugate_0 6 238 rfl)
theorem dX11_conjugate_7 : decode cX11_conjugate 7 = .ok (.ifCond .ne 5, 3) := @dq_o154 cX11_conjugate 7 0 5 (qX11_conjugate_0 7 154 rfl) (qX11_conjugate_0 8 0 rfl) (qX11_conjugate_0 9 5 rfl)
theorem dX11_conjugate_10 : decode cX11_conjugate 10 = .ok (.iconst 0, 1) := @dq_o3 cX11_conjugate 10 (qX11_conjugate_0 10 3 rfl)
theorem dX11_conjugate_11 : decode cX11_conjugate 11 = .ok (.ireturn, 1) := @dq_o172 cX11_conjugate 11 (qX11_conjugate_0 11 172 rfl)
theorem dX11_conjugate_12 : decode cX11_conjugate 12 = .ok (.aload_n 0, 1) := @dq_o42 cX11_conjugate 12 (qX11_conjugate_0 12 42 rfl)
theorem dX11_conjugate_13 : decode cX11_conjugate 13 = .ok (.iconst 0, 1) := @dq_o3 cX11_conjugate 13 (qX11_conjugate_0 13 3 rfl)
theorem dX11_conjugate_14 : decode cX11_conjugate 14 = .ok (.iload_n 2, 1) := @dq_o28 cX11_conjugate 14 (qX11_conjugate_0 14 28 rfl)
theorem dX11_conjugate_15 : decode cX11_conjugate 15 = .ok (.invokevirtual 241, 3) := @dq_o182 cX11_conjugate 15 0 241 (qX11_conjugate_0 15 182 rfl) (qX11_conjugate_1 0 0 rfl) (qX11_conjugate_1 1 241 rfl)
theorem dX11_conjugate_18 : decode cX11_conjugate 18 = .ok (.aload_n 0, 1) := @dq_o42 cX11_conjugate 18 (qX11_conjugate_1 2 42 rfl)
theorem dX11_conjugate_19 : decode cX11_conjugate 19 = .ok (.iconst 1, 1) := @dq_o4 cX11_conjugate 19 (qX11_conjugate_1 3 4 rfl)
theorem dX11_conjugate_20 : decode cX11_conjugate 20 = .ok (.iload_n 3, 1) := @dq_o29 cX11_conjugate 20 (qX11_conjugate_1 4 29 rfl)
theorem dX11_conjugate_21 : decode cX11_conjugate 21 = .ok (.invokevirtual 241, 3) := @dq_o182 cX11_conjugate 21 0 241 (qX11_conjugate_1 5 182 rfl) (qX11_conjugate_1 6 0 rfl) (qX11_conjugate_1 7 241 rfl)
theorem dX11_conjugate_24 : decode cX11_conjugate 24 = .ok (.aload_n 0, 1) := @dq_o42 cX11_conjugate 24 (qX11_conjugate_1 8 42 rfl)
theorem dX11_conjugate_25 : decode cX11_conjugate 25 = .ok (.iconst 0, 1) := @dq_o3 cX11_conjugate 25 (qX11_conjugate_1 9 3 rfl)
theorem dX11_conjugate_26 : decode cX11_conjugate 26 = .ok (.iconst 1, 1) := @dq_o4 cX11_conjugate 26 (qX11_conjugate_1 10 4 rfl)
theorem dX11_conjugate_27 : decode cX11_conjugate 27 = .ok (.iconst 2, 1) := @dq_o5 cX11_conjugate 27 (qX11_conjugate_1 11 5 rfl)
theorem dX11_conjugate_28 : decode cX11_conjugate 28 = .ok (.invokevirtual 257, 3) := @dq_o182 cX11_conjugate 28 1 1 (qX11_conjugate_1 12 182 rfl) (qX11_conjugate_1 13 1 rfl) (qX11_conjugate_1 14 1 rfl)
theorem dX11_conjugate_31 : decode cX11_conjugate 31 = .ok (.aload_n 0, 1) := @dq_o42 cX11_conjugate 31 (qX11_conjugate_1 15 42 rfl)
theorem dX11_conjugate_32 : decode cX11_conjugate 32 = .ok (.iload_n 1, 1) := @dq_o27 cX11_conjugate 32 (qX11_conjugate_2 0 27 rfl)
theorem dX11_conjugate_33 : decode cX11_conjugate 33 = .ok (.iconst 2, 1) := @dq_o5 cX11_conjugate 33 (qX11_conjugate_2 1 5 rfl)
theorem dX11_conjugate_34 : decode cX11_conjugate 34 = .ok (.invokevirtual 244, 3) := @dq_o182 cX11_conjugate 34 0 244 (qX11_conjugate_2 2 182 rfl) (qX11_conjugate_2 3 0 rfl) (qX11_conjugate_2 4 244 rfl)
theorem dX11_conjugate_37 : decode cX11_conjugate 37 = .ok (.ireturn, 1) := @dq_o172 cX11_conjugate 37 (qX11_conjugate_2 5 172 rfl)
abbrev qaX11_extracts_0 : List Nat := [42, 28, 182, 0, 190, 3, 54, 4, 21, 4, 42, 182, 0, 88, 162, 0]
abbrev qaX11_extracts_1 : List Nat := [61, 42, 28, 28, 4, 96, 29, 182, 0, 251, 42, 27, 21, 4, 182, 0]
abbrev qaX11_extracts_2 : List Nat := [166, 42, 28, 4, 96, 21, 4, 182, 0, 166, 101, 55, 5, 22, 5, 29]
abbrev qaX11_extracts_3 : List Nat := [133, 113, 9, 148, 153, 0, 5, 3, 172, 42, 28, 21, 4, 22, 5, 29]
abbrev qaX11_extracts_4 : List Nat := [133, 109, 182, 0, 162, 132, 4, 1, 167, 255, 192, 4, 172]
def qtX11_extracts_5 : List Nat := []
def qtX11_extracts_4 : List Nat := qaX11_extracts_4 ++ qtX11_extracts_5
def qtX11_extracts_3 : List Nat := qaX11_extracts_3 ++ qtX11_extracts_4
def qtX11_extracts_2 : List Nat := qaX11_extracts_2 ++ qtX11_extracts_3
def qtX11_extracts_1 : List Nat := qaX11_extracts_1 ++ qtX11_extracts_2
def qtX11_extracts_0 : List Nat := qaX11_extracts_0 ++ qtX11_extracts_1
theorem qeX11_extracts : cX11_extracts.data.toList.map UInt8.toNat = qtX11_extracts_0 := by decide +kernel
theorem qsX11_extracts_0 : ∀ i, dqNth qtX11_extracts_0 (0 + i) = dqNth qtX11_extracts_0 i := fun i => by rw [Nat.zero_add]
theorem qsX11_extracts_1 : ∀ i, dqNth qtX11_extracts_0 (16 + i) = dqNth qtX11_extracts_1 i := dq_step qsX11_extracts_0 rfl rfl
theorem qsX11_extracts_2 : ∀ i, dqNth qtX11_extracts_0 (32 + i) = dqNth qtX11_extracts_2 i := dq_step qsX11_extracts_1 rfl rfl
theorem qsX11_extracts_3 : ∀ i, dqNth qtX11_extracts_0 (48 + i) = dqNth qtX11_extracts_3 i := dq_step qsX11_extracts_2 rfl rfl
theorem qsX11_extracts_4 : ∀ i, dqNth qtX11_extracts_0 (64 + i) = dqNth qtX11_extracts_4 i := dq_step qsX11_extracts_3 rfl rfl
theorem qX11_extracts_0 (i b : Nat) (h : dqNth qaX11_extracts_0 i = some b) : DqBy cX11_extracts (0 + i) b := dqBy_of qeX11_extracts ((qsX11_extracts_0 i).trans (dq_in h))
theorem qX11_extracts_1 (i b : Nat) (h : dqNth qaX11_extracts_1 i = some b) : DqBy cX11_extracts (16 + i) b := dqBy_of qeX11_extracts ((qsX11_extracts_1 i).trans (dq_in h))
theorem qX11_extracts_2 (i b : Nat) (h : dqNth qaX11_extracts_2 i = some b) : DqBy cX11_extracts (32 + i) b := dqBy_of qeX11_extracts ((qsX11_extracts_2 i).trans (dq_in h))
theorem qX11_extracts_3 (i b : Nat) (h : dqNth qaX11_extracts_3 i = some b) : DqBy cX11_extracts (48 + i) b := dqBy_of qeX11_extracts ((qsX11_extracts_3 i).trans (dq_in h))
theorem qX11_extracts_4 (i b : Nat) (h : dqNth qaX11_extracts_4 i = some b) : DqBy cX11_extracts (64 + i) b := dqBy_of qeX11_extracts ((qsX11_extracts_4 i).trans (dq_in h))
theorem dX11_extracts_0 : decode cX11_extracts 0 = .ok (.aload_n 0, 1) := @dq_o42 cX11_extracts 0 (qX11_extracts_0 0 42 rfl)
theorem dX11_extracts_1 : decode cX11_extracts 1 = .ok (.iload_n 2, 1) := @dq_o28 cX11_extracts 1 (qX11_extracts_0 1 28 rfl)
theorem dX11_extracts_2 : decode cX11_extracts 2 = .ok (.invokevirtual 190, 3) := @dq_o182 cX11_extracts 2 0 190 (qX11_extracts_0 2 182 rfl) (qX11_extracts_0 3 0 rfl) (qX11_extracts_0 4 190 rfl)
theorem dX11_extracts_5 : decode cX11_extracts 5 = .ok (.iconst 0, 1) := @dq_o3 cX11_extracts 5 (qX11_extracts_0 5 3 rfl)
theorem dX11_extracts_6 : decode cX11_extracts 6 = .ok (.istore 4, 2) := @dq_o54 cX11_extracts 6 4 (qX11_extracts_0 6 54 rfl) (qX11_extracts_0 7 4 rfl)
theorem dX11_extracts_8 : decode cX11_extracts 8 = .ok (.iload 4, 2) := @dq_o21 cX11_extracts 8 4 (qX11_extracts_0 8 21 rfl) (qX11_extracts_0 9 4 rfl)
theorem dX11_extracts_10 : decode cX11_extracts 10 = .ok (.aload_n 0, 1) := @dq_o42 cX11_extracts 10 (qX11_extracts_0 10 42 rfl)
theorem dX11_extracts_11 : decode cX11_extracts 11 = .ok (.invokevirtual 88, 3) := @dq_o182 cX11_extracts 11 0 88 (qX11_extracts_0 11 182 rfl) (qX11_extracts_0 12 0 rfl) (qX11_extracts_0 13 88 rfl)
theorem dX11_extracts_14 : decode cX11_extracts 14 = .ok (.if_icmp .ge 61, 3) := @dq_o162 cX11_extracts 14 0 61 (qX11_extracts_0 14 162 rfl) (qX11_extracts_0 15 0 rfl) (qX11_extracts_1 0 61 rfl)
theorem dX11_extracts_17 : decode cX11_extracts 17 = .ok (.aload_n 0, 1) := @dq_o42 cX11_extracts 17 (qX11_extracts_1 1 42 rfl)
theorem dX11_extracts_18 : decode cX11_extracts 18 = .ok (.iload_n 2, 1) := @dq_o28 cX11_extracts 18 (qX11_extracts_1 2 28 rfl)
theorem dX11_extracts_19 : decode cX11_extracts 19 = .ok (.iload_n 2, 1) := @dq_o28 cX11_extracts 19 (qX11_extracts_1 3 28 rfl)
theorem dX11_extracts_20 : decode cX11_extracts 20 = .ok (.iconst 1, 1) := @dq_o4 cX11_extracts 20 (qX11_extracts_1 4 4 rfl)
theorem dX11_extracts_21 : decode cX11_extracts 21 = .ok (.iadd, 1) := @dq_o96 cX11_extracts 21 (qX11_extracts_1 5 96 rfl)
theorem dX11_extracts_22 : decode cX11_extracts 22 = .ok (.iload_n 3, 1) := @dq_o29 cX11_extracts 22 (qX11_extracts_1 6 29 rfl)
theorem dX11_extracts_23 : decode cX11_extracts 23 = .ok (.invokevirtual 251, 3) := @dq_o182 cX11_extracts 23 0 251 (qX11_extracts_1 7 182 rfl) (qX11_extracts_1 8 0 rfl) (qX11_extracts_1 9 251 rfl)
theorem dX11_extracts_26 : decode cX11_extracts 26 = .ok (.aload_n 0, 1) := @dq_o42 cX11_extracts 26 (qX11_extracts_1 10 42 rfl)
theorem dX11_extracts_27 : decode cX11_extracts 27 = .ok (.iload_n 1, 1) := @dq_o27 cX11_extracts 27 (qX11_extracts_1 11 27 rfl)
theorem dX11_extracts_28 : decode cX11_extracts 28 = .ok (.iload 4, 2) := @dq_o21 cX11_extracts 28 4 (qX11_extracts_1 12 21 rfl) (qX11_extracts_1 13 4 rfl)
theorem dX11_extracts_30 : decode cX11_extracts 30 = .ok (.invokevirtual 166, 3) := @dq_o182 cX11_extracts 30 0 166 (qX11_extracts_1 14 182 rfl) (qX11_extracts_1 15 0 rfl) (qX11_extracts_2 0 166 rfl)
theorem dX11_extracts_33 : decode cX11_extracts 33 = .ok (.aload_n 0, 1) := @dq_o42 cX11_extracts 33 (qX11_extracts_2 1 42 rfl)
theorem dX11_extracts_34 : decode cX11_extracts 34 = .ok (.iload_n 2, 1) := @dq_o28 cX11_extracts 34 (qX11_extracts_2 2 28 rfl)
theorem dX11_extracts_35 : decode cX11_extracts 35 = .ok (.iconst 1, 1) := @dq_o4 cX11_extracts 35 (qX11_extracts_2 3 4 rfl)
theorem dX11_extracts_36 : decode cX11_extracts 36 = .ok (.iadd, 1) := @dq_o96 cX11_extracts 36 (qX11_extracts_2 4 96 rfl)
theorem dX11_extracts_37 : decode cX11_extracts 37 = .ok (.iload 4, 2) := @dq_o21 cX11_extracts 37 4 (qX11_extracts_2 5 21 rfl) (qX11_extracts_2 6 4 rfl)
theorem dX11_extracts_39 : decode cX11_extracts 39 = .ok (.invokevirtual 166, 3) := @dq_o182 cX11_extracts 39 0 166 (qX11_extracts_2 7 182 rfl) (qX11_extracts_2 8 0 rfl) (qX11_extracts_2 9 166 rfl)
theorem dX11_extracts_42 : decode cX11_extracts 42 = .ok (.lsub, 1) := @dq_o101 cX11_extracts 42 (qX11_extracts_2 10 101 rfl)
theorem dX11_extracts_43 : decode cX11_extracts 43 = .ok (.lstore 5, 2) := @dq_o55 cX11_extracts 43 5 (qX11_extracts_2 11 55 rfl) (qX11_extracts_2 12 5 rfl)
theorem dX11_extracts_45 : decode cX11_extracts 45 = .ok (.lload 5, 2) := @dq_o22 cX11_extracts 45 5 (qX11_extracts_2 13 22 rfl) (qX11_extracts_2 14 5 rfl)
theorem dX11_extracts_47 : decode cX11_extracts 47 = .ok (.iload_n 3, 1) := @dq_o29 cX11_extracts 47 (qX11_extracts_2 15 29 rfl)
theorem dX11_extracts_48 : decode cX11_extracts 48 = .ok (.i2l, 1) := @dq_o133 cX11_extracts 48 (qX11_extracts_3 0 133 rfl)
theorem dX11_extracts_49 : decode cX11_extracts 49 = .ok (.lrem, 1) := @dq_o113 cX11_extracts 49 (qX11_extracts_3 1 113 rfl)
theorem dX11_extracts_50 : decode cX11_extracts 50 = .ok (.lconst 0, 1) := @dq_o9 cX11_extracts 50 (qX11_extracts_3 2 9 rfl)
theorem dX11_extracts_51 : decode cX11_extracts 51 = .ok (.lcmp, 1) := @dq_o148 cX11_extracts 51 (qX11_extracts_3 3 148 rfl)
theorem dX11_extracts_52 : decode cX11_extracts 52 = .ok (.ifCond .eq 5, 3) := @dq_o153 cX11_extracts 52 0 5 (qX11_extracts_3 4 153 rfl) (qX11_extracts_3 5 0 rfl) (qX11_extracts_3 6 5 rfl)
theorem dX11_extracts_55 : decode cX11_extracts 55 = .ok (.iconst 0, 1) := @dq_o3 cX11_extracts 55 (qX11_extracts_3 7 3 rfl)
theorem dX11_extracts_56 : decode cX11_extracts 56 = .ok (.ireturn, 1) := @dq_o172 cX11_extracts 56 (qX11_extracts_3 8 172 rfl)
theorem dX11_extracts_57 : decode cX11_extracts 57 = .ok (.aload_n 0, 1) := @dq_o42 cX11_extracts 57 (qX11_extracts_3 9 42 rfl)
theorem dX11_extracts_58 : decode cX11_extracts 58 = .ok (.iload_n 2, 1) := @dq_o28 cX11_extracts 58 (qX11_extracts_3 10 28 rfl)
theorem dX11_extracts_59 : decode cX11_extracts 59 = .ok (.iload 4, 2) := @dq_o21 cX11_extracts 59 4 (qX11_extracts_3 11 21 rfl) (qX11_extracts_3 12 4 rfl)
theorem dX11_extracts_61 : decode cX11_extracts 61 = .ok (.lload 5, 2) := @dq_o22 cX11_extracts 61 5 (qX11_extracts_3 13 22 rfl) (qX11_extracts_3 14 5 rfl)
theorem dX11_extracts_63 : decode cX11_extracts 63 = .ok (.iload_n 3, 1) := @dq_o29 cX11_extracts 63 (qX11_extracts_3 15 29 rfl)
theorem dX11_extracts_64 : decode cX11_extracts 64 = .ok (.i2l, 1) := @dq_o133 cX11_extracts 64 (qX11_extracts_4 0 133 rfl)
theorem dX11_extracts_65 : decode cX11_extracts 65 = .ok (.ldiv, 1) := @dq_o109 cX11_extracts 65 (qX11_extracts_4 1 109 rfl)
theorem dX11_extracts_66 : decode cX11_extracts 66 = .ok (.invokevirtual 162, 3) := @dq_o182 cX11_extracts 66 0 162 (qX11_extracts_4 2 182 rfl) (qX11_extracts_4 3 0 rfl) (qX11_extracts_4 4 162 rfl)
theorem dX11_extracts_69 : decode cX11_extracts 69 = .ok (.iinc 4 1, 3) := @dq_o132 cX11_extracts 69 4 1 (qX11_extracts_4 5 132 rfl) (qX11_extracts_4 6 4 rfl) (qX11_extracts_4 7 1 rfl)
theorem dX11_extracts_72 : decode cX11_extracts 72 = .ok (.goto (-64), 3) := @dq_o167 cX11_extracts 72 255 192 (qX11_extracts_4 8 167 rfl) (qX11_extracts_4 9 255 rfl) (qX11_extracts_4 10 192 rfl)
theorem dX11_extracts_75 : decode cX11_extracts 75 = .ok (.iconst 1, 1) := @dq_o4 cX11_extracts 75 (qX11_extracts_4 11 4 rfl)
theorem dX11_extracts_76 : decode cX11_extracts 76 = .ok (.ireturn, 1) := @dq_o172 cX11_extracts 76 (qX11_extracts_4 12 172 rfl)
abbrev qaX11_root_0 : List Nat := [42, 27, 28, 28, 182, 0, 238, 153, 0, 16, 42, 29, 133, 10, 20, 0]
abbrev qaX11_root_1 : List Nat := [249, 182, 0, 101, 154, 0, 5, 3, 172, 42, 3, 28, 182, 0, 241, 42]
abbrev qaX11_root_2 : List Nat := [3, 4, 29, 182, 1, 4, 153, 0, 24, 42, 4, 182, 0, 225, 153, 0]
abbrev qaX11_root_3 : List Nat := [16, 42, 27, 4, 182, 0, 244, 153, 0, 7, 4, 167, 0, 4, 3, 172]
def qtX11_root_4 : List Nat := []
def qtX11_root_3 : List Nat := qaX11_root_3 ++ qtX11_root_4
def qtX11_root_2 : List Nat := qaX11_root_2 ++ qtX11_root_3
def qtX11_root_1 : List Nat := qaX11_root_1 ++ qtX11_root_2
def qtX11_root_0 : List Nat := qaX11_root_0 ++ qtX11_root_1
theorem qeX11_root : cX11_root.data.toList.map UInt8.toNat = qtX11_root_0 := by decide +kernel
theorem qsX11_root_0 : ∀ i, dqNth qtX11_root_0 (0 + i) = dqNth qtX11_root_0 i := fun i => by rw [Nat.zero_add]
theorem qsX11_root_1 : ∀ i, dqNth qtX11_root_0 (16 + i) = dqNth qtX11_root_1 i := dq_step qsX11_root_0 rfl rfl
theorem qsX11_root_2 : ∀ i, dqNth qtX11_root_0 (32 + i) = dqNth qtX11_root_2 i := dq_step qsX11_root_1 rfl rfl
theorem qsX11_root_3 : ∀ i, dqNth qtX11_root_0 (48 + i) = dqNth qtX11_root_3 i := dq_step qsX11_root_2 rfl rfl
theorem qX11_root_0 (i b : Nat) (h : dqNth qaX11_root_0 i = some b) : DqBy cX11_root (0 + i) b := dqBy_of qeX11_root ((qsX11_root_0 i).trans (dq_in h))
theorem qX11_root_1 (i b : Nat) (h : dqNth qaX11_root_1 i = some b) : DqBy cX11_root (16 + i) b := dqBy_of qeX11_root ((qsX11_root_1 i).trans (dq_in h))
theorem qX11_root_2 (i b : Nat) (h : dqNth qaX11_root_2 i = some b) : DqBy cX11_root (32 + i) b := dqBy_of qeX11_root ((qsX11_root_2 i).trans (dq_in h))
theorem qX11_root_3 (i b : Nat) (h : dqNth qaX11_root_3 i = some b) : DqBy cX11_root (48 + i) b := dqBy_of qeX11_root ((qsX11_root_3 i).trans (dq_in h))
theorem dX11_root_0 : decode cX11_root 0 = .ok (.aload_n 0, 1) := @dq_o42 cX11_root 0 (qX11_root_0 0 42 rfl)
theorem dX11_root_1 : decode cX11_root 1 = .ok (.iload_n 1, 1) := @dq_o27 cX11_root 1 (qX11_root_0 1 27 rfl)
theorem dX11_root_2 : decode cX11_root 2 = .ok (.iload_n 2, 1) := @dq_o28 cX11_root 2 (qX11_root_0 2 28 rfl)
theorem dX11_root_3 : decode cX11_root 3 = .ok (.iload_n 2, 1) := @dq_o28 cX11_root 3 (qX11_root_0 3 28 rfl)
theorem dX11_root_4 : decode cX11_root 4 = .ok (.invokevirtual 238, 3) := @dq_o182 cX11_root 4 0 238 (qX11_root_0 4 182 rfl) (qX11_root_0 5 0 rfl) (qX11_root_0 6 238 rfl)
theorem dX11_root_7 : decode cX11_root 7 = .ok (.ifCond .eq 16, 3) := @dq_o153 cX11_root 7 0 16 (qX11_root_0 7 153 rfl) (qX11_root_0 8 0 rfl) (qX11_root_0 9 16 rfl)
theorem dX11_root_10 : decode cX11_root 10 = .ok (.aload_n 0, 1) := @dq_o42 cX11_root 10 (qX11_root_0 10 42 rfl)
theorem dX11_root_11 : decode cX11_root 11 = .ok (.iload_n 3, 1) := @dq_o29 cX11_root 11 (qX11_root_0 11 29 rfl)
theorem dX11_root_12 : decode cX11_root 12 = .ok (.i2l, 1) := @dq_o133 cX11_root 12 (qX11_root_0 12 133 rfl)
theorem dX11_root_13 : decode cX11_root 13 = .ok (.lconst 1, 1) := @dq_o10 cX11_root 13 (qX11_root_0 13 10 rfl)
theorem dX11_root_14 : decode cX11_root 14 = .ok (.ldc2_w 249, 3) := @dq_o20 cX11_root 14 0 249 (qX11_root_0 14 20 rfl) (qX11_root_0 15 0 rfl) (qX11_root_1 0 249 rfl)
theorem dX11_root_17 : decode cX11_root 17 = .ok (.invokevirtual 101, 3) := @dq_o182 cX11_root 17 0 101 (qX11_root_1 1 182 rfl) (qX11_root_1 2 0 rfl) (qX11_root_1 3 101 rfl)
theorem dX11_root_20 : decode cX11_root 20 = .ok (.ifCond .ne 5, 3) := @dq_o154 cX11_root 20 0 5 (qX11_root_1 4 154 rfl) (qX11_root_1 5 0 rfl) (qX11_root_1 6 5 rfl)
theorem dX11_root_23 : decode cX11_root 23 = .ok (.iconst 0, 1) := @dq_o3 cX11_root 23 (qX11_root_1 7 3 rfl)
theorem dX11_root_24 : decode cX11_root 24 = .ok (.ireturn, 1) := @dq_o172 cX11_root 24 (qX11_root_1 8 172 rfl)
theorem dX11_root_25 : decode cX11_root 25 = .ok (.aload_n 0, 1) := @dq_o42 cX11_root 25 (qX11_root_1 9 42 rfl)
theorem dX11_root_26 : decode cX11_root 26 = .ok (.iconst 0, 1) := @dq_o3 cX11_root 26 (qX11_root_1 10 3 rfl)
theorem dX11_root_27 : decode cX11_root 27 = .ok (.iload_n 2, 1) := @dq_o28 cX11_root 27 (qX11_root_1 11 28 rfl)
theorem dX11_root_28 : decode cX11_root 28 = .ok (.invokevirtual 241, 3) := @dq_o182 cX11_root 28 0 241 (qX11_root_1 12 182 rfl) (qX11_root_1 13 0 rfl) (qX11_root_1 14 241 rfl)
theorem dX11_root_31 : decode cX11_root 31 = .ok (.aload_n 0, 1) := @dq_o42 cX11_root 31 (qX11_root_1 15 42 rfl)
theorem dX11_root_32 : decode cX11_root 32 = .ok (.iconst 0, 1) := @dq_o3 cX11_root 32 (qX11_root_2 0 3 rfl)
theorem dX11_root_33 : decode cX11_root 33 = .ok (.iconst 1, 1) := @dq_o4 cX11_root 33 (qX11_root_2 1 4 rfl)
theorem dX11_root_34 : decode cX11_root 34 = .ok (.iload_n 3, 1) := @dq_o29 cX11_root 34 (qX11_root_2 2 29 rfl)
theorem dX11_root_35 : decode cX11_root 35 = .ok (.invokevirtual 260, 3) := @dq_o182 cX11_root 35 1 4 (qX11_root_2 3 182 rfl) (qX11_root_2 4 1 rfl) (qX11_root_2 5 4 rfl)
theorem dX11_root_38 : decode cX11_root 38 = .ok (.ifCond .eq 24, 3) := @dq_o153 cX11_root 38 0 24 (qX11_root_2 6 153 rfl) (qX11_root_2 7 0 rfl) (qX11_root_2 8 24 rfl)
theorem dX11_root_41 : decode cX11_root 41 = .ok (.aload_n 0, 1) := @dq_o42 cX11_root 41 (qX11_root_2 9 42 rfl)
theorem dX11_root_42 : decode cX11_root 42 = .ok (.iconst 1, 1) := @dq_o4 cX11_root 42 (qX11_root_2 10 4 rfl)
theorem dX11_root_43 : decode cX11_root 43 = .ok (.invokevirtual 225, 3) := @dq_o182 cX11_root 43 0 225 (qX11_root_2 11 182 rfl) (qX11_root_2 12 0 rfl) (qX11_root_2 13 225 rfl)
theorem dX11_root_46 : decode cX11_root 46 = .ok (.ifCond .eq 16, 3) := @dq_o153 cX11_root 46 0 16 (qX11_root_2 14 153 rfl) (qX11_root_2 15 0 rfl) (qX11_root_3 0 16 rfl)
theorem dX11_root_49 : decode cX11_root 49 = .ok (.aload_n 0, 1) := @dq_o42 cX11_root 49 (qX11_root_3 1 42 rfl)
theorem dX11_root_50 : decode cX11_root 50 = .ok (.iload_n 1, 1) := @dq_o27 cX11_root 50 (qX11_root_3 2 27 rfl)
theorem dX11_root_51 : decode cX11_root 51 = .ok (.iconst 1, 1) := @dq_o4 cX11_root 51 (qX11_root_3 3 4 rfl)
theorem dX11_root_52 : decode cX11_root 52 = .ok (.invokevirtual 244, 3) := @dq_o182 cX11_root 52 0 244 (qX11_root_3 4 182 rfl) (qX11_root_3 5 0 rfl) (qX11_root_3 6 244 rfl)
theorem dX11_root_55 : decode cX11_root 55 = .ok (.ifCond .eq 7, 3) := @dq_o153 cX11_root 55 0 7 (qX11_root_3 7 153 rfl) (qX11_root_3 8 0 rfl) (qX11_root_3 9 7 rfl)
theorem dX11_root_58 : decode cX11_root 58 = .ok (.iconst 1, 1) := @dq_o4 cX11_root 58 (qX11_root_3 10 4 rfl)
theorem dX11_root_59 : decode cX11_root 59 = .ok (.goto 4, 3) := @dq_o167 cX11_root 59 0 4 (qX11_root_3 11 167 rfl) (qX11_root_3 12 0 rfl) (qX11_root_3 13 4 rfl)
theorem dX11_root_62 : decode cX11_root 62 = .ok (.iconst 0, 1) := @dq_o3 cX11_root 62 (qX11_root_3 14 3 rfl)
theorem dX11_root_63 : decode cX11_root 63 = .ok (.ireturn, 1) := @dq_o172 cX11_root 63 (qX11_root_3 15 172 rfl)
abbrev qaX11_seeks_0 : List Nat := [27, 42, 182, 0, 88, 159, 0, 15, 42, 27, 182, 0, 92, 42, 182, 1]
abbrev qaX11_seeks_1 : List Nat := [7, 160, 0, 17, 42, 3, 5, 6, 182, 1, 1, 42, 6, 4, 182, 1]
abbrev qaX11_seeks_2 : List Nat := [10, 172, 28, 116, 62, 29, 28, 163, 0, 30, 42, 5, 27, 29, 133, 182]
abbrev qaX11_seeks_3 : List Nat := [0, 162, 42, 27, 4, 96, 28, 182, 1, 13, 153, 0, 5, 4, 172, 132]
abbrev qaX11_seeks_4 : List Nat := [3, 1, 167, 255, 227, 42, 5, 27, 9, 182, 0, 162, 3, 172]
def qtX11_seeks_5 : List Nat := []
def qtX11_seeks_4 : List Nat := qaX11_seeks_4 ++ qtX11_seeks_5
def qtX11_seeks_3 : List Nat := qaX11_seeks_3 ++ qtX11_seeks_4
def qtX11_seeks_2 : List Nat := qaX11_seeks_2 ++ qtX11_seeks_3
def qtX11_seeks_1 : List Nat := qaX11_seeks_1 ++ qtX11_seeks_2
def qtX11_seeks_0 : List Nat := qaX11_seeks_0 ++ qtX11_seeks_1
theorem qeX11_seeks : cX11_seeks.data.toList.map UInt8.toNat = qtX11_seeks_0 := by decide +kernel
theorem qsX11_seeks_0 : ∀ i, dqNth qtX11_seeks_0 (0 + i) = dqNth qtX11_seeks_0 i := fun i => by rw [Nat.zero_add]
theorem qsX11_seeks_1 : ∀ i, dqNth qtX11_seeks_0 (16 + i) = dqNth qtX11_seeks_1 i := dq_step qsX11_seeks_0 rfl rfl
theorem qsX11_seeks_2 : ∀ i, dqNth qtX11_seeks_0 (32 + i) = dqNth qtX11_seeks_2 i := dq_step qsX11_seeks_1 rfl rfl
theorem qsX11_seeks_3 : ∀ i, dqNth qtX11_seeks_0 (48 + i) = dqNth qtX11_seeks_3 i := dq_step qsX11_seeks_2 rfl rfl
theorem qsX11_seeks_4 : ∀ i, dqNth qtX11_seeks_0 (64 + i) = dqNth qtX11_seeks_4 i := dq_step qsX11_seeks_3 rfl rfl
theorem qX11_seeks_0 (i b : Nat) (h : dqNth qaX11_seeks_0 i = some b) : DqBy cX11_seeks (0 + i) b := dqBy_of qeX11_seeks ((qsX11_seeks_0 i).trans (dq_in h))
theorem qX11_seeks_1 (i b : Nat) (h : dqNth qaX11_seeks_1 i = some b) : DqBy cX11_seeks (16 + i) b := dqBy_of qeX11_seeks ((qsX11_seeks_1 i).trans (dq_in h))
theorem qX11_seeks_2 (i b : Nat) (h : dqNth qaX11_seeks_2 i = some b) : DqBy cX11_seeks (32 + i) b := dqBy_of qeX11_seeks ((qsX11_seeks_2 i).trans (dq_in h))
theorem qX11_seeks_3 (i b : Nat) (h : dqNth qaX11_seeks_3 i = some b) : DqBy cX11_seeks (48 + i) b := dqBy_of qeX11_seeks ((qsX11_seeks_3 i).trans (dq_in h))
theorem qX11_seeks_4 (i b : Nat) (h : dqNth qaX11_seeks_4 i = some b) : DqBy cX11_seeks (64 + i) b := dqBy_of qeX11_seeks ((qsX11_seeks_4 i).trans (dq_in h))
theorem dX11_seeks_0 : decode cX11_seeks 0 = .ok (.iload_n 1, 1) := @dq_o27 cX11_seeks 0 (qX11_seeks_0 0 27 rfl)
theorem dX11_seeks_1 : decode cX11_seeks 1 = .ok (.aload_n 0, 1) := @dq_o42 cX11_seeks 1 (qX11_seeks_0 1 42 rfl)
theorem dX11_seeks_2 : decode cX11_seeks 2 = .ok (.invokevirtual 88, 3) := @dq_o182 cX11_seeks 2 0 88 (qX11_seeks_0 2 182 rfl) (qX11_seeks_0 3 0 rfl) (qX11_seeks_0 4 88 rfl)
theorem dX11_seeks_5 : decode cX11_seeks 5 = .ok (.if_icmp .eq 15, 3) := @dq_o159 cX11_seeks 5 0 15 (qX11_seeks_0 5 159 rfl) (qX11_seeks_0 6 0 rfl) (qX11_seeks_0 7 15 rfl)
theorem dX11_seeks_8 : decode cX11_seeks 8 = .ok (.aload_n 0, 1) := @dq_o42 cX11_seeks 8 (qX11_seeks_0 8 42 rfl)
theorem dX11_seeks_9 : decode cX11_seeks 9 = .ok (.iload_n 1, 1) := @dq_o27 cX11_seeks 9 (qX11_seeks_0 9 27 rfl)
theorem dX11_seeks_10 : decode cX11_seeks 10 = .ok (.invokevirtual 92, 3) := @dq_o182 cX11_seeks 10 0 92 (qX11_seeks_0 10 182 rfl) (qX11_seeks_0 11 0 rfl) (qX11_seeks_0 12 92 rfl)
theorem dX11_seeks_13 : decode cX11_seeks 13 = .ok (.aload_n 0, 1) := @dq_o42 cX11_seeks 13 (qX11_seeks_0 13 42 rfl)
theorem dX11_seeks_14 : decode cX11_seeks 14 = .ok (.invokevirtual 263, 3) := @dq_o182 cX11_seeks 14 1 7 (qX11_seeks_0 14 182 rfl) (qX11_seeks_0 15 1 rfl) (qX11_seeks_1 0 7 rfl)
theorem dX11_seeks_17 : decode cX11_seeks 17 = .ok (.if_icmp .ne 17, 3) := @dq_o160 cX11_seeks 17 0 17 (qX11_seeks_1 1 160 rfl) (qX11_seeks_1 2 0 rfl) (qX11_seeks_1 3 17 rfl)
theorem dX11_seeks_20 : decode cX11_seeks 20 = .ok (.aload_n 0, 1) := @dq_o42 cX11_seeks 20 (qX11_seeks_1 4 42 rfl)
theorem dX11_seeks_21 : decode cX11_seeks 21 = .ok (.iconst 0, 1) := @dq_o3 cX11_seeks 21 (qX11_seeks_1 5 3 rfl)
theorem dX11_seeks_22 : decode cX11_seeks 22 = .ok (.iconst 2, 1) := @dq_o5 cX11_seeks 22 (qX11_seeks_1 6 5 rfl)
theorem dX11_seeks_23 : decode cX11_seeks 23 = .ok (.iconst 3, 1) := @dq_o6 cX11_seeks 23 (qX11_seeks_1 7 6 rfl)
theorem dX11_seeks_24 : decode cX11_seeks 24 = .ok (.invokevirtual 257, 3) := @dq_o182 cX11_seeks 24 1 1 (qX11_seeks_1 8 182 rfl) (qX11_seeks_1 9 1 rfl) (qX11_seeks_1 10 1 rfl)
theorem dX11_seeks_27 : decode cX11_seeks 27 = .ok (.aload_n 0, 1) := @dq_o42 cX11_seeks 27 (qX11_seeks_1 11 42 rfl)
theorem dX11_seeks_28 : decode cX11_seeks 28 = .ok (.iconst 3, 1) := @dq_o6 cX11_seeks 28 (qX11_seeks_1 12 6 rfl)
theorem dX11_seeks_29 : decode cX11_seeks 29 = .ok (.iconst 1, 1) := @dq_o4 cX11_seeks 29 (qX11_seeks_1 13 4 rfl)
theorem dX11_seeks_30 : decode cX11_seeks 30 = .ok (.invokevirtual 266, 3) := @dq_o182 cX11_seeks 30 1 10 (qX11_seeks_1 14 182 rfl) (qX11_seeks_1 15 1 rfl) (qX11_seeks_2 0 10 rfl)
theorem dX11_seeks_33 : decode cX11_seeks 33 = .ok (.ireturn, 1) := @dq_o172 cX11_seeks 33 (qX11_seeks_2 1 172 rfl)
theorem dX11_seeks_34 : decode cX11_seeks 34 = .ok (.iload_n 2, 1) := @dq_o28 cX11_seeks 34 (qX11_seeks_2 2 28 rfl)
theorem dX11_seeks_35 : decode cX11_seeks 35 = .ok (.ineg, 1) := @dq_o116 cX11_seeks 35 (qX11_seeks_2 3 116 rfl)
theorem dX11_seeks_36 : decode cX11_seeks 36 = .ok (.istore_n 3, 1) := @dq_o62 cX11_seeks 36 (qX11_seeks_2 4 62 rfl)
theorem dX11_seeks_37 : decode cX11_seeks 37 = .ok (.iload_n 3, 1) := @dq_o29 cX11_seeks 37 (qX11_seeks_2 5 29 rfl)
theorem dX11_seeks_38 : decode cX11_seeks 38 = .ok (.iload_n 2, 1) := @dq_o28 cX11_seeks 38 (qX11_seeks_2 6 28 rfl)
theorem dX11_seeks_39 : decode cX11_seeks 39 = .ok (.if_icmp .gt 30, 3) := @dq_o163 cX11_seeks 39 0 30 (qX11_seeks_2 7 163 rfl) (qX11_seeks_2 8 0 rfl) (qX11_seeks_2 9 30 rfl)
theorem dX11_seeks_42 : decode cX11_seeks 42 = .ok (.aload_n 0, 1) := @dq_o42 cX11_seeks 42 (qX11_seeks_2 10 42 rfl)
theorem dX11_seeks_43 : decode cX11_seeks 43 = .ok (.iconst 2, 1) := @dq_o5 cX11_seeks 43 (qX11_seeks_2 11 5 rfl)
theorem dX11_seeks_44 : decode cX11_seeks 44 = .ok (.iload_n 1, 1) := @dq_o27 cX11_seeks 44 (qX11_seeks_2 12 27 rfl)
theorem dX11_seeks_45 : decode cX11_seeks 45 = .ok (.iload_n 3, 1) := @dq_o29 cX11_seeks 45 (qX11_seeks_2 13 29 rfl)
theorem dX11_seeks_46 : decode cX11_seeks 46 = .ok (.i2l, 1) := @dq_o133 cX11_seeks 46 (qX11_seeks_2 14 133 rfl)
theorem dX11_seeks_47 : decode cX11_seeks 47 = .ok (.invokevirtual 162, 3) := @dq_o182 cX11_seeks 47 0 162 (qX11_seeks_2 15 182 rfl) (qX11_seeks_3 0 0 rfl) (qX11_seeks_3 1 162 rfl)
theorem dX11_seeks_50 : decode cX11_seeks 50 = .ok (.aload_n 0, 1) := @dq_o42 cX11_seeks 50 (qX11_seeks_3 2 42 rfl)
theorem dX11_seeks_51 : decode cX11_seeks 51 = .ok (.iload_n 1, 1) := @dq_o27 cX11_seeks 51 (qX11_seeks_3 3 27 rfl)
theorem dX11_seeks_52 : decode cX11_seeks 52 = .ok (.iconst 1, 1) := @dq_o4 cX11_seeks 52 (qX11_seeks_3 4 4 rfl)
theorem dX11_seeks_53 : decode cX11_seeks 53 = .ok (.iadd, 1) := @dq_o96 cX11_seeks 53 (qX11_seeks_3 5 96 rfl)
theorem dX11_seeks_54 : decode cX11_seeks 54 = .ok (.iload_n 2, 1) := @dq_o28 cX11_seeks 54 (qX11_seeks_3 6 28 rfl)
theorem dX11_seeks_55 : decode cX11_seeks 55 = .ok (.invokevirtual 269, 3) := @dq_o182 cX11_seeks 55 1 13 (qX11_seeks_3 7 182 rfl) (qX11_seeks_3 8 1 rfl) (qX11_seeks_3 9 13 rfl)
theorem dX11_seeks_58 : decode cX11_seeks 58 = .ok (.ifCond .eq 5, 3) := @dq_o153 cX11_seeks 58 0 5 (qX11_seeks_3 10 153 rfl) (qX11_seeks_3 11 0 rfl) (qX11_seeks_3 12 5 rfl)
theorem dX11_seeks_61 : decode cX11_seeks 61 = .ok (.iconst 1, 1) := @dq_o4 cX11_seeks 61 (qX11_seeks_3 13 4 rfl)
theorem dX11_seeks_62 : decode cX11_seeks 62 = .ok (.ireturn, 1) := @dq_o172 cX11_seeks 62 (qX11_seeks_3 14 172 rfl)
theorem dX11_seeks_63 : decode cX11_seeks 63 = .ok (.iinc 3 1, 3) := @dq_o132 cX11_seeks 63 3 1 (qX11_seeks_3 15 132 rfl) (qX11_seeks_4 0 3 rfl) (qX11_seeks_4 1 1 rfl)
theorem dX11_seeks_66 : decode cX11_seeks 66 = .ok (.goto (-29), 3) := @dq_o167 cX11_seeks 66 255 227 (qX11_seeks_4 2 167 rfl) (qX11_seeks_4 3 255 rfl) (qX11_seeks_4 4 227 rfl)
theorem dX11_seeks_69 : decode cX11_seeks 69 = .ok (.aload_n 0, 1) := @dq_o42 cX11_seeks 69 (qX11_seeks_4 5 42 rfl)
theorem dX11_seeks_70 : decode cX11_seeks 70 = .ok (.iconst 2, 1) := @dq_o5 cX11_seeks 70 (qX11_seeks_4 6 5 rfl)
theorem dX11_seeks_71 : decode cX11_seeks 71 = .ok (.iload_n 1, 1) := @dq_o27 cX11_seeks 71 (qX11_seeks_4 7 27 rfl)
theorem dX11_seeks_72 : decode cX11_seeks 72 = .ok (.lconst 0, 1) := @dq_o9 cX11_seeks 72 (qX11_seeks_4 8 9 rfl)
theorem dX11_seeks_73 : decode cX11_seeks 73 = .ok (.invokevirtual 162, 3) := @dq_o182 cX11_seeks 73 0 162 (qX11_seeks_4 9 182 rfl) (qX11_seeks_4 10 0 rfl) (qX11_seeks_4 11 162 rfl)
theorem dX11_seeks_76 : decode cX11_seeks 76 = .ok (.iconst 0, 1) := @dq_o3 cX11_seeks 76 (qX11_seeks_4 12 3 rfl)
theorem dX11_seeks_77 : decode cX11_seeks 77 = .ok (.ireturn, 1) := @dq_o172 cX11_seeks 77 (qX11_seeks_4 13 172 rfl)
abbrev qaX11_seek_0 : List Nat := [42, 27, 28, 29, 182, 0, 238, 153, 0, 17, 42, 21, 4, 133, 10, 20]
abbrev qaX11_seek_1 : List Nat := [0, 118, 182, 0, 101, 154, 0, 5, 3, 172, 42, 3, 28, 182, 0, 241]
abbrev qaX11_seek_2 : List Nat := [42, 4, 29, 182, 0, 241, 42, 5, 182, 0, 190, 42, 3, 21, 4, 182]
abbrev qaX11_seek_3 : List Nat := [1, 13, 153, 0, 16, 42, 27, 5, 182, 0, 244, 153, 0, 7, 4, 167]
abbrev qaX11_seek_4 : List Nat := [0, 4, 3, 172]
def qtX11_seek_5 : List Nat := []
def qtX11_seek_4 : List Nat := qaX11_seek_4 ++ qtX11_seek_5
def qtX11_seek_3 : List Nat := qaX11_seek_3 ++ qtX11_seek_4
def qtX11_seek_2 : List Nat := qaX11_seek_2 ++ qtX11_seek_3
def qtX11_seek_1 : List Nat := qaX11_seek_1 ++ qtX11_seek_2
def qtX11_seek_0 : List Nat := qaX11_seek_0 ++ qtX11_seek_1
theorem qeX11_seek : cX11_seek.data.toList.map UInt8.toNat = qtX11_seek_0 := by decide +kernel
theorem qsX11_seek_0 : ∀ i, dqNth qtX11_seek_0 (0 + i) = dqNth qtX11_seek_0 i := fun i => by rw [Nat.zero_add]
theorem qsX11_seek_1 : ∀ i, dqNth qtX11_seek_0 (16 + i) = dqNth qtX11_seek_1 i := dq_step qsX11_seek_0 rfl rfl
theorem qsX11_seek_2 : ∀ i, dqNth qtX11_seek_0 (32 + i) = dqNth qtX11_seek_2 i := dq_step qsX11_seek_1 rfl rfl
theorem qsX11_seek_3 : ∀ i, dqNth qtX11_seek_0 (48 + i) = dqNth qtX11_seek_3 i := dq_step qsX11_seek_2 rfl rfl
theorem qsX11_seek_4 : ∀ i, dqNth qtX11_seek_0 (64 + i) = dqNth qtX11_seek_4 i := dq_step qsX11_seek_3 rfl rfl
theorem qX11_seek_0 (i b : Nat) (h : dqNth qaX11_seek_0 i = some b) : DqBy cX11_seek (0 + i) b := dqBy_of qeX11_seek ((qsX11_seek_0 i).trans (dq_in h))
theorem qX11_seek_1 (i b : Nat) (h : dqNth qaX11_seek_1 i = some b) : DqBy cX11_seek (16 + i) b := dqBy_of qeX11_seek ((qsX11_seek_1 i).trans (dq_in h))
theorem qX11_seek_2 (i b : Nat) (h : dqNth qaX11_seek_2 i = some b) : DqBy cX11_seek (32 + i) b := dqBy_of qeX11_seek ((qsX11_seek_2 i).trans (dq_in h))
theorem qX11_seek_3 (i b : Nat) (h : dqNth qaX11_seek_3 i = some b) : DqBy cX11_seek (48 + i) b := dqBy_of qeX11_seek ((qsX11_seek_3 i).trans (dq_in h))
theorem qX11_seek_4 (i b : Nat) (h : dqNth qaX11_seek_4 i = some b) : DqBy cX11_seek (64 + i) b := dqBy_of qeX11_seek ((qsX11_seek_4 i).trans (dq_in h))
theorem dX11_seek_0 : decode cX11_seek 0 = .ok (.aload_n 0, 1) := @dq_o42 cX11_seek 0 (qX11_seek_0 0 42 rfl)
theorem dX11_seek_1 : decode cX11_seek 1 = .ok (.iload_n 1, 1) := @dq_o27 cX11_seek 1 (qX11_seek_0 1 27 rfl)
theorem dX11_seek_2 : decode cX11_seek 2 = .ok (.iload_n 2, 1) := @dq_o28 cX11_seek 2 (qX11_seek_0 2 28 rfl)
theorem dX11_seek_3 : decode cX11_seek 3 = .ok (.iload_n 3, 1) := @dq_o29 cX11_seek 3 (qX11_seek_0 3 29 rfl)
theorem dX11_seek_4 : decode cX11_seek 4 = .ok (.invokevirtual 238, 3) := @dq_o182 cX11_seek 4 0 238 (qX11_seek_0 4 182 rfl) (qX11_seek_0 5 0 rfl) (qX11_seek_0 6 238 rfl)
theorem dX11_seek_7 : decode cX11_seek 7 = .ok (.ifCond .eq 17, 3) := @dq_o153 cX11_seek 7 0 17 (qX11_seek_0 7 153 rfl) (qX11_seek_0 8 0 rfl) (qX11_seek_0 9 17 rfl)
theorem dX11_seek_10 : decode cX11_seek 10 = .ok (.aload_n 0, 1) := @dq_o42 cX11_seek 10 (qX11_seek_0 10 42 rfl)
theorem dX11_seek_11 : decode cX11_seek 11 = .ok (.iload 4, 2) := @dq_o21 cX11_seek 11 4 (qX11_seek_0 11 21 rfl) (qX11_seek_0 12 4 rfl)
theorem dX11_seek_13 : decode cX11_seek 13 = .ok (.i2l, 1) := @dq_o133 cX11_seek 13 (qX11_seek_0 13 133 rfl)
theorem dX11_seek_14 : decode cX11_seek 14 = .ok (.lconst 1, 1) := @dq_o10 cX11_seek 14 (qX11_seek_0 14 10 rfl)
theorem dX11_seek_15 : decode cX11_seek 15 = .ok (.ldc2_w 118, 3) := @dq_o20 cX11_seek 15 0 118 (qX11_seek_0 15 20 rfl) (qX11_seek_1 0 0 rfl) (qX11_seek_1 1 118 rfl)
theorem dX11_seek_18 : decode cX11_seek 18 = .ok (.invokevirtual 101, 3) := @dq_o182 cX11_seek 18 0 101 (qX11_seek_1 2 182 rfl) (qX11_seek_1 3 0 rfl) (qX11_seek_1 4 101 rfl)
theorem dX11_seek_21 : decode cX11_seek 21 = .ok (.ifCond .ne 5, 3) := @dq_o154 cX11_seek 21 0 5 (qX11_seek_1 5 154 rfl) (qX11_seek_1 6 0 rfl) (qX11_seek_1 7 5 rfl)
theorem dX11_seek_24 : decode cX11_seek 24 = .ok (.iconst 0, 1) := @dq_o3 cX11_seek 24 (qX11_seek_1 8 3 rfl)
theorem dX11_seek_25 : decode cX11_seek 25 = .ok (.ireturn, 1) := @dq_o172 cX11_seek 25 (qX11_seek_1 9 172 rfl)
theorem dX11_seek_26 : decode cX11_seek 26 = .ok (.aload_n 0, 1) := @dq_o42 cX11_seek 26 (qX11_seek_1 10 42 rfl)
theorem dX11_seek_27 : decode cX11_seek 27 = .ok (.iconst 0, 1) := @dq_o3 cX11_seek 27 (qX11_seek_1 11 3 rfl)
theorem dX11_seek_28 : decode cX11_seek 28 = .ok (.iload_n 2, 1) := @dq_o28 cX11_seek 28 (qX11_seek_1 12 28 rfl)
theorem dX11_seek_29 : decode cX11_seek 29 = .ok (.invokevirtual 241, 3) := @dq_o182 cX11_seek 29 0 241 (qX11_seek_1 13 182 rfl) (qX11_seek_1 14 0 rfl) (qX11_seek_1 15 241 rfl)
theorem dX11_seek_32 : decode cX11_seek 32 = .ok (.aload_n 0, 1) := @dq_o42 cX11_seek 32 (qX11_seek_2 0 42 rfl)
theorem dX11_seek_33 : decode cX11_seek 33 = .ok (.iconst 1, 1) := @dq_o4 cX11_seek 33 (qX11_seek_2 1 4 rfl)
theorem dX11_seek_34 : decode cX11_seek 34 = .ok (.iload_n 3, 1) := @dq_o29 cX11_seek 34 (qX11_seek_2 2 29 rfl)
theorem dX11_seek_35 : decode cX11_seek 35 = .ok (.invokevirtual 241, 3) := @dq_o182 cX11_seek 35 0 241 (qX11_seek_2 3 182 rfl) (qX11_seek_2 4 0 rfl) (qX11_seek_2 5 241 rfl)
theorem dX11_seek_38 : decode cX11_seek 38 = .ok (.aload_n 0, 1) := @dq_o42 cX11_seek 38 (qX11_seek_2 6 42 rfl)
theorem dX11_seek_39 : decode cX11_seek 39 = .ok (.iconst 2, 1) := @dq_o5 cX11_seek 39 (qX11_seek_2 7 5 rfl)
theorem dX11_seek_40 : decode cX11_seek 40 = .ok (.invokevirtual 190, 3) := @dq_o182 cX11_seek 40 0 190 (qX11_seek_2 8 182 rfl) (qX11_seek_2 9 0 rfl) (qX11_seek_2 10 190 rfl)
theorem dX11_seek_43 : decode cX11_seek 43 = .ok (.aload_n 0, 1) := @dq_o42 cX11_seek 43 (qX11_seek_2 11 42 rfl)
theorem dX11_seek_44 : decode cX11_seek 44 = .ok (.iconst 0, 1) := @dq_o3 cX11_seek 44 (qX11_seek_2 12 3 rfl)
theorem dX11_seek_45 : decode cX11_seek 45 = .ok (.iload 4, 2) := @dq_o21 cX11_seek 45 4 (qX11_seek_2 13 21 rfl) (qX11_seek_2 14 4 rfl)
theorem dX11_seek_47 : decode cX11_seek 47 = .ok (.invokevirtual 269, 3) := @dq_o182 cX11_seek 47 1 13 (qX11_seek_2 15 182 rfl) (qX11_seek_3 0 1 rfl) (qX11_seek_3 1 13 rfl)
theorem dX11_seek_50 : decode cX11_seek 50 = .ok (.ifCond .eq 16, 3) := @dq_o153 cX11_seek 50 0 16 (qX11_seek_3 2 153 rfl) (qX11_seek_3 3 0 rfl) (qX11_seek_3 4 16 rfl)
theorem dX11_seek_53 : decode cX11_seek 53 = .ok (.aload_n 0, 1) := @dq_o42 cX11_seek 53 (qX11_seek_3 5 42 rfl)
theorem dX11_seek_54 : decode cX11_seek 54 = .ok (.iload_n 1, 1) := @dq_o27 cX11_seek 54 (qX11_seek_3 6 27 rfl)
theorem dX11_seek_55 : decode cX11_seek 55 = .ok (.iconst 2, 1) := @dq_o5 cX11_seek 55 (qX11_seek_3 7 5 rfl)
theorem dX11_seek_56 : decode cX11_seek 56 = .ok (.invokevirtual 244, 3) := @dq_o182 cX11_seek 56 0 244 (qX11_seek_3 8 182 rfl) (qX11_seek_3 9 0 rfl) (qX11_seek_3 10 244 rfl)
theorem dX11_seek_59 : decode cX11_seek 59 = .ok (.ifCond .eq 7, 3) := @dq_o153 cX11_seek 59 0 7 (qX11_seek_3 11 153 rfl) (qX11_seek_3 12 0 rfl) (qX11_seek_3 13 7 rfl)
theorem dX11_seek_62 : decode cX11_seek 62 = .ok (.iconst 1, 1) := @dq_o4 cX11_seek 62 (qX11_seek_3 14 4 rfl)
theorem dX11_seek_63 : decode cX11_seek 63 = .ok (.goto 4, 3) := @dq_o167 cX11_seek 63 0 4 (qX11_seek_3 15 167 rfl) (qX11_seek_4 0 0 rfl) (qX11_seek_4 1 4 rfl)
theorem dX11_seek_66 : decode cX11_seek 66 = .ok (.iconst 0, 1) := @dq_o3 cX11_seek 66 (qX11_seek_4 2 3 rfl)
theorem dX11_seek_67 : decode cX11_seek 67 = .ok (.ireturn, 1) := @dq_o172 cX11_seek 67 (qX11_seek_4 3 172 rfl)
abbrev qaX11_types_0 : List Nat := [16, 24, 61, 28, 155, 0, 35, 42, 180, 0, 46, 42, 180, 1, 16, 27]
abbrev qaX11_types_1 : List Nat := [28, 122, 17, 0, 255, 126, 79, 42, 42, 180, 1, 16, 4, 96, 181, 1]
abbrev qaX11_types_2 : List Nat := [16, 132, 2, 248, 167, 255, 223, 177]
def qtX11_types_3 : List Nat := []
def qtX11_types_2 : List Nat := qaX11_types_2 ++ qtX11_types_3
def qtX11_types_1 : List Nat := qaX11_types_1 ++ qtX11_types_2
def qtX11_types_0 : List Nat := qaX11_types_0 ++ qtX11_types_1
theorem qeX11_types : cX11_types.data.toList.map UInt8.toNat = qtX11_types_0 := by decide +kernel
theorem qsX11_types_0 : ∀ i, dqNth qtX11_types_0 (0 + i) = dqNth qtX11_types_0 i := fun i => by rw [Nat.zero_add]
theorem qsX11_types_1 : ∀ i, dqNth qtX11_types_0 (16 + i) = dqNth qtX11_types_1 i := dq_step qsX11_types_0 rfl rfl
theorem qsX11_types_2 : ∀ i, dqNth qtX11_types_0 (32 + i) = dqNth qtX11_types_2 i := dq_step qsX11_types_1 rfl rfl
theorem qX11_types_0 (i b : Nat) (h : dqNth qaX11_types_0 i = some b) : DqBy cX11_types (0 + i) b := dqBy_of qeX11_types ((qsX11_types_0 i).trans (dq_in h))
theorem qX11_types_1 (i b : Nat) (h : dqNth qaX11_types_1 i = some b) : DqBy cX11_types (16 + i) b := dqBy_of qeX11_types ((qsX11_types_1 i).trans (dq_in h))
theorem qX11_types_2 (i b : Nat) (h : dqNth qaX11_types_2 i = some b) : DqBy cX11_types (32 + i) b := dqBy_of qeX11_types ((qsX11_types_2 i).trans (dq_in h))
theorem dX11_types_0 : decode cX11_types 0 = .ok (.bipush 24, 2) := @dq_o16 cX11_types 0 24 (qX11_types_0 0 16 rfl) (qX11_types_0 1 24 rfl)
theorem dX11_types_2 : decode cX11_types 2 = .ok (.istore_n 2, 1) := @dq_o61 cX11_types 2 (qX11_types_0 2 61 rfl)
theorem dX11_types_3 : decode cX11_types 3 = .ok (.iload_n 2, 1) := @dq_o28 cX11_types 3 (qX11_types_0 3 28 rfl)
theorem dX11_types_4 : decode cX11_types 4 = .ok (.ifCond .lt 35, 3) := @dq_o155 cX11_types 4 0 35 (qX11_types_0 4 155 rfl) (qX11_types_0 5 0 rfl) (qX11_types_0 6 35 rfl)
theorem dX11_types_7 : decode cX11_types 7 = .ok (.aload_n 0, 1) := @dq_o42 cX11_types 7 (qX11_types_0 7 42 rfl)
theorem dX11_types_8 : decode cX11_types 8 = .ok (.getfield 46, 3) := @dq_o180 cX11_types 8 0 46 (qX11_types_0 8 180 rfl) (qX11_types_0 9 0 rfl) (qX11_types_0 10 46 rfl)
theorem dX11_types_11 : decode cX11_types 11 = .ok (.aload_n 0, 1) := @dq_o42 cX11_types 11 (qX11_types_0 11 42 rfl)
theorem dX11_types_12 : decode cX11_types 12 = .ok (.getfield 272, 3) := @dq_o180 cX11_types 12 1 16 (qX11_types_0 12 180 rfl) (qX11_types_0 13 1 rfl) (qX11_types_0 14 16 rfl)
theorem dX11_types_15 : decode cX11_types 15 = .ok (.iload_n 1, 1) := @dq_o27 cX11_types 15 (qX11_types_0 15 27 rfl)
theorem dX11_types_16 : decode cX11_types 16 = .ok (.iload_n 2, 1) := @dq_o28 cX11_types 16 (qX11_types_1 0 28 rfl)
theorem dX11_types_17 : decode cX11_types 17 = .ok (.ishr, 1) := @dq_o122 cX11_types 17 (qX11_types_1 1 122 rfl)
theorem dX11_types_18 : decode cX11_types 18 = .ok (.sipush 255, 3) := @dq_o17 cX11_types 18 0 255 (qX11_types_1 2 17 rfl) (qX11_types_1 3 0 rfl) (qX11_types_1 4 255 rfl)
theorem dX11_types_21 : decode cX11_types 21 = .ok (.iand, 1) := @dq_o126 cX11_types 21 (qX11_types_1 5 126 rfl)
theorem dX11_types_22 : decode cX11_types 22 = .ok (.iastore, 1) := @dq_o79 cX11_types 22 (qX11_types_1 6 79 rfl)
theorem dX11_types_23 : decode cX11_types 23 = .ok (.aload_n 0, 1) := @dq_o42 cX11_types 23 (qX11_types_1 7 42 rfl)
theorem dX11_types_24 : decode cX11_types 24 = .ok (.aload_n 0, 1) := @dq_o42 cX11_types 24 (qX11_types_1 8 42 rfl)
theorem dX11_types_25 : decode cX11_types 25 = .ok (.getfield 272, 3) := @dq_o180 cX11_types 25 1 16 (qX11_types_1 9 180 rfl) (qX11_types_1 10 1 rfl) (qX11_types_1 11 16 rfl)
theorem dX11_types_28 : decode cX11_types 28 = .ok (.iconst 1, 1) := @dq_o4 cX11_types 28 (qX11_types_1 12 4 rfl)
theorem dX11_types_29 : decode cX11_types 29 = .ok (.iadd, 1) := @dq_o96 cX11_types 29 (qX11_types_1 13 96 rfl)
theorem dX11_types_30 : decode cX11_types 30 = .ok (.putfield 272, 3) := @dq_o181 cX11_types 30 1 16 (qX11_types_1 14 181 rfl) (qX11_types_1 15 1 rfl) (qX11_types_2 0 16 rfl)
theorem dX11_types_33 : decode cX11_types 33 = .ok (.iinc 2 (-8), 3) := @dq_o132 cX11_types 33 2 248 (qX11_types_2 1 132 rfl) (qX11_types_2 2 2 rfl) (qX11_types_2 3 248 rfl)
theorem dX11_types_36 : decode cX11_types 36 = .ok (.goto (-33), 3) := @dq_o167 cX11_types 36 255 223 (qX11_types_2 4 167 rfl) (qX11_types_2 5 255 rfl) (qX11_types_2 6 223 rfl)
theorem dX11_types_39 : decode cX11_types 39 = .ok (.return_, 1) := @dq_o177 cX11_types 39 (qX11_types_2 7 177 rfl)
abbrev qaX11_feed_0 : List Nat := [42, 3, 181, 0, 1, 42, 180, 1, 16, 17, 0, 180, 164, 0, 5, 2]
abbrev qaX11_feed_1 : List Nat := [172, 42, 27, 182, 1, 19, 42, 28, 182, 1, 19, 42, 29, 182, 1, 19]
abbrev qaX11_feed_2 : List Nat := [42, 21, 4, 182, 1, 19, 42, 21, 5, 182, 1, 19, 42, 180, 1, 16]
abbrev qaX11_feed_3 : List Nat := [172]
def qtX11_feed_4 : List Nat := []
def qtX11_feed_3 : List Nat := qaX11_feed_3 ++ qtX11_feed_4
def qtX11_feed_2 : List Nat := qaX11_feed_2 ++ qtX11_feed_3
def qtX11_feed_1 : List Nat := qaX11_feed_1 ++ qtX11_feed_2
def qtX11_feed_0 : List Nat := qaX11_feed_0 ++ qtX11_feed_1
theorem qeX11_feed : cX11_feed.data.toList.map UInt8.toNat = qtX11_feed_0 := by decide +kernel
theorem qsX11_feed_0 : ∀ i, dqNth qtX11_feed_0 (0 + i) = dqNth qtX11_feed_0 i := fun i => by rw [Nat.zero_add]
theorem qsX11_feed_1 : ∀ i, dqNth qtX11_feed_0 (16 + i) = dqNth qtX11_feed_1 i := dq_step qsX11_feed_0 rfl rfl
theorem qsX11_feed_2 : ∀ i, dqNth qtX11_feed_0 (32 + i) = dqNth qtX11_feed_2 i := dq_step qsX11_feed_1 rfl rfl
theorem qsX11_feed_3 : ∀ i, dqNth qtX11_feed_0 (48 + i) = dqNth qtX11_feed_3 i := dq_step qsX11_feed_2 rfl rfl
theorem qX11_feed_0 (i b : Nat) (h : dqNth qaX11_feed_0 i = some b) : DqBy cX11_feed (0 + i) b := dqBy_of qeX11_feed ((qsX11_feed_0 i).trans (dq_in h))
theorem qX11_feed_1 (i b : Nat) (h : dqNth qaX11_feed_1 i = some b) : DqBy cX11_feed (16 + i) b := dqBy_of qeX11_feed ((qsX11_feed_1 i).trans (dq_in h))
theorem qX11_feed_2 (i b : Nat) (h : dqNth qaX11_feed_2 i = some b) : DqBy cX11_feed (32 + i) b := dqBy_of qeX11_feed ((qsX11_feed_2 i).trans (dq_in h))
theorem qX11_feed_3 (i b : Nat) (h : dqNth qaX11_feed_3 i = some b) : DqBy cX11_feed (48 + i) b := dqBy_of qeX11_feed ((qsX11_feed_3 i).trans (dq_in h))
theorem dX11_feed_0 : decode cX11_feed 0 = .ok (.aload_n 0, 1) := @dq_o42 cX11_feed 0 (qX11_feed_0 0 42 rfl)
theorem dX11_feed_1 : decode cX11_feed 1 = .ok (.iconst 0, 1) := @dq_o3 cX11_feed 1 (qX11_feed_0 1 3 rfl)
theorem dX11_feed_2 : decode cX11_feed 2 = .ok (.putfield 1, 3) := @dq_o181 cX11_feed 2 0 1 (qX11_feed_0 2 181 rfl) (qX11_feed_0 3 0 rfl) (qX11_feed_0 4 1 rfl)
theorem dX11_feed_5 : decode cX11_feed 5 = .ok (.aload_n 0, 1) := @dq_o42 cX11_feed 5 (qX11_feed_0 5 42 rfl)
theorem dX11_feed_6 : decode cX11_feed 6 = .ok (.getfield 272, 3) := @dq_o180 cX11_feed 6 1 16 (qX11_feed_0 6 180 rfl) (qX11_feed_0 7 1 rfl) (qX11_feed_0 8 16 rfl)
theorem dX11_feed_9 : decode cX11_feed 9 = .ok (.sipush 180, 3) := @dq_o17 cX11_feed 9 0 180 (qX11_feed_0 9 17 rfl) (qX11_feed_0 10 0 rfl) (qX11_feed_0 11 180 rfl)
theorem dX11_feed_12 : decode cX11_feed 12 = .ok (.if_icmp .le 5, 3) := @dq_o164 cX11_feed 12 0 5 (qX11_feed_0 12 164 rfl) (qX11_feed_0 13 0 rfl) (qX11_feed_0 14 5 rfl)
theorem dX11_feed_15 : decode cX11_feed 15 = .ok (.iconst (-1), 1) := @dq_o2 cX11_feed 15 (qX11_feed_0 15 2 rfl)
theorem dX11_feed_16 : decode cX11_feed 16 = .ok (.ireturn, 1) := @dq_o172 cX11_feed 16 (qX11_feed_1 0 172 rfl)
theorem dX11_feed_17 : decode cX11_feed 17 = .ok (.aload_n 0, 1) := @dq_o42 cX11_feed 17 (qX11_feed_1 1 42 rfl)
theorem dX11_feed_18 : decode cX11_feed 18 = .ok (.iload_n 1, 1) := @dq_o27 cX11_feed 18 (qX11_feed_1 2 27 rfl)
theorem dX11_feed_19 : decode cX11_feed 19 = .ok (.invokevirtual 275, 3) := @dq_o182 cX11_feed 19 1 19 (qX11_feed_1 3 182 rfl) (qX11_feed_1 4 1 rfl) (qX11_feed_1 5 19 rfl)
theorem dX11_feed_22 : decode cX11_feed 22 = .ok (.aload_n 0, 1) := @dq_o42 cX11_feed 22 (qX11_feed_1 6 42 rfl)
theorem dX11_feed_23 : decode cX11_feed 23 = .ok (.iload_n 2, 1) := @dq_o28 cX11_feed 23 (qX11_feed_1 7 28 rfl)
theorem dX11_feed_24 : decode cX11_feed 24 = .ok (.invokevirtual 275, 3) := @dq_o182 cX11_feed 24 1 19 (qX11_feed_1 8 182 rfl) (qX11_feed_1 9 1 rfl) (qX11_feed_1 10 19 rfl)
theorem dX11_feed_27 : decode cX11_feed 27 = .ok (.aload_n 0, 1) := @dq_o42 cX11_feed 27 (qX11_feed_1 11 42 rfl)
theorem dX11_feed_28 : decode cX11_feed 28 = .ok (.iload_n 3, 1) := @dq_o29 cX11_feed 28 (qX11_feed_1 12 29 rfl)
theorem dX11_feed_29 : decode cX11_feed 29 = .ok (.invokevirtual 275, 3) := @dq_o182 cX11_feed 29 1 19 (qX11_feed_1 13 182 rfl) (qX11_feed_1 14 1 rfl) (qX11_feed_1 15 19 rfl)
theorem dX11_feed_32 : decode cX11_feed 32 = .ok (.aload_n 0, 1) := @dq_o42 cX11_feed 32 (qX11_feed_2 0 42 rfl)
theorem dX11_feed_33 : decode cX11_feed 33 = .ok (.iload 4, 2) := @dq_o21 cX11_feed 33 4 (qX11_feed_2 1 21 rfl) (qX11_feed_2 2 4 rfl)
theorem dX11_feed_35 : decode cX11_feed 35 = .ok (.invokevirtual 275, 3) := @dq_o182 cX11_feed 35 1 19 (qX11_feed_2 3 182 rfl) (qX11_feed_2 4 1 rfl) (qX11_feed_2 5 19 rfl)
theorem dX11_feed_38 : decode cX11_feed 38 = .ok (.aload_n 0, 1) := @dq_o42 cX11_feed 38 (qX11_feed_2 6 42 rfl)
theorem dX11_feed_39 : decode cX11_feed 39 = .ok (.iload 5, 2) := @dq_o21 cX11_feed 39 5 (qX11_feed_2 7 21 rfl) (qX11_feed_2 8 5 rfl)
theorem dX11_feed_41 : decode cX11_feed 41 = .ok (.invokevirtual 275, 3) := @dq_o182 cX11_feed 41 1 19 (qX11_feed_2 9 182 rfl) (qX11_feed_2 10 1 rfl) (qX11_feed_2 11 19 rfl)
theorem dX11_feed_44 : decode cX11_feed 44 = .ok (.aload_n 0, 1) := @dq_o42 cX11_feed 44 (qX11_feed_2 12 42 rfl)
theorem dX11_feed_45 : decode cX11_feed 45 = .ok (.getfield 272, 3) := @dq_o180 cX11_feed 45 1 16 (qX11_feed_2 13 180 rfl) (qX11_feed_2 14 1 rfl) (qX11_feed_2 15 16 rfl)
theorem dX11_feed_48 : decode cX11_feed 48 = .ok (.ireturn, 1) := @dq_o172 cX11_feed 48 (qX11_feed_3 0 172 rfl)
abbrev qaX11_end_0 : List Nat := [42, 3, 181, 0, 1, 42, 27, 133, 9, 42, 180, 1, 16, 133, 182, 0]
abbrev qaX11_end_1 : List Nat := [101, 154, 0, 5, 3, 172, 42, 27, 181, 1, 16, 4, 172]
def qtX11_end_2 : List Nat := []
def qtX11_end_1 : List Nat := qaX11_end_1 ++ qtX11_end_2
def qtX11_end_0 : List Nat := qaX11_end_0 ++ qtX11_end_1
theorem qeX11_end : cX11_end.data.toList.map UInt8.toNat = qtX11_end_0 := by decide +kernel
theorem qsX11_end_0 : ∀ i, dqNth qtX11_end_0 (0 + i) = dqNth qtX11_end_0 i := fun i => by rw [Nat.zero_add]
theorem qsX11_end_1 : ∀ i, dqNth qtX11_end_0 (16 + i) = dqNth qtX11_end_1 i := dq_step qsX11_end_0 rfl rfl
theorem qX11_end_0 (i b : Nat) (h : dqNth qaX11_end_0 i = some b) : DqBy cX11_end (0 + i) b := dqBy_of qeX11_end ((qsX11_end_0 i).trans (dq_in h))
theorem qX11_end_1 (i b : Nat) (h : dqNth qaX11_end_1 i = some b) : DqBy cX11_end (16 + i) b := dqBy_of qeX11_end ((qsX11_end_1 i).trans (dq_in h))
theorem dX11_end_0 : decode cX11_end 0 = .ok (.aload_n 0, 1) := @dq_o42 cX11_end 0 (qX11_end_0 0 42 rfl)
theorem dX11_end_1 : decode cX11_end 1 = .ok (.iconst 0, 1) := @dq_o3 cX11_end 1 (qX11_end_0 1 3 rfl)
theorem dX11_end_2 : decode cX11_end 2 = .ok (.putfield 1, 3) := @dq_o181 cX11_end 2 0 1 (qX11_end_0 2 181 rfl) (qX11_end_0 3 0 rfl) (qX11_end_0 4 1 rfl)
theorem dX11_end_5 : decode cX11_end 5 = .ok (.aload_n 0, 1) := @dq_o42 cX11_end 5 (qX11_end_0 5 42 rfl)
theorem dX11_end_6 : decode cX11_end 6 = .ok (.iload_n 1, 1) := @dq_o27 cX11_end 6 (qX11_end_0 6 27 rfl)
theorem dX11_end_7 : decode cX11_end 7 = .ok (.i2l, 1) := @dq_o133 cX11_end 7 (qX11_end_0 7 133 rfl)
theorem dX11_end_8 : decode cX11_end 8 = .ok (.lconst 0, 1) := @dq_o9 cX11_end 8 (qX11_end_0 8 9 rfl)
theorem dX11_end_9 : decode cX11_end 9 = .ok (.aload_n 0, 1) := @dq_o42 cX11_end 9 (qX11_end_0 9 42 rfl)
theorem dX11_end_10 : decode cX11_end 10 = .ok (.getfield 272, 3) := @dq_o180 cX11_end 10 1 16 (qX11_end_0 10 180 rfl) (qX11_end_0 11 1 rfl) (qX11_end_0 12 16 rfl)
theorem dX11_end_13 : decode cX11_end 13 = .ok (.i2l, 1) := @dq_o133 cX11_end 13 (qX11_end_0 13 133 rfl)
theorem dX11_end_14 : decode cX11_end 14 = .ok (.invokevirtual 101, 3) := @dq_o182 cX11_end 14 0 101 (qX11_end_0 14 182 rfl) (qX11_end_0 15 0 rfl) (qX11_end_1 0 101 rfl)
theorem dX11_end_17 : decode cX11_end 17 = .ok (.ifCond .ne 5, 3) := @dq_o154 cX11_end 17 0 5 (qX11_end_1 1 154 rfl) (qX11_end_1 2 0 rfl) (qX11_end_1 3 5 rfl)
theorem dX11_end_20 : decode cX11_end 20 = .ok (.iconst 0, 1) := @dq_o3 cX11_end 20 (qX11_end_1 4 3 rfl)
theorem dX11_end_21 : decode cX11_end 21 = .ok (.ireturn, 1) := @dq_o172 cX11_end 21 (qX11_end_1 5 172 rfl)
theorem dX11_end_22 : decode cX11_end 22 = .ok (.aload_n 0, 1) := @dq_o42 cX11_end 22 (qX11_end_1 6 42 rfl)
theorem dX11_end_23 : decode cX11_end 23 = .ok (.iload_n 1, 1) := @dq_o27 cX11_end 23 (qX11_end_1 7 27 rfl)
theorem dX11_end_24 : decode cX11_end 24 = .ok (.putfield 272, 3) := @dq_o181 cX11_end 24 1 16 (qX11_end_1 8 181 rfl) (qX11_end_1 9 1 rfl) (qX11_end_1 10 16 rfl)
theorem dX11_end_27 : decode cX11_end 27 = .ok (.iconst 1, 1) := @dq_o4 cX11_end 27 (qX11_end_1 11 4 rfl)
theorem dX11_end_28 : decode cX11_end 28 = .ok (.ireturn, 1) := @dq_o172 cX11_end 28 (qX11_end_1 12 172 rfl)
abbrev qaX11_here_0 : List Nat := [42, 180, 1, 22, 42, 180, 1, 25, 162, 0, 15, 42, 180, 0, 46, 42]
abbrev qaX11_here_1 : List Nat := [180, 1, 22, 46, 167, 0, 4, 2, 172]
def qtX11_here_2 : List Nat := []
def qtX11_here_1 : List Nat := qaX11_here_1 ++ qtX11_here_2
def qtX11_here_0 : List Nat := qaX11_here_0 ++ qtX11_here_1
theorem qeX11_here : cX11_here.data.toList.map UInt8.toNat = qtX11_here_0 := by decide +kernel
theorem qsX11_here_0 : ∀ i, dqNth qtX11_here_0 (0 + i) = dqNth qtX11_here_0 i := fun i => by rw [Nat.zero_add]
theorem qsX11_here_1 : ∀ i, dqNth qtX11_here_0 (16 + i) = dqNth qtX11_here_1 i := dq_step qsX11_here_0 rfl rfl
theorem qX11_here_0 (i b : Nat) (h : dqNth qaX11_here_0 i = some b) : DqBy cX11_here (0 + i) b := dqBy_of qeX11_here ((qsX11_here_0 i).trans (dq_in h))
theorem qX11_here_1 (i b : Nat) (h : dqNth qaX11_here_1 i = some b) : DqBy cX11_here (16 + i) b := dqBy_of qeX11_here ((qsX11_here_1 i).trans (dq_in h))
theorem dX11_here_0 : decode cX11_here 0 = .ok (.aload_n 0, 1) := @dq_o42 cX11_here 0 (qX11_here_0 0 42 rfl)
theorem dX11_here_1 : decode cX11_here 1 = .ok (.getfield 278, 3) := @dq_o180 cX11_here 1 1 22 (qX11_here_0 1 180 rfl) (qX11_here_0 2 1 rfl) (qX11_here_0 3 22 rfl)
theorem dX11_here_4 : decode cX11_here 4 = .ok (.aload_n 0, 1) := @dq_o42 cX11_here 4 (qX11_here_0 4 42 rfl)
theorem dX11_here_5 : decode cX11_here 5 = .ok (.getfield 281, 3) := @dq_o180 cX11_here 5 1 25 (qX11_here_0 5 180 rfl) (qX11_here_0 6 1 rfl) (qX11_here_0 7 25 rfl)
theorem dX11_here_8 : decode cX11_here 8 = .ok (.if_icmp .ge 15, 3) := @dq_o162 cX11_here 8 0 15 (qX11_here_0 8 162 rfl) (qX11_here_0 9 0 rfl) (qX11_here_0 10 15 rfl)
theorem dX11_here_11 : decode cX11_here 11 = .ok (.aload_n 0, 1) := @dq_o42 cX11_here 11 (qX11_here_0 11 42 rfl)
theorem dX11_here_12 : decode cX11_here 12 = .ok (.getfield 46, 3) := @dq_o180 cX11_here 12 0 46 (qX11_here_0 12 180 rfl) (qX11_here_0 13 0 rfl) (qX11_here_0 14 46 rfl)
theorem dX11_here_15 : decode cX11_here 15 = .ok (.aload_n 0, 1) := @dq_o42 cX11_here 15 (qX11_here_0 15 42 rfl)
theorem dX11_here_16 : decode cX11_here 16 = .ok (.getfield 278, 3) := @dq_o180 cX11_here 16 1 22 (qX11_here_1 0 180 rfl) (qX11_here_1 1 1 rfl) (qX11_here_1 2 22 rfl)
theorem dX11_here_19 : decode cX11_here 19 = .ok (.iaload, 1) := @dq_o46 cX11_here 19 (qX11_here_1 3 46 rfl)
theorem dX11_here_20 : decode cX11_here 20 = .ok (.goto 4, 3) := @dq_o167 cX11_here 20 0 4 (qX11_here_1 4 167 rfl) (qX11_here_1 5 0 rfl) (qX11_here_1 6 4 rfl)
theorem dX11_here_23 : decode cX11_here 23 = .ok (.iconst (-1), 1) := @dq_o2 cX11_here 23 (qX11_here_1 7 2 rfl)
theorem dX11_here_24 : decode cX11_here 24 = .ok (.ireturn, 1) := @dq_o172 cX11_here 24 (qX11_here_1 8 172 rfl)
abbrev qaX11_behindBlanks_0 : List Nat := [42, 182, 1, 28, 16, 32, 160, 0, 16, 42, 42, 180, 1, 22, 4, 96]
abbrev qaX11_behindBlanks_1 : List Nat := [181, 1, 22, 167, 255, 237, 42, 182, 1, 28, 172]
def qtX11_behindBlanks_2 : List Nat := []
def qtX11_behindBlanks_1 : List Nat := qaX11_behindBlanks_1 ++ qtX11_behindBlanks_2
def qtX11_behindBlanks_0 : List Nat := qaX11_behindBlanks_0 ++ qtX11_behindBlanks_1
theorem qeX11_behindBlanks : cX11_behindBlanks.data.toList.map UInt8.toNat = qtX11_behindBlanks_0 := by decide +kernel
theorem qsX11_behindBlanks_0 : ∀ i, dqNth qtX11_behindBlanks_0 (0 + i) = dqNth qtX11_behindBlanks_0 i := fun i => by rw [Nat.zero_add]
theorem qsX11_behindBlanks_1 : ∀ i, dqNth qtX11_behindBlanks_0 (16 + i) = dqNth qtX11_behindBlanks_1 i := dq_step qsX11_behindBlanks_0 rfl rfl
theorem qX11_behindBlanks_0 (i b : Nat) (h : dqNth qaX11_behindBlanks_0 i = some b) : DqBy cX11_behindBlanks (0 + i) b := dqBy_of qeX11_behindBlanks ((qsX11_behindBlanks_0 i).trans (dq_in h))
theorem qX11_behindBlanks_1 (i b : Nat) (h : dqNth qaX11_behindBlanks_1 i = some b) : DqBy cX11_behindBlanks (16 + i) b := dqBy_of qeX11_behindBlanks ((qsX11_behindBlanks_1 i).trans (dq_in h))
theorem dX11_behindBlanks_0 : decode cX11_behindBlanks 0 = .ok (.aload_n 0, 1) := @dq_o42 cX11_behindBlanks 0 (qX11_behindBlanks_0 0 42 rfl)
theorem dX11_behindBlanks_1 : decode cX11_behindBlanks 1 = .ok (.invokevirtual 284, 3) := @dq_o182 cX11_behindBlanks 1 1 28 (qX11_behindBlanks_0 1 182 rfl) (qX11_behindBlanks_0 2 1 rfl) (qX11_behindBlanks_0 3 28 rfl)
theorem dX11_behindBlanks_4 : decode cX11_behindBlanks 4 = .ok (.bipush 32, 2) := @dq_o16 cX11_behindBlanks 4 32 (qX11_behindBlanks_0 4 16 rfl) (qX11_behindBlanks_0 5 32 rfl)
theorem dX11_behindBlanks_6 : decode cX11_behindBlanks 6 = .ok (.if_icmp .ne 16, 3) := @dq_o160 cX11_behindBlanks 6 0 16 (qX11_behindBlanks_0 6 160 rfl) (qX11_behindBlanks_0 7 0 rfl) (qX11_behindBlanks_0 8 16 rfl)
theorem dX11_behindBlanks_9 : decode cX11_behindBlanks 9 = .ok (.aload_n 0, 1) := @dq_o42 cX11_behindBlanks 9 (qX11_behindBlanks_0 9 42 rfl)
theorem dX11_behindBlanks_10 : decode cX11_behindBlanks 10 = .ok (.aload_n 0, 1) := @dq_o42 cX11_behindBlanks 10 (qX11_behindBlanks_0 10 42 rfl)
theorem dX11_behindBlanks_11 : decode cX11_behindBlanks 11 = .ok (.getfield 278, 3) := @dq_o180 cX11_behindBlanks 11 1 22 (qX11_behindBlanks_0 11 180 rfl) (qX11_behindBlanks_0 12 1 rfl) (qX11_behindBlanks_0 13 22 rfl)
theorem dX11_behindBlanks_14 : decode cX11_behindBlanks 14 = .ok (.iconst 1, 1) := @dq_o4 cX11_behindBlanks 14 (qX11_behindBlanks_0 14 4 rfl)
theorem dX11_behindBlanks_15 : decode cX11_behindBlanks 15 = .ok (.iadd, 1) := @dq_o96 cX11_behindBlanks 15 (qX11_behindBlanks_0 15 96 rfl)
theorem dX11_behindBlanks_16 : decode cX11_behindBlanks 16 = .ok (.putfield 278, 3) := @dq_o181 cX11_behindBlanks 16 1 22 (qX11_behindBlanks_1 0 181 rfl) (qX11_behindBlanks_1 1 1 rfl) (qX11_behindBlanks_1 2 22 rfl)
theorem dX11_behindBlanks_19 : decode cX11_behindBlanks 19 = .ok (.goto (-19), 3) := @dq_o167 cX11_behindBlanks 19 255 237 (qX11_behindBlanks_1 3 167 rfl) (qX11_behindBlanks_1 4 255 rfl) (qX11_behindBlanks_1 5 237 rfl)
theorem dX11_behindBlanks_22 : decode cX11_behindBlanks 22 = .ok (.aload_n 0, 1) := @dq_o42 cX11_behindBlanks 22 (qX11_behindBlanks_1 6 42 rfl)
theorem dX11_behindBlanks_23 : decode cX11_behindBlanks 23 = .ok (.invokevirtual 284, 3) := @dq_o182 cX11_behindBlanks 23 1 28 (qX11_behindBlanks_1 7 182 rfl) (qX11_behindBlanks_1 8 1 rfl) (qX11_behindBlanks_1 9 28 rfl)
theorem dX11_behindBlanks_26 : decode cX11_behindBlanks 26 = .ok (.ireturn, 1) := @dq_o172 cX11_behindBlanks 26 (qX11_behindBlanks_1 10 172 rfl)
abbrev qaX11_isDigit_0 : List Nat := [27, 16, 48, 161, 0, 13, 27, 16, 57, 163, 0, 7, 4, 167, 0, 4]
abbrev qaX11_isDigit_1 : List Nat := [3, 172]
def qtX11_isDigit_2 : List Nat := []
def qtX11_isDigit_1 : List Nat := qaX11_isDigit_1 ++ qtX11_isDigit_2
def qtX11_isDigit_0 : List Nat := qaX11_isDigit_0 ++ qtX11_isDigit_1
theorem qeX11_isDigit : cX11_isDigit.data.toList.map UInt8.toNat = qtX11_isDigit_0 := by decide +kernel
theorem qsX11_isDigit_0 : ∀ i, dqNth qtX11_isDigit_0 (0 + i) = dqNth qtX11_isDigit_0 i := fun i => by rw [Nat.zero_add]
theorem qsX11_isDigit_1 : ∀ i, dqNth qtX11_isDigit_0 (16 + i) = dqNth qtX11_isDigit_1 i := dq_step qsX11_isDigit_0 rfl rfl
theorem qX11_isDigit_0 (i b : Nat) (h : dqNth qaX11_isDigit_0 i = some b) : DqBy cX11_isDigit (0 + i) b := dqBy_of qeX11_isDigit ((qsX11_isDigit_0 i).trans (dq_in h))
theorem qX11_isDigit_1 (i b : Nat) (h : dqNth qaX11_isDigit_1 i = some b) : DqBy cX11_isDigit (16 + i) b := dqBy_of qeX11_isDigit ((qsX11_isDigit_1 i).trans (dq_in h))
theorem dX11_isDigit_0 : decode cX11_isDigit 0 = .ok (.iload_n 1, 1) := @dq_o27 cX11_isDigit 0 (qX11_isDigit_0 0 27 rfl)
theorem dX11_isDigit_1 : decode cX11_isDigit 1 = .ok (.bipush 48, 2) := @dq_o16 cX11_isDigit 1 48 (qX11_isDigit_0 1 16 rfl) (qX11_isDigit_0 2 48 rfl)
theorem dX11_isDigit_3 : decode cX11_isDigit 3 = .ok (.if_icmp .lt 13, 3) := @dq_o161 cX11_isDigit 3 0 13 (qX11_isDigit_0 3 161 rfl) (qX11_isDigit_0 4 0 rfl) (qX11_isDigit_0 5 13 rfl)
theorem dX11_isDigit_6 : decode cX11_isDigit 6 = .ok (.iload_n 1, 1) := @dq_o27 cX11_isDigit 6 (qX11_isDigit_0 6 27 rfl)
theorem dX11_isDigit_7 : decode cX11_isDigit 7 = .ok (.bipush 57, 2) := @dq_o16 cX11_isDigit 7 57 (qX11_isDigit_0 7 16 rfl) (qX11_isDigit_0 8 57 rfl)
theorem dX11_isDigit_9 : decode cX11_isDigit 9 = .ok (.if_icmp .gt 7, 3) := @dq_o163 cX11_isDigit 9 0 7 (qX11_isDigit_0 9 163 rfl) (qX11_isDigit_0 10 0 rfl) (qX11_isDigit_0 11 7 rfl)
theorem dX11_isDigit_12 : decode cX11_isDigit 12 = .ok (.iconst 1, 1) := @dq_o4 cX11_isDigit 12 (qX11_isDigit_0 12 4 rfl)
theorem dX11_isDigit_13 : decode cX11_isDigit 13 = .ok (.goto 4, 3) := @dq_o167 cX11_isDigit 13 0 4 (qX11_isDigit_0 13 167 rfl) (qX11_isDigit_0 14 0 rfl) (qX11_isDigit_0 15 4 rfl)
theorem dX11_isDigit_16 : decode cX11_isDigit 16 = .ok (.iconst 0, 1) := @dq_o3 cX11_isDigit 16 (qX11_isDigit_1 0 3 rfl)
theorem dX11_isDigit_17 : decode cX11_isDigit 17 = .ok (.ireturn, 1) := @dq_o172 cX11_isDigit 17 (qX11_isDigit_1 1 172 rfl)
abbrev qaX11_isWrong_0 : List Nat := [42, 180, 0, 49, 2, 159, 0, 7, 4, 167, 0, 4, 3, 172]
def qtX11_isWrong_1 : List Nat := []
def qtX11_isWrong_0 : List Nat := qaX11_isWrong_0 ++ qtX11_isWrong_1
theorem qeX11_isWrong : cX11_isWrong.data.toList.map UInt8.toNat = qtX11_isWrong_0 := by decide +kernel
theorem qsX11_isWrong_0 : ∀ i, dqNth qtX11_isWrong_0 (0 + i) = dqNth qtX11_isWrong_0 i := fun i => by rw [Nat.zero_add]
theorem qX11_isWrong_0 (i b : Nat) (h : dqNth qaX11_isWrong_0 i = some b) : DqBy cX11_isWrong (0 + i) b := dqBy_of qeX11_isWrong ((qsX11_isWrong_0 i).trans (dq_in h))
theorem dX11_isWrong_0 : decode cX11_isWrong 0 = .ok (.aload_n 0, 1) := @dq_o42 cX11_isWrong 0 (qX11_isWrong_0 0 42 rfl)
theorem dX11_isWrong_1 : decode cX11_isWrong 1 = .ok (.getfield 49, 3) := @dq_o180 cX11_isWrong 1 0 49 (qX11_isWrong_0 1 180 rfl) (qX11_isWrong_0 2 0 rfl) (qX11_isWrong_0 3 49 rfl)
theorem dX11_isWrong_4 : decode cX11_isWrong 4 = .ok (.iconst (-1), 1) := @dq_o2 cX11_isWrong 4 (qX11_isWrong_0 4 2 rfl)
theorem dX11_isWrong_5 : decode cX11_isWrong 5 = .ok (.if_icmp .eq 7, 3) := @dq_o159 cX11_isWrong 5 0 7 (qX11_isWrong_0 5 159 rfl) (qX11_isWrong_0 6 0 rfl) (qX11_isWrong_0 7 7 rfl)
theorem dX11_isWrong_8 : decode cX11_isWrong 8 = .ok (.iconst 1, 1) := @dq_o4 cX11_isWrong 8 (qX11_isWrong_0 8 4 rfl)
theorem dX11_isWrong_9 : decode cX11_isWrong 9 = .ok (.goto 4, 3) := @dq_o167 cX11_isWrong 9 0 4 (qX11_isWrong_0 9 167 rfl) (qX11_isWrong_0 10 0 rfl) (qX11_isWrong_0 11 4 rfl)
theorem dX11_isWrong_12 : decode cX11_isWrong 12 = .ok (.iconst 0, 1) := @dq_o3 cX11_isWrong 12 (qX11_isWrong_0 12 3 rfl)
theorem dX11_isWrong_13 : decode cX11_isWrong 13 = .ok (.ireturn, 1) := @dq_o172 cX11_isWrong 13 (qX11_isWrong_0 13 172 rfl)
abbrev qaX11_errs_0 : List Nat := [42, 182, 1, 31, 153, 0, 4, 177, 42, 27, 181, 1, 34, 42, 28, 181]
abbrev qaX11_errs_1 : List Nat := [0, 49, 177]
def qtX11_errs_2 : List Nat := []
def qtX11_errs_1 : List Nat := qaX11_errs_1 ++ qtX11_errs_2
def qtX11_errs_0 : List Nat := qaX11_errs_0 ++ qtX11_errs_1
theorem qeX11_errs : cX11_errs.data.toList.map UInt8.toNat = qtX11_errs_0 := by decide +kernel
theorem qsX11_errs_0 : ∀ i, dqNth qtX11_errs_0 (0 + i) = dqNth qtX11_errs_0 i := fun i => by rw [Nat.zero_add]
theorem qsX11_errs_1 : ∀ i, dqNth qtX11_errs_0 (16 + i) = dqNth qtX11_errs_1 i := dq_step qsX11_errs_0 rfl rfl
theorem qX11_errs_0 (i b : Nat) (h : dqNth qaX11_errs_0 i = some b) : DqBy cX11_errs (0 + i) b := dqBy_of qeX11_errs ((qsX11_errs_0 i).trans (dq_in h))
theorem qX11_errs_1 (i b : Nat) (h : dqNth qaX11_errs_1 i = some b) : DqBy cX11_errs (16 + i) b := dqBy_of qeX11_errs ((qsX11_errs_1 i).trans (dq_in h))
theorem dX11_errs_0 : decode cX11_errs 0 = .ok (.aload_n 0, 1) := @dq_o42 cX11_errs 0 (qX11_errs_0 0 42 rfl)
theorem dX11_errs_1 : decode cX11_errs 1 = .ok (.invokevirtual 287, 3) := @dq_o182 cX11_errs 1 1 31 (qX11_errs_0 1 182 rfl) (qX11_errs_0 2 1 rfl) (qX11_errs_0 3 31 rfl)
theorem dX11_errs_4 : decode cX11_errs 4 = .ok (.ifCond .eq 4, 3) := @dq_o153 cX11_errs 4 0 4 (qX11_errs_0 4 153 rfl) (qX11_errs_0 5 0 rfl) (qX11_errs_0 6 4 rfl)
theorem dX11_errs_7 : decode cX11_errs 7 = .ok (.return_, 1) := @dq_o177 cX11_errs 7 (qX11_errs_0 7 177 rfl)
theorem dX11_errs_8 : decode cX11_errs 8 = .ok (.aload_n 0, 1) := @dq_o42 cX11_errs 8 (qX11_errs_0 8 42 rfl)
theorem dX11_errs_9 : decode cX11_errs 9 = .ok (.iload_n 1, 1) := @dq_o27 cX11_errs 9 (qX11_errs_0 9 27 rfl)
theorem dX11_errs_10 : decode cX11_errs 10 = .ok (.putfield 290, 3) := @dq_o181 cX11_errs 10 1 34 (qX11_errs_0 10 181 rfl) (qX11_errs_0 11 1 rfl) (qX11_errs_0 12 34 rfl)
theorem dX11_errs_13 : decode cX11_errs 13 = .ok (.aload_n 0, 1) := @dq_o42 cX11_errs 13 (qX11_errs_0 13 42 rfl)
theorem dX11_errs_14 : decode cX11_errs 14 = .ok (.iload_n 2, 1) := @dq_o28 cX11_errs 14 (qX11_errs_0 14 28 rfl)
theorem dX11_errs_15 : decode cX11_errs 15 = .ok (.putfield 49, 3) := @dq_o181 cX11_errs 15 0 49 (qX11_errs_0 15 181 rfl) (qX11_errs_1 0 0 rfl) (qX11_errs_1 1 49 rfl)
theorem dX11_errs_18 : decode cX11_errs 18 = .ok (.return_, 1) := @dq_o177 cX11_errs 18 (qX11_errs_1 2 177 rfl)
abbrev qaX11_checks_0 : List Nat := [42, 180, 0, 52, 2, 159, 0, 9, 42, 27, 182, 0, 190, 177, 42, 27]
abbrev qaX11_checks_1 : List Nat := [182, 0, 225, 153, 0, 4, 177, 42, 42, 180, 1, 37, 181, 0, 52, 42]
abbrev qaX11_checks_2 : List Nat := [27, 182, 0, 190, 177]
def qtX11_checks_3 : List Nat := []
def qtX11_checks_2 : List Nat := qaX11_checks_2 ++ qtX11_checks_3
def qtX11_checks_1 : List Nat := qaX11_checks_1 ++ qtX11_checks_2
def qtX11_checks_0 : List Nat := qaX11_checks_0 ++ qtX11_checks_1
theorem qeX11_checks : cX11_checks.data.toList.map UInt8.toNat = qtX11_checks_0 := by decide +kernel
theorem qsX11_checks_0 : ∀ i, dqNth qtX11_checks_0 (0 + i) = dqNth qtX11_checks_0 i := fun i => by rw [Nat.zero_add]
theorem qsX11_checks_1 : ∀ i, dqNth qtX11_checks_0 (16 + i) = dqNth qtX11_checks_1 i := dq_step qsX11_checks_0 rfl rfl
theorem qsX11_checks_2 : ∀ i, dqNth qtX11_checks_0 (32 + i) = dqNth qtX11_checks_2 i := dq_step qsX11_checks_1 rfl rfl
theorem qX11_checks_0 (i b : Nat) (h : dqNth qaX11_checks_0 i = some b) : DqBy cX11_checks (0 + i) b := dqBy_of qeX11_checks ((qsX11_checks_0 i).trans (dq_in h))
theorem qX11_checks_1 (i b : Nat) (h : dqNth qaX11_checks_1 i = some b) : DqBy cX11_checks (16 + i) b := dqBy_of qeX11_checks ((qsX11_checks_1 i).trans (dq_in h))
theorem qX11_checks_2 (i b : Nat) (h : dqNth qaX11_checks_2 i = some b) : DqBy cX11_checks (32 + i) b := dqBy_of qeX11_checks ((qsX11_checks_2 i).trans (dq_in h))
theorem dX11_checks_0 : decode cX11_checks 0 = .ok (.aload_n 0, 1) := @dq_o42 cX11_checks 0 (qX11_checks_0 0 42 rfl)
theorem dX11_checks_1 : decode cX11_checks 1 = .ok (.getfield 52, 3) := @dq_o180 cX11_checks 1 0 52 (qX11_checks_0 1 180 rfl) (qX11_checks_0 2 0 rfl) (qX11_checks_0 3 52 rfl)
theorem dX11_checks_4 : decode cX11_checks 4 = .ok (.iconst (-1), 1) := @dq_o2 cX11_checks 4 (qX11_checks_0 4 2 rfl)
theorem dX11_checks_5 : decode cX11_checks 5 = .ok (.if_icmp .eq 9, 3) := @dq_o159 cX11_checks 5 0 9 (qX11_checks_0 5 159 rfl) (qX11_checks_0 6 0 rfl) (qX11_checks_0 7 9 rfl)
theorem dX11_checks_8 : decode cX11_checks 8 = .ok (.aload_n 0, 1) := @dq_o42 cX11_checks 8 (qX11_checks_0 8 42 rfl)
theorem dX11_checks_9 : decode cX11_checks 9 = .ok (.iload_n 1, 1) := @dq_o27 cX11_checks 9 (qX11_checks_0 9 27 rfl)
theorem dX11_checks_10 : decode cX11_checks 10 = .ok (.invokevirtual 190, 3) := @dq_o182 cX11_checks 10 0 190 (qX11_checks_0 10 182 rfl) (qX11_checks_0 11 0 rfl) (qX11_checks_0 12 190 rfl)
theorem dX11_checks_13 : decode cX11_checks 13 = .ok (.return_, 1) := @dq_o177 cX11_checks 13 (qX11_checks_0 13 177 rfl)
theorem dX11_checks_14 : decode cX11_checks 14 = .ok (.aload_n 0, 1) := @dq_o42 cX11_checks 14 (qX11_checks_0 14 42 rfl)
theorem dX11_checks_15 : decode cX11_checks 15 = .ok (.iload_n 1, 1) := @dq_o27 cX11_checks 15 (qX11_checks_0 15 27 rfl)
theorem dX11_checks_16 : decode cX11_checks 16 = .ok (.invokevirtual 225, 3) := @dq_o182 cX11_checks 16 0 225 (qX11_checks_1 0 182 rfl) (qX11_checks_1 1 0 rfl) (qX11_checks_1 2 225 rfl)
theorem dX11_checks_19 : decode cX11_checks 19 = .ok (.ifCond .eq 4, 3) := @dq_o153 cX11_checks 19 0 4 (qX11_checks_1 3 153 rfl) (qX11_checks_1 4 0 rfl) (qX11_checks_1 5 4 rfl)
theorem dX11_checks_22 : decode cX11_checks 22 = .ok (.return_, 1) := @dq_o177 cX11_checks 22 (qX11_checks_1 6 177 rfl)
theorem dX11_checks_23 : decode cX11_checks 23 = .ok (.aload_n 0, 1) := @dq_o42 cX11_checks 23 (qX11_checks_1 7 42 rfl)
theorem dX11_checks_24 : decode cX11_checks 24 = .ok (.aload_n 0, 1) := @dq_o42 cX11_checks 24 (qX11_checks_1 8 42 rfl)
theorem dX11_checks_25 : decode cX11_checks 25 = .ok (.getfield 293, 3) := @dq_o180 cX11_checks 25 1 37 (qX11_checks_1 9 180 rfl) (qX11_checks_1 10 1 rfl) (qX11_checks_1 11 37 rfl)
theorem dX11_checks_28 : decode cX11_checks 28 = .ok (.putfield 52, 3) := @dq_o181 cX11_checks 28 0 52 (qX11_checks_1 12 181 rfl) (qX11_checks_1 13 0 rfl) (qX11_checks_1 14 52 rfl)
theorem dX11_checks_31 : decode cX11_checks 31 = .ok (.aload_n 0, 1) := @dq_o42 cX11_checks 31 (qX11_checks_1 15 42 rfl)
theorem dX11_checks_32 : decode cX11_checks 32 = .ok (.iload_n 1, 1) := @dq_o27 cX11_checks 32 (qX11_checks_2 0 27 rfl)
theorem dX11_checks_33 : decode cX11_checks 33 = .ok (.invokevirtual 190, 3) := @dq_o182 cX11_checks 33 0 190 (qX11_checks_2 1 182 rfl) (qX11_checks_2 2 0 rfl) (qX11_checks_2 3 190 rfl)
theorem dX11_checks_36 : decode cX11_checks 36 = .ok (.return_, 1) := @dq_o177 cX11_checks 36 (qX11_checks_2 4 177 rfl)
abbrev qaX11_isFactor_0 : List Nat := [27, 16, 97, 161, 0, 9, 27, 16, 102, 164, 0, 21, 27, 16, 82, 159]
abbrev qaX11_isFactor_1 : List Nat := [0, 15, 27, 16, 40, 159, 0, 9, 27, 16, 91, 160, 0, 7, 4, 167]
abbrev qaX11_isFactor_2 : List Nat := [0, 4, 3, 172]
def qtX11_isFactor_3 : List Nat := []
def qtX11_isFactor_2 : List Nat := qaX11_isFactor_2 ++ qtX11_isFactor_3
def qtX11_isFactor_1 : List Nat := qaX11_isFactor_1 ++ qtX11_isFactor_2
def qtX11_isFactor_0 : List Nat := qaX11_isFactor_0 ++ qtX11_isFactor_1
theorem qeX11_isFactor : cX11_isFactor.data.toList.map UInt8.toNat = qtX11_isFactor_0 := by decide +kernel
theorem qsX11_isFactor_0 : ∀ i, dqNth qtX11_isFactor_0 (0 + i) = dqNth qtX11_isFactor_0 i := fun i => by rw [Nat.zero_add]
theorem qsX11_isFactor_1 : ∀ i, dqNth qtX11_isFactor_0 (16 + i) = dqNth qtX11_isFactor_1 i := dq_step qsX11_isFactor_0 rfl rfl
theorem qsX11_isFactor_2 : ∀ i, dqNth qtX11_isFactor_0 (32 + i) = dqNth qtX11_isFactor_2 i := dq_step qsX11_isFactor_1 rfl rfl
theorem qX11_isFactor_0 (i b : Nat) (h : dqNth qaX11_isFactor_0 i = some b) : DqBy cX11_isFactor (0 + i) b := dqBy_of qeX11_isFactor ((qsX11_isFactor_0 i).trans (dq_in h))
theorem qX11_isFactor_1 (i b : Nat) (h : dqNth qaX11_isFactor_1 i = some b) : DqBy cX11_isFactor (16 + i) b := dqBy_of qeX11_isFactor ((qsX11_isFactor_1 i).trans (dq_in h))
theorem qX11_isFactor_2 (i b : Nat) (h : dqNth qaX11_isFactor_2 i = some b) : DqBy cX11_isFactor (32 + i) b := dqBy_of qeX11_isFactor ((qsX11_isFactor_2 i).trans (dq_in h))
theorem dX11_isFactor_0 : decode cX11_isFactor 0 = .ok (.iload_n 1, 1) := @dq_o27 cX11_isFactor 0 (qX11_isFactor_0 0 27 rfl)
theorem dX11_isFactor_1 : decode cX11_isFactor 1 = .ok (.bipush 97, 2) := @dq_o16 cX11_isFactor 1 97 (qX11_isFactor_0 1 16 rfl) (qX11_isFactor_0 2 97 rfl)
theorem dX11_isFactor_3 : decode cX11_isFactor 3 = .ok (.if_icmp .lt 9, 3) := @dq_o161 cX11_isFactor 3 0 9 (qX11_isFactor_0 3 161 rfl) (qX11_isFactor_0 4 0 rfl) (qX11_isFactor_0 5 9 rfl)
theorem dX11_isFactor_6 : decode cX11_isFactor 6 = .ok (.iload_n 1, 1) := @dq_o27 cX11_isFactor 6 (qX11_isFactor_0 6 27 rfl)
theorem dX11_isFactor_7 : decode cX11_isFactor 7 = .ok (.bipush 102, 2) := @dq_o16 cX11_isFactor 7 102 (qX11_isFactor_0 7 16 rfl) (qX11_isFactor_0 8 102 rfl)
theorem dX11_isFactor_9 : decode cX11_isFactor 9 = .ok (.if_icmp .le 21, 3) := @dq_o164 cX11_isFactor 9 0 21 (qX11_isFactor_0 9 164 rfl) (qX11_isFactor_0 10 0 rfl) (qX11_isFactor_0 11 21 rfl)
theorem dX11_isFactor_12 : decode cX11_isFactor 12 = .ok (.iload_n 1, 1) := @dq_o27 cX11_isFactor 12 (qX11_isFactor_0 12 27 rfl)
theorem dX11_isFactor_13 : decode cX11_isFactor 13 = .ok (.bipush 82, 2) := @dq_o16 cX11_isFactor 13 82 (qX11_isFactor_0 13 16 rfl) (qX11_isFactor_0 14 82 rfl)
theorem dX11_isFactor_15 : decode cX11_isFactor 15 = .ok (.if_icmp .eq 15, 3) := @dq_o159 cX11_isFactor 15 0 15 (qX11_isFactor_0 15 159 rfl) (qX11_isFactor_1 0 0 rfl) (qX11_isFactor_1 1 15 rfl)
theorem dX11_isFactor_18 : decode cX11_isFactor 18 = .ok (.iload_n 1, 1) := @dq_o27 cX11_isFactor 18 (qX11_isFactor_1 2 27 rfl)
theorem dX11_isFactor_19 : decode cX11_isFactor 19 = .ok (.bipush 40, 2) := @dq_o16 cX11_isFactor 19 40 (qX11_isFactor_1 3 16 rfl) (qX11_isFactor_1 4 40 rfl)
theorem dX11_isFactor_21 : decode cX11_isFactor 21 = .ok (.if_icmp .eq 9, 3) := @dq_o159 cX11_isFactor 21 0 9 (qX11_isFactor_1 5 159 rfl) (qX11_isFactor_1 6 0 rfl) (qX11_isFactor_1 7 9 rfl)
theorem dX11_isFactor_24 : decode cX11_isFactor 24 = .ok (.iload_n 1, 1) := @dq_o27 cX11_isFactor 24 (qX11_isFactor_1 8 27 rfl)
theorem dX11_isFactor_25 : decode cX11_isFactor 25 = .ok (.bipush 91, 2) := @dq_o16 cX11_isFactor 25 91 (qX11_isFactor_1 9 16 rfl) (qX11_isFactor_1 10 91 rfl)
theorem dX11_isFactor_27 : decode cX11_isFactor 27 = .ok (.if_icmp .ne 7, 3) := @dq_o160 cX11_isFactor 27 0 7 (qX11_isFactor_1 11 160 rfl) (qX11_isFactor_1 12 0 rfl) (qX11_isFactor_1 13 7 rfl)
theorem dX11_isFactor_30 : decode cX11_isFactor 30 = .ok (.iconst 1, 1) := @dq_o4 cX11_isFactor 30 (qX11_isFactor_1 14 4 rfl)
theorem dX11_isFactor_31 : decode cX11_isFactor 31 = .ok (.goto 4, 3) := @dq_o167 cX11_isFactor 31 0 4 (qX11_isFactor_1 15 167 rfl) (qX11_isFactor_2 0 0 rfl) (qX11_isFactor_2 1 4 rfl)
theorem dX11_isFactor_34 : decode cX11_isFactor 34 = .ok (.iconst 0, 1) := @dq_o3 cX11_isFactor 34 (qX11_isFactor_2 2 3 rfl)
theorem dX11_isFactor_35 : decode cX11_isFactor 35 = .ok (.ireturn, 1) := @dq_o172 cX11_isFactor 35 (qX11_isFactor_2 3 172 rfl)
abbrev qaX11_readFactor_0 : List Nat := [42, 182, 1, 28, 61, 28, 16, 97, 161, 0, 58, 28, 16, 102, 163, 0]
abbrev qaX11_readFactor_1 : List Nat := [52, 28, 16, 97, 100, 42, 182, 0, 88, 161, 0, 13, 42, 6, 42, 180]
abbrev qaX11_readFactor_2 : List Nat := [1, 22, 182, 1, 40, 177, 42, 27, 182, 0, 190, 42, 27, 28, 16, 97]
abbrev qaX11_readFactor_3 : List Nat := [100, 10, 182, 0, 162, 42, 42, 180, 1, 22, 4, 96, 181, 1, 22, 167]
abbrev qaX11_readFactor_4 : List Nat := [0, 71, 28, 16, 82, 160, 0, 59, 42, 42, 180, 1, 22, 4, 96, 181]
abbrev qaX11_readFactor_5 : List Nat := [1, 22, 42, 42, 182, 1, 28, 182, 1, 43, 154, 0, 13, 42, 4, 42]
abbrev qaX11_readFactor_6 : List Nat := [180, 1, 22, 182, 1, 40, 177, 42, 27, 42, 182, 1, 28, 16, 48, 100]
abbrev qaX11_readFactor_7 : List Nat := [182, 0, 241, 42, 42, 180, 1, 22, 4, 96, 181, 1, 22, 167, 0, 9]
abbrev qaX11_readFactor_8 : List Nat := [42, 27, 28, 182, 1, 46, 42, 42, 180, 1, 22, 181, 1, 37, 177]
def qtX11_readFactor_9 : List Nat := []
def qtX11_readFactor_8 : List Nat := qaX11_readFactor_8 ++ qtX11_readFactor_9
def qtX11_readFactor_7 : List Nat := qaX11_readFactor_7 ++ qtX11_readFactor_8
def qtX11_readFactor_6 : List Nat := qaX11_readFactor_6 ++ qtX11_readFactor_7
def qtX11_readFactor_5 : List Nat := qaX11_readFactor_5 ++ qtX11_readFactor_6
def qtX11_readFactor_4 : List Nat := qaX11_readFactor_4 ++ qtX11_readFactor_5
def qtX11_readFactor_3 : List Nat := qaX11_readFactor_3 ++ qtX11_readFactor_4
def qtX11_readFactor_2 : List Nat := qaX11_readFactor_2 ++ qtX11_readFactor_3
def qtX11_readFactor_1 : List Nat := qaX11_readFactor_1 ++ qtX11_readFactor_2
def qtX11_readFactor_0 : List Nat := qaX11_readFactor_0 ++ qtX11_readFactor_1
theorem qeX11_readFactor : cX11_readFactor.data.toList.map UInt8.toNat = qtX11_readFactor_0 := by decide +kernel
theorem qsX11_readFactor_0 : ∀ i, dqNth qtX11_readFactor_0 (0 + i) = dqNth qtX11_readFactor_0 i := fun i => by rw [Nat.zero_add]
theorem qsX11_readFactor_1 : ∀ i, dqNth qtX11_readFactor_0 (16 + i) = dqNth qtX11_readFactor_1 i := dq_step qsX11_readFactor_0 rfl rfl
theorem qsX11_readFactor_2 : ∀ i, dqNth qtX11_readFactor_0 (32 + i) = dqNth qtX11_readFactor_2 i := dq_step qsX11_readFactor_1 rfl rfl
theorem qsX11_readFactor_3 : ∀ i, dqNth qtX11_readFactor_0 (48 + i) = dqNth qtX11_readFactor_3 i := dq_step qsX11_readFactor_2 rfl rfl
theorem qsX11_readFactor_4 : ∀ i, dqNth qtX11_readFactor_0 (64 + i) = dqNth qtX11_readFactor_4 i := dq_step qsX11_readFactor_3 rfl rfl
theorem qsX11_readFactor_5 : ∀ i, dqNth qtX11_readFactor_0 (80 + i) = dqNth qtX11_readFactor_5 i := dq_step qsX11_readFactor_4 rfl rfl
theorem qsX11_readFactor_6 : ∀ i, dqNth qtX11_readFactor_0 (96 + i) = dqNth qtX11_readFactor_6 i := dq_step qsX11_readFactor_5 rfl rfl
theorem qsX11_readFactor_7 : ∀ i, dqNth qtX11_readFactor_0 (112 + i) = dqNth qtX11_readFactor_7 i := dq_step qsX11_readFactor_6 rfl rfl
theorem qsX11_readFactor_8 : ∀ i, dqNth qtX11_readFactor_0 (128 + i) = dqNth qtX11_readFactor_8 i := dq_step qsX11_readFactor_7 rfl rfl
theorem qX11_readFactor_0 (i b : Nat) (h : dqNth qaX11_readFactor_0 i = some b) : DqBy cX11_readFactor (0 + i) b := dqBy_of qeX11_readFactor ((qsX11_readFactor_0 i).trans (dq_in h))
theorem qX11_readFactor_1 (i b : Nat) (h : dqNth qaX11_readFactor_1 i = some b) : DqBy cX11_readFactor (16 + i) b := dqBy_of qeX11_readFactor ((qsX11_readFactor_1 i).trans (dq_in h))
theorem qX11_readFactor_2 (i b : Nat) (h : dqNth qaX11_readFactor_2 i = some b) : DqBy cX11_readFactor (32 + i) b := dqBy_of qeX11_readFactor ((qsX11_readFactor_2 i).trans (dq_in h))
theorem qX11_readFactor_3 (i b : Nat) (h : dqNth qaX11_readFactor_3 i = some b) : DqBy cX11_readFactor (48 + i) b := dqBy_of qeX11_readFactor ((qsX11_readFactor_3 i).trans (dq_in h))
theorem qX11_readFactor_4 (i b : Nat) (h : dqNth qaX11_readFactor_4 i = some b) : DqBy cX11_readFactor (64 + i) b := dqBy_of qeX11_readFactor ((qsX11_readFactor_4 i).trans (dq_in h))
theorem qX11_readFactor_5 (i b : Nat) (h : dqNth qaX11_readFactor_5 i = some b) : DqBy cX11_readFactor (80 + i) b := dqBy_of qeX11_readFactor ((qsX11_readFactor_5 i).trans (dq_in h))
theorem qX11_readFactor_6 (i b : Nat) (h : dqNth qaX11_readFactor_6 i = some b) : DqBy cX11_readFactor (96 + i) b := dqBy_of qeX11_readFactor ((qsX11_readFactor_6 i).trans (dq_in h))
theorem qX11_readFactor_7 (i b : Nat) (h : dqNth qaX11_readFactor_7 i = some b) : DqBy cX11_readFactor (112 + i) b := dqBy_of qeX11_readFactor ((qsX11_readFactor_7 i).trans (dq_in h))
theorem qX11_readFactor_8 (i b : Nat) (h : dqNth qaX11_readFactor_8 i = some b) : DqBy cX11_readFactor (128 + i) b := dqBy_of qeX11_readFactor ((qsX11_readFactor_8 i).trans (dq_in h))
theorem dX11_readFactor_0 : decode cX11_readFactor 0 = .ok (.aload_n 0, 1) := @dq_o42 cX11_readFactor 0 (qX11_readFactor_0 0 42 rfl)
theorem dX11_readFactor_1 : decode cX11_readFactor 1 = .ok (.invokevirtual 284, 3) := @dq_o182 cX11_readFactor 1 1 28 (qX11_readFactor_0 1 182 rfl) (qX11_readFactor_0 2 1 rfl) (qX11_readFactor_0 3 28 rfl)
theorem dX11_readFactor_4 : decode cX11_readFactor 4 = .ok (.istore_n 2, 1) := @dq_o61 cX11_readFactor 4 (qX11_readFactor_0 4 61 rfl)
theorem dX11_readFactor_5 : decode cX11_readFactor 5 = .ok (.iload_n 2, 1) := @dq_o28 cX11_readFactor 5 (qX11_readFactor_0 5 28 rfl)
theorem dX11_readFactor_6 : decode cX11_readFactor 6 = .ok (.bipush 97, 2) := @dq_o16 cX11_readFactor 6 97 (qX11_readFactor_0 6 16 rfl) (qX11_readFactor_0 7 97 rfl)
theorem dX11_readFactor_8 : decode cX11_readFactor 8 = .ok (.if_icmp .lt 58, 3) := @dq_o161 cX11_readFactor 8 0 58 (qX11_readFactor_0 8 161 rfl) (qX11_readFactor_0 9 0 rfl) (qX11_readFactor_0 10 58 rfl)
theorem dX11_readFactor_11 : decode cX11_readFactor 11 = .ok (.iload_n 2, 1) := @dq_o28 cX11_readFactor 11 (qX11_readFactor_0 11 28 rfl)
theorem dX11_readFactor_12 : decode cX11_readFactor 12 = .ok (.bipush 102, 2) := @dq_o16 cX11_readFactor 12 102 (qX11_readFactor_0 12 16 rfl) (qX11_readFactor_0 13 102 rfl)
theorem dX11_readFactor_14 : decode cX11_readFactor 14 = .ok (.if_icmp .gt 52, 3) := @dq_o163 cX11_readFactor 14 0 52 (qX11_readFactor_0 14 163 rfl) (qX11_readFactor_0 15 0 rfl) (qX11_readFactor_1 0 52 rfl)
theorem dX11_readFactor_17 : decode cX11_readFactor 17 = .ok (.iload_n 2, 1) := @dq_o28 cX11_readFactor 17 (qX11_readFactor_1 1 28 rfl)
theorem dX11_readFactor_18 : decode cX11_readFactor 18 = .ok (.bipush 97, 2) := @dq_o16 cX11_readFactor 18 97 (qX11_readFactor_1 2 16 rfl) (qX11_readFactor_1 3 97 rfl)
theorem dX11_readFactor_20 : decode cX11_readFactor 20 = .ok (.isub, 1) := @dq_o100 cX11_readFactor 20 (qX11_readFactor_1 4 100 rfl)
theorem dX11_readFactor_21 : decode cX11_readFactor 21 = .ok (.aload_n 0, 1) := @dq_o42 cX11_readFactor 21 (qX11_readFactor_1 5 42 rfl)
theorem dX11_readFactor_22 : decode cX11_readFactor 22 = .ok (.invokevirtual 88, 3) := @dq_o182 cX11_readFactor 22 0 88 (qX11_readFactor_1 6 182 rfl) (qX11_readFactor_1 7 0 rfl) (qX11_readFactor_1 8 88 rfl)
theorem dX11_readFactor_25 : decode cX11_readFactor 25 = .ok (.if_icmp .lt 13, 3) := @dq_o161 cX11_readFactor 25 0 13 (qX11_readFactor_1 9 161 rfl) (qX11_readFactor_1 10 0 rfl) (qX11_readFactor_1 11 13 rfl)
theorem dX11_readFactor_28 : decode cX11_readFactor 28 = .ok (.aload_n 0, 1) := @dq_o42 cX11_readFactor 28 (qX11_readFactor_1 12 42 rfl)
theorem dX11_readFactor_29 : decode cX11_readFactor 29 = .ok (.iconst 3, 1) := @dq_o6 cX11_readFactor 29 (qX11_readFactor_1 13 6 rfl)
theorem dX11_readFactor_30 : decode cX11_readFactor 30 = .ok (.aload_n 0, 1) := @dq_o42 cX11_readFactor 30 (qX11_readFactor_1 14 42 rfl)
theorem dX11_readFactor_31 : decode cX11_readFactor 31 = .ok (.getfield 278, 3) := @dq_o180 cX11_readFactor 31 1 22 (qX11_readFactor_1 15 180 rfl) (qX11_readFactor_2 0 1 rfl) (qX11_readFactor_2 1 22 rfl)
theorem dX11_readFactor_34 : decode cX11_readFactor 34 = .ok (.invokevirtual 296, 3) := @dq_o182 cX11_readFactor 34 1 40 (qX11_readFactor_2 2 182 rfl) (qX11_readFactor_2 3 1 rfl) (qX11_readFactor_2 4 40 rfl)
theorem dX11_readFactor_37 : decode cX11_readFactor 37 = .ok (.return_, 1) := @dq_o177 cX11_readFactor 37 (qX11_readFactor_2 5 177 rfl)
theorem dX11_readFactor_38 : decode cX11_readFactor 38 = .ok (.aload_n 0, 1) := @dq_o42 cX11_readFactor 38 (qX11_readFactor_2 6 42 rfl)
theorem dX11_readFactor_39 : decode cX11_readFactor 39 = .ok (.iload_n 1, 1) := @dq_o27 cX11_readFactor 39 (qX11_readFactor_2 7 27 rfl)
theorem dX11_readFactor_40 : decode cX11_readFactor 40 = .ok (.invokevirtual 190, 3) := @dq_o182 cX11_readFactor 40 0 190 (qX11_readFactor_2 8 182 rfl) (qX11_readFactor_2 9 0 rfl) (qX11_readFactor_2 10 190 rfl)
theorem dX11_readFactor_43 : decode cX11_readFactor 43 = .ok (.aload_n 0, 1) := @dq_o42 cX11_readFactor 43 (qX11_readFactor_2 11 42 rfl)
theorem dX11_readFactor_44 : decode cX11_readFactor 44 = .ok (.iload_n 1, 1) := @dq_o27 cX11_readFactor 44 (qX11_readFactor_2 12 27 rfl)
theorem dX11_readFactor_45 : decode cX11_readFactor 45 = .ok (.iload_n 2, 1) := @dq_o28 cX11_readFactor 45 (qX11_readFactor_2 13 28 rfl)
theorem dX11_readFactor_46 : decode cX11_readFactor 46 = .ok (.bipush 97, 2) := @dq_o16 cX11_readFactor 46 97 (qX11_readFactor_2 14 16 rfl) (qX11_readFactor_2 15 97 rfl)
theorem dX11_readFactor_48 : decode cX11_readFactor 48 = .ok (.isub, 1) := @dq_o100 cX11_readFactor 48 (qX11_readFactor_3 0 100 rfl)
theorem dX11_readFactor_49 : decode cX11_readFactor 49 = .ok (.lconst 1, 1) := @dq_o10 cX11_readFactor 49 (qX11_readFactor_3 1 10 rfl)
theorem dX11_readFactor_50 : decode cX11_readFactor 50 = .ok (.invokevirtual 162, 3) := @dq_o182 cX11_readFactor 50 0 162 (qX11_readFactor_3 2 182 rfl) (qX11_readFactor_3 3 0 rfl) (qX11_readFactor_3 4 162 rfl)
theorem dX11_readFactor_53 : decode cX11_readFactor 53 = .ok (.aload_n 0, 1) := @dq_o42 cX11_readFactor 53 (qX11_readFactor_3 5 42 rfl)
theorem dX11_readFactor_54 : decode cX11_readFactor 54 = .ok (.aload_n 0, 1) := @dq_o42 cX11_readFactor 54 (qX11_readFactor_3 6 42 rfl)
theorem dX11_readFactor_55 : decode cX11_readFactor 55 = .ok (.getfield 278, 3) := @dq_o180 cX11_readFactor 55 1 22 (qX11_readFactor_3 7 180 rfl) (qX11_readFactor_3 8 1 rfl) (qX11_readFactor_3 9 22 rfl)
theorem dX11_readFactor_58 : decode cX11_readFactor 58 = .ok (.iconst 1, 1) := @dq_o4 cX11_readFactor 58 (qX11_readFactor_3 10 4 rfl)
theorem dX11_readFactor_59 : decode cX11_readFactor 59 = .ok (.iadd, 1) := @dq_o96 cX11_readFactor 59 (qX11_readFactor_3 11 96 rfl)
theorem dX11_readFactor_60 : decode cX11_readFactor 60 = .ok (.putfield 278, 3) := @dq_o181 cX11_readFactor 60 1 22 (qX11_readFactor_3 12 181 rfl) (qX11_readFactor_3 13 1 rfl) (qX11_readFactor_3 14 22 rfl)
theorem dX11_readFactor_63 : decode cX11_readFactor 63 = .ok (.goto 71, 3) := @dq_o167 cX11_readFactor 63 0 71 (qX11_readFactor_3 15 167 rfl) (qX11_readFactor_4 0 0 rfl) (qX11_readFactor_4 1 71 rfl)
theorem dX11_readFactor_66 : decode cX11_readFactor 66 = .ok (.iload_n 2, 1) := @dq_o28 cX11_readFactor 66 (qX11_readFactor_4 2 28 rfl)
theorem dX11_readFactor_67 : decode cX11_readFactor 67 = .ok (.bipush 82, 2) := @dq_o16 cX11_readFactor 67 82 (qX11_readFactor_4 3 16 rfl) (qX11_readFactor_4 4 82 rfl)
theorem dX11_readFactor_69 : decode cX11_readFactor 69 = .ok (.if_icmp .ne 59, 3) := @dq_o160 cX11_readFactor 69 0 59 (qX11_readFactor_4 5 160 rfl) (qX11_readFactor_4 6 0 rfl) (qX11_readFactor_4 7 59 rfl)
theorem dX11_readFactor_72 : decode cX11_readFactor 72 = .ok (.aload_n 0, 1) := @dq_o42 cX11_readFactor 72 (qX11_readFactor_4 8 42 rfl)
theorem dX11_readFactor_73 : decode cX11_readFactor 73 = .ok (.aload_n 0, 1) := @dq_o42 cX11_readFactor 73 (qX11_readFactor_4 9 42 rfl)
theorem dX11_readFactor_74 : decode cX11_readFactor 74 = .ok (.getfield 278, 3) := @dq_o180 cX11_readFactor 74 1 22 (qX11_readFactor_4 10 180 rfl) (qX11_readFactor_4 11 1 rfl) (qX11_readFactor_4 12 22 rfl)
theorem dX11_readFactor_77 : decode cX11_readFactor 77 = .ok (.iconst 1, 1) := @dq_o4 cX11_readFactor 77 (qX11_readFactor_4 13 4 rfl)
theorem dX11_readFactor_78 : decode cX11_readFactor 78 = .ok (.iadd, 1) := @dq_o96 cX11_readFactor 78 (qX11_readFactor_4 14 96 rfl)
theorem dX11_readFactor_79 : decode cX11_readFactor 79 = .ok (.putfield 278, 3) := @dq_o181 cX11_readFactor 79 1 22 (qX11_readFactor_4 15 181 rfl) (qX11_readFactor_5 0 1 rfl) (qX11_readFactor_5 1 22 rfl)
theorem dX11_readFactor_82 : decode cX11_readFactor 82 = .ok (.aload_n 0, 1) := @dq_o42 cX11_readFactor 82 (qX11_readFactor_5 2 42 rfl)
theorem dX11_readFactor_83 : decode cX11_readFactor 83 = .ok (.aload_n 0, 1) := @dq_o42 cX11_readFactor 83 (qX11_readFactor_5 3 42 rfl)
theorem dX11_readFactor_84 : decode cX11_readFactor 84 = .ok (.invokevirtual 284, 3) := @dq_o182 cX11_readFactor 84 1 28 (qX11_readFactor_5 4 182 rfl) (qX11_readFactor_5 5 1 rfl) (qX11_readFactor_5 6 28 rfl)
theorem dX11_readFactor_87 : decode cX11_readFactor 87 = .ok (.invokevirtual 299, 3) := @dq_o182 cX11_readFactor 87 1 43 (qX11_readFactor_5 7 182 rfl) (qX11_readFactor_5 8 1 rfl) (qX11_readFactor_5 9 43 rfl)
theorem dX11_readFactor_90 : decode cX11_readFactor 90 = .ok (.ifCond .ne 13, 3) := @dq_o154 cX11_readFactor 90 0 13 (qX11_readFactor_5 10 154 rfl) (qX11_readFactor_5 11 0 rfl) (qX11_readFactor_5 12 13 rfl)
theorem dX11_readFactor_93 : decode cX11_readFactor 93 = .ok (.aload_n 0, 1) := @dq_o42 cX11_readFactor 93 (qX11_readFactor_5 13 42 rfl)
theorem dX11_readFactor_94 : decode cX11_readFactor 94 = .ok (.iconst 1, 1) := @dq_o4 cX11_readFactor 94 (qX11_readFactor_5 14 4 rfl)
theorem dX11_readFactor_95 : decode cX11_readFactor 95 = .ok (.aload_n 0, 1) := @dq_o42 cX11_readFactor 95 (qX11_readFactor_5 15 42 rfl)
theorem dX11_readFactor_96 : decode cX11_readFactor 96 = .ok (.getfield 278, 3) := @dq_o180 cX11_readFactor 96 1 22 (qX11_readFactor_6 0 180 rfl) (qX11_readFactor_6 1 1 rfl) (qX11_readFactor_6 2 22 rfl)
theorem dX11_readFactor_99 : decode cX11_readFactor 99 = .ok (.invokevirtual 296, 3) := @dq_o182 cX11_readFactor 99 1 40 (qX11_readFactor_6 3 182 rfl) (qX11_readFactor_6 4 1 rfl) (qX11_readFactor_6 5 40 rfl)
theorem dX11_readFactor_102 : decode cX11_readFactor 102 = .ok (.return_, 1) := @dq_o177 cX11_readFactor 102 (qX11_readFactor_6 6 177 rfl)
theorem dX11_readFactor_103 : decode cX11_readFactor 103 = .ok (.aload_n 0, 1) := @dq_o42 cX11_readFactor 103 (qX11_readFactor_6 7 42 rfl)
theorem dX11_readFactor_104 : decode cX11_readFactor 104 = .ok (.iload_n 1, 1) := @dq_o27 cX11_readFactor 104 (qX11_readFactor_6 8 27 rfl)
theorem dX11_readFactor_105 : decode cX11_readFactor 105 = .ok (.aload_n 0, 1) := @dq_o42 cX11_readFactor 105 (qX11_readFactor_6 9 42 rfl)
theorem dX11_readFactor_106 : decode cX11_readFactor 106 = .ok (.invokevirtual 284, 3) := @dq_o182 cX11_readFactor 106 1 28 (qX11_readFactor_6 10 182 rfl) (qX11_readFactor_6 11 1 rfl) (qX11_readFactor_6 12 28 rfl)
theorem dX11_readFactor_109 : decode cX11_readFactor 109 = .ok (.bipush 48, 2) := @dq_o16 cX11_readFactor 109 48 (qX11_readFactor_6 13 16 rfl) (qX11_readFactor_6 14 48 rfl)
theorem dX11_readFactor_111 : decode cX11_readFactor 111 = .ok (.isub, 1) := @dq_o100 cX11_readFactor 111 (qX11_readFactor_6 15 100 rfl)
theorem dX11_readFactor_112 : decode cX11_readFactor 112 = .ok (.invokevirtual 241, 3) := @dq_o182 cX11_readFactor 112 0 241 (qX11_readFactor_7 0 182 rfl) (qX11_readFactor_7 1 0 rfl) (qX11_readFactor_7 2 241 rfl)
theorem dX11_readFactor_115 : decode cX11_readFactor 115 = .ok (.aload_n 0, 1) := @dq_o42 cX11_readFactor 115 (qX11_readFactor_7 3 42 rfl)
theorem dX11_readFactor_116 : decode cX11_readFactor 116 = .ok (.aload_n 0, 1) := @dq_o42 cX11_readFactor 116 (qX11_readFactor_7 4 42 rfl)
theorem dX11_readFactor_117 : decode cX11_readFactor 117 = .ok (.getfield 278, 3) := @dq_o180 cX11_readFactor 117 1 22 (qX11_readFactor_7 5 180 rfl) (qX11_readFactor_7 6 1 rfl) (qX11_readFactor_7 7 22 rfl)
theorem dX11_readFactor_120 : decode cX11_readFactor 120 = .ok (.iconst 1, 1) := @dq_o4 cX11_readFactor 120 (qX11_readFactor_7 8 4 rfl)
theorem dX11_readFactor_121 : decode cX11_readFactor 121 = .ok (.iadd, 1) := @dq_o96 cX11_readFactor 121 (qX11_readFactor_7 9 96 rfl)
theorem dX11_readFactor_122 : decode cX11_readFactor 122 = .ok (.putfield 278, 3) := @dq_o181 cX11_readFactor 122 1 22 (qX11_readFactor_7 10 181 rfl) (qX11_readFactor_7 11 1 rfl) (qX11_readFactor_7 12 22 rfl)
theorem dX11_readFactor_125 : decode cX11_readFactor 125 = .ok (.goto 9, 3) := @dq_o167 cX11_readFactor 125 0 9 (qX11_readFactor_7 13 167 rfl) (qX11_readFactor_7 14 0 rfl) (qX11_readFactor_7 15 9 rfl)
theorem dX11_readFactor_128 : decode cX11_readFactor 128 = .ok (.aload_n 0, 1) := @dq_o42 cX11_readFactor 128 (qX11_readFactor_8 0 42 rfl)
theorem dX11_readFactor_129 : decode cX11_readFactor 129 = .ok (.iload_n 1, 1) := @dq_o27 cX11_readFactor 129 (qX11_readFactor_8 1 27 rfl)
theorem dX11_readFactor_130 : decode cX11_readFactor 130 = .ok (.iload_n 2, 1) := @dq_o28 cX11_readFactor 130 (qX11_readFactor_8 2 28 rfl)
theorem dX11_readFactor_131 : decode cX11_readFactor 131 = .ok (.invokevirtual 302, 3) := @dq_o182 cX11_readFactor 131 1 46 (qX11_readFactor_8 3 182 rfl) (qX11_readFactor_8 4 1 rfl) (qX11_readFactor_8 5 46 rfl)
theorem dX11_readFactor_134 : decode cX11_readFactor 134 = .ok (.aload_n 0, 1) := @dq_o42 cX11_readFactor 134 (qX11_readFactor_8 6 42 rfl)
theorem dX11_readFactor_135 : decode cX11_readFactor 135 = .ok (.aload_n 0, 1) := @dq_o42 cX11_readFactor 135 (qX11_readFactor_8 7 42 rfl)
theorem dX11_readFactor_136 : decode cX11_readFactor 136 = .ok (.getfield 278, 3) := @dq_o180 cX11_readFactor 136 1 22 (qX11_readFactor_8 8 180 rfl) (qX11_readFactor_8 9 1 rfl) (qX11_readFactor_8 10 22 rfl)
theorem dX11_readFactor_139 : decode cX11_readFactor 139 = .ok (.putfield 293, 3) := @dq_o181 cX11_readFactor 139 1 37 (qX11_readFactor_8 11 181 rfl) (qX11_readFactor_8 12 1 rfl) (qX11_readFactor_8 13 37 rfl)
theorem dX11_readFactor_142 : decode cX11_readFactor 142 = .ok (.return_, 1) := @dq_o177 cX11_readFactor 142 (qX11_readFactor_8 14 177 rfl)
abbrev qaX11_must_0 : List Nat := [42, 182, 1, 31, 153, 0, 4, 177, 42, 182, 1, 49, 27, 159, 0, 15]
abbrev qaX11_must_1 : List Nat := [42, 4, 42, 180, 1, 22, 182, 1, 40, 167, 0, 13, 42, 42, 180, 1]
abbrev qaX11_must_2 : List Nat := [22, 4, 96, 181, 1, 22, 177]
def qtX11_must_3 : List Nat := []
def qtX11_must_2 : List Nat := qaX11_must_2 ++ qtX11_must_3
def qtX11_must_1 : List Nat := qaX11_must_1 ++ qtX11_must_2
def qtX11_must_0 : List Nat := qaX11_must_0 ++ qtX11_must_1
theorem qeX11_must : cX11_must.data.toList.map UInt8.toNat = qtX11_must_0 := by decide +kernel
theorem qsX11_must_0 : ∀ i, dqNth qtX11_must_0 (0 + i) = dqNth qtX11_must_0 i := fun i => by rw [Nat.zero_add]
theorem qsX11_must_1 : ∀ i, dqNth qtX11_must_0 (16 + i) = dqNth qtX11_must_1 i := dq_step qsX11_must_0 rfl rfl
theorem qsX11_must_2 : ∀ i, dqNth qtX11_must_0 (32 + i) = dqNth qtX11_must_2 i := dq_step qsX11_must_1 rfl rfl
theorem qX11_must_0 (i b : Nat) (h : dqNth qaX11_must_0 i = some b) : DqBy cX11_must (0 + i) b := dqBy_of qeX11_must ((qsX11_must_0 i).trans (dq_in h))
theorem qX11_must_1 (i b : Nat) (h : dqNth qaX11_must_1 i = some b) : DqBy cX11_must (16 + i) b := dqBy_of qeX11_must ((qsX11_must_1 i).trans (dq_in h))
theorem qX11_must_2 (i b : Nat) (h : dqNth qaX11_must_2 i = some b) : DqBy cX11_must (32 + i) b := dqBy_of qeX11_must ((qsX11_must_2 i).trans (dq_in h))
theorem dX11_must_0 : decode cX11_must 0 = .ok (.aload_n 0, 1) := @dq_o42 cX11_must 0 (qX11_must_0 0 42 rfl)
theorem dX11_must_1 : decode cX11_must 1 = .ok (.invokevirtual 287, 3) := @dq_o182 cX11_must 1 1 31 (qX11_must_0 1 182 rfl) (qX11_must_0 2 1 rfl) (qX11_must_0 3 31 rfl)
theorem dX11_must_4 : decode cX11_must 4 = .ok (.ifCond .eq 4, 3) := @dq_o153 cX11_must 4 0 4 (qX11_must_0 4 153 rfl) (qX11_must_0 5 0 rfl) (qX11_must_0 6 4 rfl)
theorem dX11_must_7 : decode cX11_must 7 = .ok (.return_, 1) := @dq_o177 cX11_must 7 (qX11_must_0 7 177 rfl)
theorem dX11_must_8 : decode cX11_must 8 = .ok (.aload_n 0, 1) := @dq_o42 cX11_must 8 (qX11_must_0 8 42 rfl)
theorem dX11_must_9 : decode cX11_must 9 = .ok (.invokevirtual 305, 3) := @dq_o182 cX11_must 9 1 49 (qX11_must_0 9 182 rfl) (qX11_must_0 10 1 rfl) (qX11_must_0 11 49 rfl)
theorem dX11_must_12 : decode cX11_must 12 = .ok (.iload_n 1, 1) := @dq_o27 cX11_must 12 (qX11_must_0 12 27 rfl)
theorem dX11_must_13 : decode cX11_must 13 = .ok (.if_icmp .eq 15, 3) := @dq_o159 cX11_must 13 0 15 (qX11_must_0 13 159 rfl) (qX11_must_0 14 0 rfl) (qX11_must_0 15 15 rfl)
theorem dX11_must_16 : decode cX11_must 16 = .ok (.aload_n 0, 1) := @dq_o42 cX11_must 16 (qX11_must_1 0 42 rfl)
theorem dX11_must_17 : decode cX11_must 17 = .ok (.iconst 1, 1) := @dq_o4 cX11_must 17 (qX11_must_1 1 4 rfl)
theorem dX11_must_18 : decode cX11_must 18 = .ok (.aload_n 0, 1) := @dq_o42 cX11_must 18 (qX11_must_1 2 42 rfl)
theorem dX11_must_19 : decode cX11_must 19 = .ok (.getfield 278, 3) := @dq_o180 cX11_must 19 1 22 (qX11_must_1 3 180 rfl) (qX11_must_1 4 1 rfl) (qX11_must_1 5 22 rfl)
theorem dX11_must_22 : decode cX11_must 22 = .ok (.invokevirtual 296, 3) := @dq_o182 cX11_must 22 1 40 (qX11_must_1 6 182 rfl) (qX11_must_1 7 1 rfl) (qX11_must_1 8 40 rfl)
theorem dX11_must_25 : decode cX11_must 25 = .ok (.goto 13, 3) := @dq_o167 cX11_must 25 0 13 (qX11_must_1 9 167 rfl) (qX11_must_1 10 0 rfl) (qX11_must_1 11 13 rfl)
theorem dX11_must_28 : decode cX11_must 28 = .ok (.aload_n 0, 1) := @dq_o42 cX11_must 28 (qX11_must_1 12 42 rfl)
theorem dX11_must_29 : decode cX11_must 29 = .ok (.aload_n 0, 1) := @dq_o42 cX11_must 29 (qX11_must_1 13 42 rfl)
theorem dX11_must_30 : decode cX11_must 30 = .ok (.getfield 278, 3) := @dq_o180 cX11_must 30 1 22 (qX11_must_1 14 180 rfl) (qX11_must_1 15 1 rfl) (qX11_must_2 0 22 rfl)
theorem dX11_must_33 : decode cX11_must 33 = .ok (.iconst 1, 1) := @dq_o4 cX11_must 33 (qX11_must_2 1 4 rfl)
theorem dX11_must_34 : decode cX11_must 34 = .ok (.iadd, 1) := @dq_o96 cX11_must 34 (qX11_must_2 2 96 rfl)
theorem dX11_must_35 : decode cX11_must 35 = .ok (.putfield 278, 3) := @dq_o181 cX11_must 35 1 22 (qX11_must_2 3 181 rfl) (qX11_must_2 4 1 rfl) (qX11_must_2 5 22 rfl)
theorem dX11_must_38 : decode cX11_must 38 = .ok (.return_, 1) := @dq_o177 cX11_must 38 (qX11_must_2 6 177 rfl)
abbrev qaX11_readOpen_0 : List Nat := [42, 180, 1, 52, 16, 8, 160, 0, 13, 42, 7, 42, 180, 1, 22, 182]
abbrev qaX11_readOpen_1 : List Nat := [1, 40, 177, 42, 42, 180, 1, 52, 4, 96, 181, 1, 52, 42, 42, 180]
abbrev qaX11_readOpen_2 : List Nat := [1, 22, 4, 96, 181, 1, 22, 42, 42, 180, 1, 22, 181, 1, 37, 42]
abbrev qaX11_readOpen_3 : List Nat := [27, 182, 1, 55, 28, 16, 40, 160, 0, 12, 42, 16, 41, 182, 1, 58]
abbrev qaX11_readOpen_4 : List Nat := [167, 0, 8, 42, 27, 182, 1, 61, 42, 42, 180, 1, 52, 4, 100, 181]
abbrev qaX11_readOpen_5 : List Nat := [1, 52, 177]
def qtX11_readOpen_6 : List Nat := []
def qtX11_readOpen_5 : List Nat := qaX11_readOpen_5 ++ qtX11_readOpen_6
def qtX11_readOpen_4 : List Nat := qaX11_readOpen_4 ++ qtX11_readOpen_5
def qtX11_readOpen_3 : List Nat := qaX11_readOpen_3 ++ qtX11_readOpen_4
def qtX11_readOpen_2 : List Nat := qaX11_readOpen_2 ++ qtX11_readOpen_3
def qtX11_readOpen_1 : List Nat := qaX11_readOpen_1 ++ qtX11_readOpen_2
def qtX11_readOpen_0 : List Nat := qaX11_readOpen_0 ++ qtX11_readOpen_1
theorem qeX11_readOpen : cX11_readOpen.data.toList.map UInt8.toNat = qtX11_readOpen_0 := by decide +kernel
theorem qsX11_readOpen_0 : ∀ i, dqNth qtX11_readOpen_0 (0 + i) = dqNth qtX11_readOpen_0 i := fun i => by rw [Nat.zero_add]
theorem qsX11_readOpen_1 : ∀ i, dqNth qtX11_readOpen_0 (16 + i) = dqNth qtX11_readOpen_1 i := dq_step qsX11_readOpen_0 rfl rfl
theorem qsX11_readOpen_2 : ∀ i, dqNth qtX11_readOpen_0 (32 + i) = dqNth qtX11_readOpen_2 i := dq_step qsX11_readOpen_1 rfl rfl
theorem qsX11_readOpen_3 : ∀ i, dqNth qtX11_readOpen_0 (48 + i) = dqNth qtX11_readOpen_3 i := dq_step qsX11_readOpen_2 rfl rfl
theorem qsX11_readOpen_4 : ∀ i, dqNth qtX11_readOpen_0 (64 + i) = dqNth qtX11_readOpen_4 i := dq_step qsX11_readOpen_3 rfl rfl
theorem qsX11_readOpen_5 : ∀ i, dqNth qtX11_readOpen_0 (80 + i) = dqNth qtX11_readOpen_5 i := dq_step qsX11_readOpen_4 rfl rfl
theorem qX11_readOpen_0 (i b : Nat) (h : dqNth qaX11_readOpen_0 i = some b) : DqBy cX11_readOpen (0 + i) b := dqBy_of qeX11_readOpen ((qsX11_readOpen_0 i).trans (dq_in h))
theorem qX11_readOpen_1 (i b : Nat) (h : dqNth qaX11_readOpen_1 i = some b) : DqBy cX11_readOpen (16 + i) b := dqBy_of qeX11_readOpen ((qsX11_readOpen_1 i).trans (dq_in h))
theorem qX11_readOpen_2 (i b : Nat) (h : dqNth qaX11_readOpen_2 i = some b) : DqBy cX11_readOpen (32 + i) b := dqBy_of qeX11_readOpen ((qsX11_readOpen_2 i).trans (dq_in h))
theorem qX11_readOpen_3 (i b : Nat) (h : dqNth qaX11_readOpen_3 i = some b) : DqBy cX11_readOpen (48 + i) b := dqBy_of qeX11_readOpen ((qsX11_readOpen_3 i).trans (dq_in h))
theorem qX11_readOpen_4 (i b : Nat) (h : dqNth qaX11_readOpen_4 i = some b) : DqBy cX11_readOpen (64 + i) b := dqBy_of qeX11_readOpen ((qsX11_readOpen_4 i).trans (dq_in h))
theorem qX11_readOpen_5 (i b : Nat) (h : dqNth qaX11_readOpen_5 i = some b) : DqBy cX11_readOpen (80 + i) b := dqBy_of qeX11_readOpen ((qsX11_readOpen_5 i).trans (dq_in h))
theorem dX11_readOpen_0 : decode cX11_readOpen 0 = .ok (.aload_n 0, 1) := @dq_o42 cX11_readOpen 0 (qX11_readOpen_0 0 42 rfl)
theorem dX11_readOpen_1 : decode cX11_readOpen 1 = .ok (.getfield 308, 3) := @dq_o180 cX11_readOpen 1 1 52 (qX11_readOpen_0 1 180 rfl) (qX11_readOpen_0 2 1 rfl) (qX11_readOpen_0 3 52 rfl)
theorem dX11_readOpen_4 : decode cX11_readOpen 4 = .ok (.bipush 8, 2) := @dq_o16 cX11_readOpen 4 8 (qX11_readOpen_0 4 16 rfl) (qX11_readOpen_0 5 8 rfl)
theorem dX11_readOpen_6 : decode cX11_readOpen 6 = .ok (.if_icmp .ne 13, 3) := @dq_o160 cX11_readOpen 6 0 13 (qX11_readOpen_0 6 160 rfl) (qX11_readOpen_0 7 0 rfl) (qX11_readOpen_0 8 13 rfl)
theorem dX11_readOpen_9 : decode cX11_readOpen 9 = .ok (.aload_n 0, 1) := @dq_o42 cX11_readOpen 9 (qX11_readOpen_0 9 42 rfl)
theorem dX11_readOpen_10 : decode cX11_readOpen 10 = .ok (.iconst 4, 1) := @dq_o7 cX11_readOpen 10 (qX11_readOpen_0 10 7 rfl)
theorem dX11_readOpen_11 : decode cX11_readOpen 11 = .ok (.aload_n 0, 1) := @dq_o42 cX11_readOpen 11 (qX11_readOpen_0 11 42 rfl)
theorem dX11_readOpen_12 : decode cX11_readOpen 12 = .ok (.getfield 278, 3) := @dq_o180 cX11_readOpen 12 1 22 (qX11_readOpen_0 12 180 rfl) (qX11_readOpen_0 13 1 rfl) (qX11_readOpen_0 14 22 rfl)
theorem dX11_readOpen_15 : decode cX11_readOpen 15 = .ok (.invokevirtual 296, 3) := @dq_o182 cX11_readOpen 15 1 40 (qX11_readOpen_0 15 182 rfl) (qX11_readOpen_1 0 1 rfl) (qX11_readOpen_1 1 40 rfl)
theorem dX11_readOpen_18 : decode cX11_readOpen 18 = .ok (.return_, 1) := @dq_o177 cX11_readOpen 18 (qX11_readOpen_1 2 177 rfl)
theorem dX11_readOpen_19 : decode cX11_readOpen 19 = .ok (.aload_n 0, 1) := @dq_o42 cX11_readOpen 19 (qX11_readOpen_1 3 42 rfl)
theorem dX11_readOpen_20 : decode cX11_readOpen 20 = .ok (.aload_n 0, 1) := @dq_o42 cX11_readOpen 20 (qX11_readOpen_1 4 42 rfl)
theorem dX11_readOpen_21 : decode cX11_readOpen 21 = .ok (.getfield 308, 3) := @dq_o180 cX11_readOpen 21 1 52 (qX11_readOpen_1 5 180 rfl) (qX11_readOpen_1 6 1 rfl) (qX11_readOpen_1 7 52 rfl)
theorem dX11_readOpen_24 : decode cX11_readOpen 24 = .ok (.iconst 1, 1) := @dq_o4 cX11_readOpen 24 (qX11_readOpen_1 8 4 rfl)
theorem dX11_readOpen_25 : decode cX11_readOpen 25 = .ok (.iadd, 1) := @dq_o96 cX11_readOpen 25 (qX11_readOpen_1 9 96 rfl)
theorem dX11_readOpen_26 : decode cX11_readOpen 26 = .ok (.putfield 308, 3) := @dq_o181 cX11_readOpen 26 1 52 (qX11_readOpen_1 10 181 rfl) (qX11_readOpen_1 11 1 rfl) (qX11_readOpen_1 12 52 rfl)
theorem dX11_readOpen_29 : decode cX11_readOpen 29 = .ok (.aload_n 0, 1) := @dq_o42 cX11_readOpen 29 (qX11_readOpen_1 13 42 rfl)
theorem dX11_readOpen_30 : decode cX11_readOpen 30 = .ok (.aload_n 0, 1) := @dq_o42 cX11_readOpen 30 (qX11_readOpen_1 14 42 rfl)
theorem dX11_readOpen_31 : decode cX11_readOpen 31 = .ok (.getfield 278, 3) := @dq_o180 cX11_readOpen 31 1 22 (qX11_readOpen_1 15 180 rfl) (qX11_readOpen_2 0 1 rfl) (qX11_readOpen_2 1 22 rfl)
theorem dX11_readOpen_34 : decode cX11_readOpen 34 = .ok (.iconst 1, 1) := @dq_o4 cX11_readOpen 34 (qX11_readOpen_2 2 4 rfl)
theorem dX11_readOpen_35 : decode cX11_readOpen 35 = .ok (.iadd, 1) := @dq_o96 cX11_readOpen 35 (qX11_readOpen_2 3 96 rfl)
theorem dX11_readOpen_36 : decode cX11_readOpen 36 = .ok (.putfield 278, 3) := @dq_o181 cX11_readOpen 36 1 22 (qX11_readOpen_2 4 181 rfl) (qX11_readOpen_2 5 1 rfl) (qX11_readOpen_2 6 22 rfl)
theorem dX11_readOpen_39 : decode cX11_readOpen 39 = .ok (.aload_n 0, 1) := @dq_o42 cX11_readOpen 39 (qX11_readOpen_2 7 42 rfl)
theorem dX11_readOpen_40 : decode cX11_readOpen 40 = .ok (.aload_n 0, 1) := @dq_o42 cX11_readOpen 40 (qX11_readOpen_2 8 42 rfl)
theorem dX11_readOpen_41 : decode cX11_readOpen 41 = .ok (.getfield 278, 3) := @dq_o180 cX11_readOpen 41 1 22 (qX11_readOpen_2 9 180 rfl) (qX11_readOpen_2 10 1 rfl) (qX11_readOpen_2 11 22 rfl)
theorem dX11_readOpen_44 : decode cX11_readOpen 44 = .ok (.putfield 293, 3) := @dq_o181 cX11_readOpen 44 1 37 (qX11_readOpen_2 12 181 rfl) (qX11_readOpen_2 13 1 rfl) (qX11_readOpen_2 14 37 rfl)
theorem dX11_readOpen_47 : decode cX11_readOpen 47 = .ok (.aload_n 0, 1) := @dq_o42 cX11_readOpen 47 (qX11_readOpen_2 15 42 rfl)
theorem dX11_readOpen_48 : decode cX11_readOpen 48 = .ok (.iload_n 1, 1) := @dq_o27 cX11_readOpen 48 (qX11_readOpen_3 0 27 rfl)
theorem dX11_readOpen_49 : decode cX11_readOpen 49 = .ok (.invokevirtual 311, 3) := @dq_o182 cX11_readOpen 49 1 55 (qX11_readOpen_3 1 182 rfl) (qX11_readOpen_3 2 1 rfl) (qX11_readOpen_3 3 55 rfl)
theorem dX11_readOpen_52 : decode cX11_readOpen 52 = .ok (.iload_n 2, 1) := @dq_o28 cX11_readOpen 52 (qX11_readOpen_3 4 28 rfl)
theorem dX11_readOpen_53 : decode cX11_readOpen 53 = .ok (.bipush 40, 2) := @dq_o16 cX11_readOpen 53 40 (qX11_readOpen_3 5 16 rfl) (qX11_readOpen_3 6 40 rfl)
theorem dX11_readOpen_55 : decode cX11_readOpen 55 = .ok (.if_icmp .ne 12, 3) := @dq_o160 cX11_readOpen 55 0 12 (qX11_readOpen_3 7 160 rfl) (qX11_readOpen_3 8 0 rfl) (qX11_readOpen_3 9 12 rfl)
theorem dX11_readOpen_58 : decode cX11_readOpen 58 = .ok (.aload_n 0, 1) := @dq_o42 cX11_readOpen 58 (qX11_readOpen_3 10 42 rfl)
theorem dX11_readOpen_59 : decode cX11_readOpen 59 = .ok (.bipush 41, 2) := @dq_o16 cX11_readOpen 59 41 (qX11_readOpen_3 11 16 rfl) (qX11_readOpen_3 12 41 rfl)
theorem dX11_readOpen_61 : decode cX11_readOpen 61 = .ok (.invokevirtual 314, 3) := @dq_o182 cX11_readOpen 61 1 58 (qX11_readOpen_3 13 182 rfl) (qX11_readOpen_3 14 1 rfl) (qX11_readOpen_3 15 58 rfl)
theorem dX11_readOpen_64 : decode cX11_readOpen 64 = .ok (.goto 8, 3) := @dq_o167 cX11_readOpen 64 0 8 (qX11_readOpen_4 0 167 rfl) (qX11_readOpen_4 1 0 rfl) (qX11_readOpen_4 2 8 rfl)
theorem dX11_readOpen_67 : decode cX11_readOpen 67 = .ok (.aload_n 0, 1) := @dq_o42 cX11_readOpen 67 (qX11_readOpen_4 3 42 rfl)
theorem dX11_readOpen_68 : decode cX11_readOpen 68 = .ok (.iload_n 1, 1) := @dq_o27 cX11_readOpen 68 (qX11_readOpen_4 4 27 rfl)
theorem dX11_readOpen_69 : decode cX11_readOpen 69 = .ok (.invokevirtual 317, 3) := @dq_o182 cX11_readOpen 69 1 61 (qX11_readOpen_4 5 182 rfl) (qX11_readOpen_4 6 1 rfl) (qX11_readOpen_4 7 61 rfl)
theorem dX11_readOpen_72 : decode cX11_readOpen 72 = .ok (.aload_n 0, 1) := @dq_o42 cX11_readOpen 72 (qX11_readOpen_4 8 42 rfl)
theorem dX11_readOpen_73 : decode cX11_readOpen 73 = .ok (.aload_n 0, 1) := @dq_o42 cX11_readOpen 73 (qX11_readOpen_4 9 42 rfl)
theorem dX11_readOpen_74 : decode cX11_readOpen 74 = .ok (.getfield 308, 3) := @dq_o180 cX11_readOpen 74 1 52 (qX11_readOpen_4 10 180 rfl) (qX11_readOpen_4 11 1 rfl) (qX11_readOpen_4 12 52 rfl)
theorem dX11_readOpen_77 : decode cX11_readOpen 77 = .ok (.iconst 1, 1) := @dq_o4 cX11_readOpen 77 (qX11_readOpen_4 13 4 rfl)
theorem dX11_readOpen_78 : decode cX11_readOpen 78 = .ok (.isub, 1) := @dq_o100 cX11_readOpen 78 (qX11_readOpen_4 14 100 rfl)
theorem dX11_readOpen_79 : decode cX11_readOpen 79 = .ok (.putfield 308, 3) := @dq_o181 cX11_readOpen 79 1 52 (qX11_readOpen_4 15 181 rfl) (qX11_readOpen_5 0 1 rfl) (qX11_readOpen_5 1 52 rfl)
theorem dX11_readOpen_82 : decode cX11_readOpen 82 = .ok (.return_, 1) := @dq_o177 cX11_readOpen 82 (qX11_readOpen_5 2 177 rfl)
abbrev qaX11_readCommutator_0 : List Nat := [3, 61, 42, 182, 1, 31, 154, 0, 76, 28, 153, 0, 12, 42, 182, 1]
abbrev qaX11_readCommutator_1 : List Nat := [49, 16, 44, 160, 0, 63, 42, 16, 44, 182, 1, 58, 42, 42, 180, 1]
abbrev qaX11_readCommutator_2 : List Nat := [22, 181, 1, 37, 42, 27, 4, 96, 182, 1, 55, 42, 182, 1, 31, 153]
abbrev qaX11_readCommutator_3 : List Nat := [0, 4, 177, 42, 27, 27, 4, 96, 27, 5, 96, 182, 0, 254, 42, 27]
abbrev qaX11_readCommutator_4 : List Nat := [5, 96, 27, 182, 0, 193, 42, 27, 182, 1, 64, 28, 4, 96, 61, 167]
abbrev qaX11_readCommutator_5 : List Nat := [255, 179, 42, 16, 93, 182, 1, 58, 177]
def qtX11_readCommutator_6 : List Nat := []
def qtX11_readCommutator_5 : List Nat := qaX11_readCommutator_5 ++ qtX11_readCommutator_6
def qtX11_readCommutator_4 : List Nat := qaX11_readCommutator_4 ++ qtX11_readCommutator_5
def qtX11_readCommutator_3 : List Nat := qaX11_readCommutator_3 ++ qtX11_readCommutator_4
def qtX11_readCommutator_2 : List Nat := qaX11_readCommutator_2 ++ qtX11_readCommutator_3
def qtX11_readCommutator_1 : List Nat := qaX11_readCommutator_1 ++ qtX11_readCommutator_2
def qtX11_readCommutator_0 : List Nat := qaX11_readCommutator_0 ++ qtX11_readCommutator_1
theorem qeX11_readCommutator : cX11_readCommutator.data.toList.map UInt8.toNat = qtX11_readCommutator_0 := by decide +kernel
theorem qsX11_readCommutator_0 : ∀ i, dqNth qtX11_readCommutator_0 (0 + i) = dqNth qtX11_readCommutator_0 i := fun i => by rw [Nat.zero_add]
theorem qsX11_readCommutator_1 : ∀ i, dqNth qtX11_readCommutator_0 (16 + i) = dqNth qtX11_readCommutator_1 i := dq_step qsX11_readCommutator_0 rfl rfl
theorem qsX11_readCommutator_2 : ∀ i, dqNth qtX11_readCommutator_0 (32 + i) = dqNth qtX11_readCommutator_2 i := dq_step qsX11_readCommutator_1 rfl rfl
theorem qsX11_readCommutator_3 : ∀ i, dqNth qtX11_readCommutator_0 (48 + i) = dqNth qtX11_readCommutator_3 i := dq_step qsX11_readCommutator_2 rfl rfl
theorem qsX11_readCommutator_4 : ∀ i, dqNth qtX11_readCommutator_0 (64 + i) = dqNth qtX11_readCommutator_4 i := dq_step qsX11_readCommutator_3 rfl rfl
theorem qsX11_readCommutator_5 : ∀ i, dqNth qtX11_readCommutator_0 (80 + i) = dqNth qtX11_readCommutator_5 i := dq_step qsX11_readCommutator_4 rfl rfl
theorem qX11_readCommutator_0 (i b : Nat) (h : dqNth qaX11_readCommutator_0 i = some b) : DqBy cX11_readCommutator (0 + i) b := dqBy_of qeX11_readCommutator ((qsX11_readCommutator_0 i).trans (dq_in h))
theorem qX11_readCommutator_1 (i b : Nat) (h : dqNth qaX11_readCommutator_1 i = some b) : DqBy cX11_readCommutator (16 + i) b := dqBy_of qeX11_readCommutator ((qsX11_readCommutator_1 i).trans (dq_in h))
theorem qX11_readCommutator_2 (i b : Nat) (h : dqNth qaX11_readCommutator_2 i = some b) : DqBy cX11_readCommutator (32 + i) b := dqBy_of qeX11_readCommutator ((qsX11_readCommutator_2 i).trans (dq_in h))
theorem qX11_readCommutator_3 (i b : Nat) (h : dqNth qaX11_readCommutator_3 i = some b) : DqBy cX11_readCommutator (48 + i) b := dqBy_of qeX11_readCommutator ((qsX11_readCommutator_3 i).trans (dq_in h))
theorem qX11_readCommutator_4 (i b : Nat) (h : dqNth qaX11_readCommutator_4 i = some b) : DqBy cX11_readCommutator (64 + i) b := dqBy_of qeX11_readCommutator ((qsX11_readCommutator_4 i).trans (dq_in h))
theorem qX11_readCommutator_5 (i b : Nat) (h : dqNth qaX11_readCommutator_5 i = some b) : DqBy cX11_readCommutator (80 + i) b := dqBy_of qeX11_readCommutator ((qsX11_readCommutator_5 i).trans (dq_in h))
theorem dX11_readCommutator_0 : decode cX11_readCommutator 0 = .ok (.iconst 0, 1) := @dq_o3 cX11_readCommutator 0 (qX11_readCommutator_0 0 3 rfl)
theorem dX11_readCommutator_1 : decode cX11_readCommutator 1 = .ok (.istore_n 2, 1) := @dq_o61 cX11_readCommutator 1 (qX11_readCommutator_0 1 61 rfl)
theorem dX11_readCommutator_2 : decode cX11_readCommutator 2 = .ok (.aload_n 0, 1) := @dq_o42 cX11_readCommutator 2 (qX11_readCommutator_0 2 42 rfl)
theorem dX11_readCommutator_3 : decode cX11_readCommutator 3 = .ok (.invokevirtual 287, 3) := @dq_o182 cX11_readCommutator 3 1 31 (qX11_readCommutator_0 3 182 rfl) (qX11_readCommutator_0 4 1 rfl) (qX11_readCommutator_0 5 31 rfl)
theorem dX11_readCommutator_6 : decode cX11_readCommutator 6 = .ok (.ifCond .ne 76, 3) := @dq_o154 cX11_readCommutator 6 0 76 (qX11_readCommutator_0 6 154 rfl) (qX11_readCommutator_0 7 0 rfl) (qX11_readCommutator_0 8 76 rfl)
theorem dX11_readCommutator_9 : decode cX11_readCommutator 9 = .ok (.iload_n 2, 1) := @dq_o28 cX11_readCommutator 9 (qX11_readCommutator_0 9 28 rfl)
theorem dX11_readCommutator_10 : decode cX11_readCommutator 10 = .ok (.ifCond .eq 12, 3) := @dq_o153 cX11_readCommutator 10 0 12 (qX11_readCommutator_0 10 153 rfl) (qX11_readCommutator_0 11 0 rfl) (qX11_readCommutator_0 12 12 rfl)
theorem dX11_readCommutator_13 : decode cX11_readCommutator 13 = .ok (.aload_n 0, 1) := @dq_o42 cX11_readCommutator 13 (qX11_readCommutator_0 13 42 rfl)
theorem dX11_readCommutator_14 : decode cX11_readCommutator 14 = .ok (.invokevirtual 305, 3) := @dq_o182 cX11_readCommutator 14 1 49 (qX11_readCommutator_0 14 182 rfl) (qX11_readCommutator_0 15 1 rfl) (qX11_readCommutator_1 0 49 rfl)
theorem dX11_readCommutator_17 : decode cX11_readCommutator 17 = .ok (.bipush 44, 2) := @dq_o16 cX11_readCommutator 17 44 (qX11_readCommutator_1 1 16 rfl) (qX11_readCommutator_1 2 44 rfl)
theorem dX11_readCommutator_19 : decode cX11_readCommutator 19 = .ok (.if_icmp .ne 63, 3) := @dq_o160 cX11_readCommutator 19 0 63 (qX11_readCommutator_1 3 160 rfl) (qX11_readCommutator_1 4 0 rfl) (qX11_readCommutator_1 5 63 rfl)
theorem dX11_readCommutator_22 : decode cX11_readCommutator 22 = .ok (.aload_n 0, 1) := @dq_o42 cX11_readCommutator 22 (qX11_readCommutator_1 6 42 rfl)
theorem dX11_readCommutator_23 : decode cX11_readCommutator 23 = .ok (.bipush 44, 2) := @dq_o16 cX11_readCommutator 23 44 (qX11_readCommutator_1 7 16 rfl) (qX11_readCommutator_1 8 44 rfl)
theorem dX11_readCommutator_25 : decode cX11_readCommutator 25 = .ok (.invokevirtual 314, 3) := @dq_o182 cX11_readCommutator 25 1 58 (qX11_readCommutator_1 9 182 rfl) (qX11_readCommutator_1 10 1 rfl) (qX11_readCommutator_1 11 58 rfl)
theorem dX11_readCommutator_28 : decode cX11_readCommutator 28 = .ok (.aload_n 0, 1) := @dq_o42 cX11_readCommutator 28 (qX11_readCommutator_1 12 42 rfl)
theorem dX11_readCommutator_29 : decode cX11_readCommutator 29 = .ok (.aload_n 0, 1) := @dq_o42 cX11_readCommutator 29 (qX11_readCommutator_1 13 42 rfl)
theorem dX11_readCommutator_30 : decode cX11_readCommutator 30 = .ok (.getfield 278, 3) := @dq_o180 cX11_readCommutator 30 1 22 (qX11_readCommutator_1 14 180 rfl) (qX11_readCommutator_1 15 1 rfl) (qX11_readCommutator_2 0 22 rfl)
theorem dX11_readCommutator_33 : decode cX11_readCommutator 33 = .ok (.putfield 293, 3) := @dq_o181 cX11_readCommutator 33 1 37 (qX11_readCommutator_2 1 181 rfl) (qX11_readCommutator_2 2 1 rfl) (qX11_readCommutator_2 3 37 rfl)
theorem dX11_readCommutator_36 : decode cX11_readCommutator 36 = .ok (.aload_n 0, 1) := @dq_o42 cX11_readCommutator 36 (qX11_readCommutator_2 4 42 rfl)
theorem dX11_readCommutator_37 : decode cX11_readCommutator 37 = .ok (.iload_n 1, 1) := @dq_o27 cX11_readCommutator 37 (qX11_readCommutator_2 5 27 rfl)
theorem dX11_readCommutator_38 : decode cX11_readCommutator 38 = .ok (.iconst 1, 1) := @dq_o4 cX11_readCommutator 38 (qX11_readCommutator_2 6 4 rfl)
theorem dX11_readCommutator_39 : decode cX11_readCommutator 39 = .ok (.iadd, 1) := @dq_o96 cX11_readCommutator 39 (qX11_readCommutator_2 7 96 rfl)
theorem dX11_readCommutator_40 : decode cX11_readCommutator 40 = .ok (.invokevirtual 311, 3) := @dq_o182 cX11_readCommutator 40 1 55 (qX11_readCommutator_2 8 182 rfl) (qX11_readCommutator_2 9 1 rfl) (qX11_readCommutator_2 10 55 rfl)
theorem dX11_readCommutator_43 : decode cX11_readCommutator 43 = .ok (.aload_n 0, 1) := @dq_o42 cX11_readCommutator 43 (qX11_readCommutator_2 11 42 rfl)
theorem dX11_readCommutator_44 : decode cX11_readCommutator 44 = .ok (.invokevirtual 287, 3) := @dq_o182 cX11_readCommutator 44 1 31 (qX11_readCommutator_2 12 182 rfl) (qX11_readCommutator_2 13 1 rfl) (qX11_readCommutator_2 14 31 rfl)
theorem dX11_readCommutator_47 : decode cX11_readCommutator 47 = .ok (.ifCond .eq 4, 3) := @dq_o153 cX11_readCommutator 47 0 4 (qX11_readCommutator_2 15 153 rfl) (qX11_readCommutator_3 0 0 rfl) (qX11_readCommutator_3 1 4 rfl)
theorem dX11_readCommutator_50 : decode cX11_readCommutator 50 = .ok (.return_, 1) := @dq_o177 cX11_readCommutator 50 (qX11_readCommutator_3 2 177 rfl)
theorem dX11_readCommutator_51 : decode cX11_readCommutator 51 = .ok (.aload_n 0, 1) := @dq_o42 cX11_readCommutator 51 (qX11_readCommutator_3 3 42 rfl)
theorem dX11_readCommutator_52 : decode cX11_readCommutator 52 = .ok (.iload_n 1, 1) := @dq_o27 cX11_readCommutator 52 (qX11_readCommutator_3 4 27 rfl)
theorem dX11_readCommutator_53 : decode cX11_readCommutator 53 = .ok (.iload_n 1, 1) := @dq_o27 cX11_readCommutator 53 (qX11_readCommutator_3 5 27 rfl)
theorem dX11_readCommutator_54 : decode cX11_readCommutator 54 = .ok (.iconst 1, 1) := @dq_o4 cX11_readCommutator 54 (qX11_readCommutator_3 6 4 rfl)
theorem dX11_readCommutator_55 : decode cX11_readCommutator 55 = .ok (.iadd, 1) := @dq_o96 cX11_readCommutator 55 (qX11_readCommutator_3 7 96 rfl)
theorem dX11_readCommutator_56 : decode cX11_readCommutator 56 = .ok (.iload_n 1, 1) := @dq_o27 cX11_readCommutator 56 (qX11_readCommutator_3 8 27 rfl)
theorem dX11_readCommutator_57 : decode cX11_readCommutator 57 = .ok (.iconst 2, 1) := @dq_o5 cX11_readCommutator 57 (qX11_readCommutator_3 9 5 rfl)
theorem dX11_readCommutator_58 : decode cX11_readCommutator 58 = .ok (.iadd, 1) := @dq_o96 cX11_readCommutator 58 (qX11_readCommutator_3 10 96 rfl)
theorem dX11_readCommutator_59 : decode cX11_readCommutator 59 = .ok (.invokevirtual 254, 3) := @dq_o182 cX11_readCommutator 59 0 254 (qX11_readCommutator_3 11 182 rfl) (qX11_readCommutator_3 12 0 rfl) (qX11_readCommutator_3 13 254 rfl)
theorem dX11_readCommutator_62 : decode cX11_readCommutator 62 = .ok (.aload_n 0, 1) := @dq_o42 cX11_readCommutator 62 (qX11_readCommutator_3 14 42 rfl)
theorem dX11_readCommutator_63 : decode cX11_readCommutator 63 = .ok (.iload_n 1, 1) := @dq_o27 cX11_readCommutator 63 (qX11_readCommutator_3 15 27 rfl)
theorem dX11_readCommutator_64 : decode cX11_readCommutator 64 = .ok (.iconst 2, 1) := @dq_o5 cX11_readCommutator 64 (qX11_readCommutator_4 0 5 rfl)
theorem dX11_readCommutator_65 : decode cX11_readCommutator 65 = .ok (.iadd, 1) := @dq_o96 cX11_readCommutator 65 (qX11_readCommutator_4 1 96 rfl)
theorem dX11_readCommutator_66 : decode cX11_readCommutator 66 = .ok (.iload_n 1, 1) := @dq_o27 cX11_readCommutator 66 (qX11_readCommutator_4 2 27 rfl)
theorem dX11_readCommutator_67 : decode cX11_readCommutator 67 = .ok (.invokevirtual 193, 3) := @dq_o182 cX11_readCommutator 67 0 193 (qX11_readCommutator_4 3 182 rfl) (qX11_readCommutator_4 4 0 rfl) (qX11_readCommutator_4 5 193 rfl)
theorem dX11_readCommutator_70 : decode cX11_readCommutator 70 = .ok (.aload_n 0, 1) := @dq_o42 cX11_readCommutator 70 (qX11_readCommutator_4 6 42 rfl)
theorem dX11_readCommutator_71 : decode cX11_readCommutator 71 = .ok (.iload_n 1, 1) := @dq_o27 cX11_readCommutator 71 (qX11_readCommutator_4 7 27 rfl)
theorem dX11_readCommutator_72 : decode cX11_readCommutator 72 = .ok (.invokevirtual 320, 3) := @dq_o182 cX11_readCommutator 72 1 64 (qX11_readCommutator_4 8 182 rfl) (qX11_readCommutator_4 9 1 rfl) (qX11_readCommutator_4 10 64 rfl)
theorem dX11_readCommutator_75 : decode cX11_readCommutator 75 = .ok (.iload_n 2, 1) := @dq_o28 cX11_readCommutator 75 (qX11_readCommutator_4 11 28 rfl)
theorem dX11_readCommutator_76 : decode cX11_readCommutator 76 = .ok (.iconst 1, 1) := @dq_o4 cX11_readCommutator 76 (qX11_readCommutator_4 12 4 rfl)
theorem dX11_readCommutator_77 : decode cX11_readCommutator 77 = .ok (.iadd, 1) := @dq_o96 cX11_readCommutator 77 (qX11_readCommutator_4 13 96 rfl)
theorem dX11_readCommutator_78 : decode cX11_readCommutator 78 = .ok (.istore_n 2, 1) := @dq_o61 cX11_readCommutator 78 (qX11_readCommutator_4 14 61 rfl)
theorem dX11_readCommutator_79 : decode cX11_readCommutator 79 = .ok (.goto (-77), 3) := @dq_o167 cX11_readCommutator 79 255 179 (qX11_readCommutator_4 15 167 rfl) (qX11_readCommutator_5 0 255 rfl) (qX11_readCommutator_5 1 179 rfl)
theorem dX11_readCommutator_82 : decode cX11_readCommutator 82 = .ok (.aload_n 0, 1) := @dq_o42 cX11_readCommutator 82 (qX11_readCommutator_5 2 42 rfl)
theorem dX11_readCommutator_83 : decode cX11_readCommutator 83 = .ok (.bipush 93, 2) := @dq_o16 cX11_readCommutator 83 93 (qX11_readCommutator_5 3 16 rfl) (qX11_readCommutator_5 4 93 rfl)
theorem dX11_readCommutator_85 : decode cX11_readCommutator 85 = .ok (.invokevirtual 314, 3) := @dq_o182 cX11_readCommutator 85 1 58 (qX11_readCommutator_5 5 182 rfl) (qX11_readCommutator_5 6 1 rfl) (qX11_readCommutator_5 7 58 rfl)
theorem dX11_readCommutator_88 : decode cX11_readCommutator 88 = .ok (.return_, 1) := @dq_o177 cX11_readCommutator 88 (qX11_readCommutator_5 8 177 rfl)
abbrev qaX11_readPower_0 : List Nat := [42, 182, 1, 31, 153, 0, 4, 177, 42, 180, 1, 22, 61, 42, 182, 1]
abbrev qaX11_readPower_1 : List Nat := [49, 16, 94, 159, 0, 9, 42, 28, 181, 1, 22, 177, 42, 42, 180, 1]
abbrev qaX11_readPower_2 : List Nat := [22, 4, 96, 181, 1, 22, 42, 182, 1, 49, 16, 45, 160, 0, 7, 4]
abbrev qaX11_readPower_3 : List Nat := [167, 0, 4, 3, 62, 29, 153, 0, 18, 42, 42, 180, 1, 22, 4, 96]
abbrev qaX11_readPower_4 : List Nat := [181, 1, 22, 42, 182, 1, 49, 87, 42, 180, 1, 22, 54, 4, 42, 42]
abbrev qaX11_readPower_5 : List Nat := [182, 1, 28, 182, 1, 43, 154, 0, 13, 42, 4, 42, 180, 1, 22, 182]
abbrev qaX11_readPower_6 : List Nat := [1, 40, 177, 3, 54, 5, 42, 42, 182, 1, 28, 182, 1, 43, 153, 0]
abbrev qaX11_readPower_7 : List Nat := [43, 21, 5, 16, 99, 164, 0, 8, 21, 5, 167, 0, 16, 16, 10, 21]
abbrev qaX11_readPower_8 : List Nat := [5, 104, 42, 182, 1, 28, 96, 16, 48, 100, 54, 5, 42, 42, 180, 1]
abbrev qaX11_readPower_9 : List Nat := [22, 4, 96, 181, 1, 22, 167, 255, 208, 21, 5, 16, 99, 164, 0, 11]
abbrev qaX11_readPower_10 : List Nat := [42, 5, 21, 4, 182, 1, 40, 177, 42, 42, 180, 1, 22, 181, 1, 37]
abbrev qaX11_readPower_11 : List Nat := [42, 27, 27, 4, 96, 29, 153, 0, 9, 21, 5, 116, 167, 0, 5, 21]
abbrev qaX11_readPower_12 : List Nat := [5, 182, 0, 251, 42, 27, 4, 96, 27, 182, 0, 193, 42, 27, 182, 1]
abbrev qaX11_readPower_13 : List Nat := [64, 177]
def qtX11_readPower_14 : List Nat := []
def qtX11_readPower_13 : List Nat := qaX11_readPower_13 ++ qtX11_readPower_14
def qtX11_readPower_12 : List Nat := qaX11_readPower_12 ++ qtX11_readPower_13
def qtX11_readPower_11 : List Nat := qaX11_readPower_11 ++ qtX11_readPower_12
def qtX11_readPower_10 : List Nat := qaX11_readPower_10 ++ qtX11_readPower_11
def qtX11_readPower_9 : List Nat := qaX11_readPower_9 ++ qtX11_readPower_10
def qtX11_readPower_8 : List Nat := qaX11_readPower_8 ++ qtX11_readPower_9
def qtX11_readPower_7 : List Nat := qaX11_readPower_7 ++ qtX11_readPower_8
def qtX11_readPower_6 : List Nat := qaX11_readPower_6 ++ qtX11_readPower_7
def qtX11_readPower_5 : List Nat := qaX11_readPower_5 ++ qtX11_readPower_6
def qtX11_readPower_4 : List Nat := qaX11_readPower_4 ++ qtX11_readPower_5
def qtX11_readPower_3 : List Nat := qaX11_readPower_3 ++ qtX11_readPower_4
def qtX11_readPower_2 : List Nat := qaX11_readPower_2 ++ qtX11_readPower_3
def qtX11_readPower_1 : List Nat := qaX11_readPower_1 ++ qtX11_readPower_2
def qtX11_readPower_0 : List Nat := qaX11_readPower_0 ++ qtX11_readPower_1
theorem qeX11_readPower : cX11_readPower.data.toList.map UInt8.toNat = qtX11_readPower_0 := by decide +kernel
theorem qsX11_readPower_0 : ∀ i, dqNth qtX11_readPower_0 (0 + i) = dqNth qtX11_readPower_0 i := fun i => by rw [Nat.zero_add]
theorem qsX11_readPower_1 : ∀ i, dqNth qtX11_readPower_0 (16 + i) = dqNth qtX11_readPower_1 i := dq_step qsX11_readPower_0 rfl rfl
theorem qsX11_readPower_2 : ∀ i, dqNth qtX11_readPower_0 (32 + i) = dqNth qtX11_readPower_2 i := dq_step qsX11_readPower_1 rfl rfl
theorem qsX11_readPower_3 : ∀ i, dqNth qtX11_readPower_0 (48 + i) = dqNth qtX11_readPower_3 i := dq_step qsX11_readPower_2 rfl rfl
theorem qsX11_readPower_4 : ∀ i, dqNth qtX11_readPower_0 (64 + i) = dqNth qtX11_readPower_4 i := dq_step qsX11_readPower_3 rfl rfl
theorem qsX11_readPower_5 : ∀ i, dqNth qtX11_readPower_0 (80 + i) = dqNth qtX11_readPower_5 i := dq_step qsX11_readPower_4 rfl rfl
theorem qsX11_readPower_6 : ∀ i, dqNth qtX11_readPower_0 (96 + i) = dqNth qtX11_readPower_6 i := dq_step qsX11_readPower_5 rfl rfl
theorem qsX11_readPower_7 : ∀ i, dqNth qtX11_readPower_0 (112 + i) = dqNth qtX11_readPower_7 i := dq_step qsX11_readPower_6 rfl rfl
theorem qsX11_readPower_8 : ∀ i, dqNth qtX11_readPower_0 (128 + i) = dqNth qtX11_readPower_8 i := dq_step qsX11_readPower_7 rfl rfl
theorem qsX11_readPower_9 : ∀ i, dqNth qtX11_readPower_0 (144 + i) = dqNth qtX11_readPower_9 i := dq_step qsX11_readPower_8 rfl rfl
theorem qsX11_readPower_10 : ∀ i, dqNth qtX11_readPower_0 (160 + i) = dqNth qtX11_readPower_10 i := dq_step qsX11_readPower_9 rfl rfl
theorem qsX11_readPower_11 : ∀ i, dqNth qtX11_readPower_0 (176 + i) = dqNth qtX11_readPower_11 i := dq_step qsX11_readPower_10 rfl rfl
theorem qsX11_readPower_12 : ∀ i, dqNth qtX11_readPower_0 (192 + i) = dqNth qtX11_readPower_12 i := dq_step qsX11_readPower_11 rfl rfl
theorem qsX11_readPower_13 : ∀ i, dqNth qtX11_readPower_0 (208 + i) = dqNth qtX11_readPower_13 i := dq_step qsX11_readPower_12 rfl rfl
theorem qX11_readPower_0 (i b : Nat) (h : dqNth qaX11_readPower_0 i = some b) : DqBy cX11_readPower (0 + i) b := dqBy_of qeX11_readPower ((qsX11_readPower_0 i).trans (dq_in h))
theorem qX11_readPower_1 (i b : Nat) (h : dqNth qaX11_readPower_1 i = some b) : DqBy cX11_readPower (16 + i) b := dqBy_of qeX11_readPower ((qsX11_readPower_1 i).trans (dq_in h))
theorem qX11_readPower_2 (i b : Nat) (h : dqNth qaX11_readPower_2 i = some b) : DqBy cX11_readPower (32 + i) b := dqBy_of qeX11_readPower ((qsX11_readPower_2 i).trans (dq_in h))
theorem qX11_readPower_3 (i b : Nat) (h : dqNth qaX11_readPower_3 i = some b) : DqBy cX11_readPower (48 + i) b := dqBy_of qeX11_readPower ((qsX11_readPower_3 i).trans (dq_in h))
theorem qX11_readPower_4 (i b : Nat) (h : dqNth qaX11_readPower_4 i = some b) : DqBy cX11_readPower (64 + i) b := dqBy_of qeX11_readPower ((qsX11_readPower_4 i).trans (dq_in h))
theorem qX11_readPower_5 (i b : Nat) (h : dqNth qaX11_readPower_5 i = some b) : DqBy cX11_readPower (80 + i) b := dqBy_of qeX11_readPower ((qsX11_readPower_5 i).trans (dq_in h))
theorem qX11_readPower_6 (i b : Nat) (h : dqNth qaX11_readPower_6 i = some b) : DqBy cX11_readPower (96 + i) b := dqBy_of qeX11_readPower ((qsX11_readPower_6 i).trans (dq_in h))
theorem qX11_readPower_7 (i b : Nat) (h : dqNth qaX11_readPower_7 i = some b) : DqBy cX11_readPower (112 + i) b := dqBy_of qeX11_readPower ((qsX11_readPower_7 i).trans (dq_in h))
theorem qX11_readPower_8 (i b : Nat) (h : dqNth qaX11_readPower_8 i = some b) : DqBy cX11_readPower (128 + i) b := dqBy_of qeX11_readPower ((qsX11_readPower_8 i).trans (dq_in h))
theorem qX11_readPower_9 (i b : Nat) (h : dqNth qaX11_readPower_9 i = some b) : DqBy cX11_readPower (144 + i) b := dqBy_of qeX11_readPower ((qsX11_readPower_9 i).trans (dq_in h))
theorem qX11_readPower_10 (i b : Nat) (h : dqNth qaX11_readPower_10 i = some b) : DqBy cX11_readPower (160 + i) b := dqBy_of qeX11_readPower ((qsX11_readPower_10 i).trans (dq_in h))
theorem qX11_readPower_11 (i b : Nat) (h : dqNth qaX11_readPower_11 i = some b) : DqBy cX11_readPower (176 + i) b := dqBy_of qeX11_readPower ((qsX11_readPower_11 i).trans (dq_in h))
theorem qX11_readPower_12 (i b : Nat) (h : dqNth qaX11_readPower_12 i = some b) : DqBy cX11_readPower (192 + i) b := dqBy_of qeX11_readPower ((qsX11_readPower_12 i).trans (dq_in h))
theorem qX11_readPower_13 (i b : Nat) (h : dqNth qaX11_readPower_13 i = some b) : DqBy cX11_readPower (208 + i) b := dqBy_of qeX11_readPower ((qsX11_readPower_13 i).trans (dq_in h))
theorem dX11_readPower_0 : decode cX11_readPower 0 = .ok (.aload_n 0, 1) := @dq_o42 cX11_readPower 0 (qX11_readPower_0 0 42 rfl)
theorem dX11_readPower_1 : decode cX11_readPower 1 = .ok (.invokevirtual 287, 3) := @dq_o182 cX11_readPower 1 1 31 (qX11_readPower_0 1 182 rfl) (qX11_readPower_0 2 1 rfl) (qX11_readPower_0 3 31 rfl)
theorem dX11_readPower_4 : decode cX11_readPower 4 = .ok (.ifCond .eq 4, 3) := @dq_o153 cX11_readPower 4 0 4 (qX11_readPower_0 4 153 rfl) (qX11_readPower_0 5 0 rfl) (qX11_readPower_0 6 4 rfl)
theorem dX11_readPower_7 : decode cX11_readPower 7 = .ok (.return_, 1) := @dq_o177 cX11_readPower 7 (qX11_readPower_0 7 177 rfl)
theorem dX11_readPower_8 : decode cX11_readPower 8 = .ok (.aload_n 0, 1) := @dq_o42 cX11_readPower 8 (qX11_readPower_0 8 42 rfl)
theorem dX11_readPower_9 : decode cX11_readPower 9 = .ok (.getfield 278, 3) := @dq_o180 cX11_readPower 9 1 22 (qX11_readPower_0 9 180 rfl) (qX11_readPower_0 10 1 rfl) (qX11_readPower_0 11 22 rfl)
theorem dX11_readPower_12 : decode cX11_readPower 12 = .ok (.istore_n 2, 1) := @dq_o61 cX11_readPower 12 (qX11_readPower_0 12 61 rfl)
theorem dX11_readPower_13 : decode cX11_readPower 13 = .ok (.aload_n 0, 1) := @dq_o42 cX11_readPower 13 (qX11_readPower_0 13 42 rfl)
theorem dX11_readPower_14 : decode cX11_readPower 14 = .ok (.invokevirtual 305, 3) := @dq_o182 cX11_readPower 14 1 49 (qX11_readPower_0 14 182 rfl) (qX11_readPower_0 15 1 rfl) (qX11_readPower_1 0 49 rfl)
theorem dX11_readPower_17 : decode cX11_readPower 17 = .ok (.bipush 94, 2) := @dq_o16 cX11_readPower 17 94 (qX11_readPower_1 1 16 rfl) (qX11_readPower_1 2 94 rfl)
theorem dX11_readPower_19 : decode cX11_readPower 19 = .ok (.if_icmp .eq 9, 3) := @dq_o159 cX11_readPower 19 0 9 (qX11_readPower_1 3 159 rfl) (qX11_readPower_1 4 0 rfl) (qX11_readPower_1 5 9 rfl)
theorem dX11_readPower_22 : decode cX11_readPower 22 = .ok (.aload_n 0, 1) := @dq_o42 cX11_readPower 22 (qX11_readPower_1 6 42 rfl)
theorem dX11_readPower_23 : decode cX11_readPower 23 = .ok (.iload_n 2, 1) := @dq_o28 cX11_readPower 23 (qX11_readPower_1 7 28 rfl)
theorem dX11_readPower_24 : decode cX11_readPower 24 = .ok (.putfield 278, 3) := @dq_o181 cX11_readPower 24 1 22 (qX11_readPower_1 8 181 rfl) (qX11_readPower_1 9 1 rfl) (qX11_readPower_1 10 22 rfl)
theorem dX11_readPower_27 : decode cX11_readPower 27 = .ok (.return_, 1) := @dq_o177 cX11_readPower 27 (qX11_readPower_1 11 177 rfl)
theorem dX11_readPower_28 : decode cX11_readPower 28 = .ok (.aload_n 0, 1) := @dq_o42 cX11_readPower 28 (qX11_readPower_1 12 42 rfl)
theorem dX11_readPower_29 : decode cX11_readPower 29 = .ok (.aload_n 0, 1) := @dq_o42 cX11_readPower 29 (qX11_readPower_1 13 42 rfl)
theorem dX11_readPower_30 : decode cX11_readPower 30 = .ok (.getfield 278, 3) := @dq_o180 cX11_readPower 30 1 22 (qX11_readPower_1 14 180 rfl) (qX11_readPower_1 15 1 rfl) (qX11_readPower_2 0 22 rfl)
theorem dX11_readPower_33 : decode cX11_readPower 33 = .ok (.iconst 1, 1) := @dq_o4 cX11_readPower 33 (qX11_readPower_2 1 4 rfl)
theorem dX11_readPower_34 : decode cX11_readPower 34 = .ok (.iadd, 1) := @dq_o96 cX11_readPower 34 (qX11_readPower_2 2 96 rfl)
theorem dX11_readPower_35 : decode cX11_readPower 35 = .ok (.putfield 278, 3) := @dq_o181 cX11_readPower 35 1 22 (qX11_readPower_2 3 181 rfl) (qX11_readPower_2 4 1 rfl) (qX11_readPower_2 5 22 rfl)
theorem dX11_readPower_38 : decode cX11_readPower 38 = .ok (.aload_n 0, 1) := @dq_o42 cX11_readPower 38 (qX11_readPower_2 6 42 rfl)
theorem dX11_readPower_39 : decode cX11_readPower 39 = .ok (.invokevirtual 305, 3) := @dq_o182 cX11_readPower 39 1 49 (qX11_readPower_2 7 182 rfl) (qX11_readPower_2 8 1 rfl) (qX11_readPower_2 9 49 rfl)
theorem dX11_readPower_42 : decode cX11_readPower 42 = .ok (.bipush 45, 2) := @dq_o16 cX11_readPower 42 45 (qX11_readPower_2 10 16 rfl) (qX11_readPower_2 11 45 rfl)
theorem dX11_readPower_44 : decode cX11_readPower 44 = .ok (.if_icmp .ne 7, 3) := @dq_o160 cX11_readPower 44 0 7 (qX11_readPower_2 12 160 rfl) (qX11_readPower_2 13 0 rfl) (qX11_readPower_2 14 7 rfl)
theorem dX11_readPower_47 : decode cX11_readPower 47 = .ok (.iconst 1, 1) := @dq_o4 cX11_readPower 47 (qX11_readPower_2 15 4 rfl)
theorem dX11_readPower_48 : decode cX11_readPower 48 = .ok (.goto 4, 3) := @dq_o167 cX11_readPower 48 0 4 (qX11_readPower_3 0 167 rfl) (qX11_readPower_3 1 0 rfl) (qX11_readPower_3 2 4 rfl)
theorem dX11_readPower_51 : decode cX11_readPower 51 = .ok (.iconst 0, 1) := @dq_o3 cX11_readPower 51 (qX11_readPower_3 3 3 rfl)
theorem dX11_readPower_52 : decode cX11_readPower 52 = .ok (.istore_n 3, 1) := @dq_o62 cX11_readPower 52 (qX11_readPower_3 4 62 rfl)
theorem dX11_readPower_53 : decode cX11_readPower 53 = .ok (.iload_n 3, 1) := @dq_o29 cX11_readPower 53 (qX11_readPower_3 5 29 rfl)
theorem dX11_readPower_54 : decode cX11_readPower 54 = .ok (.ifCond .eq 18, 3) := @dq_o153 cX11_readPower 54 0 18 (qX11_readPower_3 6 153 rfl) (qX11_readPower_3 7 0 rfl) (qX11_readPower_3 8 18 rfl)
theorem dX11_readPower_57 : decode cX11_readPower 57 = .ok (.aload_n 0, 1) := @dq_o42 cX11_readPower 57 (qX11_readPower_3 9 42 rfl)
theorem dX11_readPower_58 : decode cX11_readPower 58 = .ok (.aload_n 0, 1) := @dq_o42 cX11_readPower 58 (qX11_readPower_3 10 42 rfl)
theorem dX11_readPower_59 : decode cX11_readPower 59 = .ok (.getfield 278, 3) := @dq_o180 cX11_readPower 59 1 22 (qX11_readPower_3 11 180 rfl) (qX11_readPower_3 12 1 rfl) (qX11_readPower_3 13 22 rfl)
theorem dX11_readPower_62 : decode cX11_readPower 62 = .ok (.iconst 1, 1) := @dq_o4 cX11_readPower 62 (qX11_readPower_3 14 4 rfl)
theorem dX11_readPower_63 : decode cX11_readPower 63 = .ok (.iadd, 1) := @dq_o96 cX11_readPower 63 (qX11_readPower_3 15 96 rfl)
theorem dX11_readPower_64 : decode cX11_readPower 64 = .ok (.putfield 278, 3) := @dq_o181 cX11_readPower 64 1 22 (qX11_readPower_4 0 181 rfl) (qX11_readPower_4 1 1 rfl) (qX11_readPower_4 2 22 rfl)
theorem dX11_readPower_67 : decode cX11_readPower 67 = .ok (.aload_n 0, 1) := @dq_o42 cX11_readPower 67 (qX11_readPower_4 3 42 rfl)
theorem dX11_readPower_68 : decode cX11_readPower 68 = .ok (.invokevirtual 305, 3) := @dq_o182 cX11_readPower 68 1 49 (qX11_readPower_4 4 182 rfl) (qX11_readPower_4 5 1 rfl) (qX11_readPower_4 6 49 rfl)
theorem dX11_readPower_71 : decode cX11_readPower 71 = .ok (.pop, 1) := @dq_o87 cX11_readPower 71 (qX11_readPower_4 7 87 rfl)
theorem dX11_readPower_72 : decode cX11_readPower 72 = .ok (.aload_n 0, 1) := @dq_o42 cX11_readPower 72 (qX11_readPower_4 8 42 rfl)
theorem dX11_readPower_73 : decode cX11_readPower 73 = .ok (.getfield 278, 3) := @dq_o180 cX11_readPower 73 1 22 (qX11_readPower_4 9 180 rfl) (qX11_readPower_4 10 1 rfl) (qX11_readPower_4 11 22 rfl)
theorem dX11_readPower_76 : decode cX11_readPower 76 = .ok (.istore 4, 2) := @dq_o54 cX11_readPower 76 4 (qX11_readPower_4 12 54 rfl) (qX11_readPower_4 13 4 rfl)
theorem dX11_readPower_78 : decode cX11_readPower 78 = .ok (.aload_n 0, 1) := @dq_o42 cX11_readPower 78 (qX11_readPower_4 14 42 rfl)
theorem dX11_readPower_79 : decode cX11_readPower 79 = .ok (.aload_n 0, 1) := @dq_o42 cX11_readPower 79 (qX11_readPower_4 15 42 rfl)
theorem dX11_readPower_80 : decode cX11_readPower 80 = .ok (.invokevirtual 284, 3) := @dq_o182 cX11_readPower 80 1 28 (qX11_readPower_5 0 182 rfl) (qX11_readPower_5 1 1 rfl) (qX11_readPower_5 2 28 rfl)
theorem dX11_readPower_83 : decode cX11_readPower 83 = .ok (.invokevirtual 299, 3) := @dq_o182 cX11_readPower 83 1 43 (qX11_readPower_5 3 182 rfl) (qX11_readPower_5 4 1 rfl) (qX11_readPower_5 5 43 rfl)
theorem dX11_readPower_86 : decode cX11_readPower 86 = .ok (.ifCond .ne 13, 3) := @dq_o154 cX11_readPower 86 0 13 (qX11_readPower_5 6 154 rfl) (qX11_readPower_5 7 0 rfl) (qX11_readPower_5 8 13 rfl)
theorem dX11_readPower_89 : decode cX11_readPower 89 = .ok (.aload_n 0, 1) := @dq_o42 cX11_readPower 89 (qX11_readPower_5 9 42 rfl)
theorem dX11_readPower_90 : decode cX11_readPower 90 = .ok (.iconst 1, 1) := @dq_o4 cX11_readPower 90 (qX11_readPower_5 10 4 rfl)
theorem dX11_readPower_91 : decode cX11_readPower 91 = .ok (.aload_n 0, 1) := @dq_o42 cX11_readPower 91 (qX11_readPower_5 11 42 rfl)
theorem dX11_readPower_92 : decode cX11_readPower 92 = .ok (.getfield 278, 3) := @dq_o180 cX11_readPower 92 1 22 (qX11_readPower_5 12 180 rfl) (qX11_readPower_5 13 1 rfl) (qX11_readPower_5 14 22 rfl)
theorem dX11_readPower_95 : decode cX11_readPower 95 = .ok (.invokevirtual 296, 3) := @dq_o182 cX11_readPower 95 1 40 (qX11_readPower_5 15 182 rfl) (qX11_readPower_6 0 1 rfl) (qX11_readPower_6 1 40 rfl)
theorem dX11_readPower_98 : decode cX11_readPower 98 = .ok (.return_, 1) := @dq_o177 cX11_readPower 98 (qX11_readPower_6 2 177 rfl)
theorem dX11_readPower_99 : decode cX11_readPower 99 = .ok (.iconst 0, 1) := @dq_o3 cX11_readPower 99 (qX11_readPower_6 3 3 rfl)
theorem dX11_readPower_100 : decode cX11_readPower 100 = .ok (.istore 5, 2) := @dq_o54 cX11_readPower 100 5 (qX11_readPower_6 4 54 rfl) (qX11_readPower_6 5 5 rfl)
theorem dX11_readPower_102 : decode cX11_readPower 102 = .ok (.aload_n 0, 1) := @dq_o42 cX11_readPower 102 (qX11_readPower_6 6 42 rfl)
theorem dX11_readPower_103 : decode cX11_readPower 103 = .ok (.aload_n 0, 1) := @dq_o42 cX11_readPower 103 (qX11_readPower_6 7 42 rfl)
theorem dX11_readPower_104 : decode cX11_readPower 104 = .ok (.invokevirtual 284, 3) := @dq_o182 cX11_readPower 104 1 28 (qX11_readPower_6 8 182 rfl) (qX11_readPower_6 9 1 rfl) (qX11_readPower_6 10 28 rfl)
theorem dX11_readPower_107 : decode cX11_readPower 107 = .ok (.invokevirtual 299, 3) := @dq_o182 cX11_readPower 107 1 43 (qX11_readPower_6 11 182 rfl) (qX11_readPower_6 12 1 rfl) (qX11_readPower_6 13 43 rfl)
theorem dX11_readPower_110 : decode cX11_readPower 110 = .ok (.ifCond .eq 43, 3) := @dq_o153 cX11_readPower 110 0 43 (qX11_readPower_6 14 153 rfl) (qX11_readPower_6 15 0 rfl) (qX11_readPower_7 0 43 rfl)
theorem dX11_readPower_113 : decode cX11_readPower 113 = .ok (.iload 5, 2) := @dq_o21 cX11_readPower 113 5 (qX11_readPower_7 1 21 rfl) (qX11_readPower_7 2 5 rfl)
theorem dX11_readPower_115 : decode cX11_readPower 115 = .ok (.bipush 99, 2) := @dq_o16 cX11_readPower 115 99 (qX11_readPower_7 3 16 rfl) (qX11_readPower_7 4 99 rfl)
theorem dX11_readPower_117 : decode cX11_readPower 117 = .ok (.if_icmp .le 8, 3) := @dq_o164 cX11_readPower 117 0 8 (qX11_readPower_7 5 164 rfl) (qX11_readPower_7 6 0 rfl) (qX11_readPower_7 7 8 rfl)
theorem dX11_readPower_120 : decode cX11_readPower 120 = .ok (.iload 5, 2) := @dq_o21 cX11_readPower 120 5 (qX11_readPower_7 8 21 rfl) (qX11_readPower_7 9 5 rfl)
theorem dX11_readPower_122 : decode cX11_readPower 122 = .ok (.goto 16, 3) := @dq_o167 cX11_readPower 122 0 16 (qX11_readPower_7 10 167 rfl) (qX11_readPower_7 11 0 rfl) (qX11_readPower_7 12 16 rfl)
theorem dX11_readPower_125 : decode cX11_readPower 125 = .ok (.bipush 10, 2) := @dq_o16 cX11_readPower 125 10 (qX11_readPower_7 13 16 rfl) (qX11_readPower_7 14 10 rfl)
theorem dX11_readPower_127 : decode cX11_readPower 127 = .ok (.iload 5, 2) := @dq_o21 cX11_readPower 127 5 (qX11_readPower_7 15 21 rfl) (qX11_readPower_8 0 5 rfl)
theorem dX11_readPower_129 : decode cX11_readPower 129 = .ok (.imul, 1) := @dq_o104 cX11_readPower 129 (qX11_readPower_8 1 104 rfl)
theorem dX11_readPower_130 : decode cX11_readPower 130 = .ok (.aload_n 0, 1) := @dq_o42 cX11_readPower 130 (qX11_readPower_8 2 42 rfl)
theorem dX11_readPower_131 : decode cX11_readPower 131 = .ok (.invokevirtual 284, 3) := @dq_o182 cX11_readPower 131 1 28 (qX11_readPower_8 3 182 rfl) (qX11_readPower_8 4 1 rfl) (qX11_readPower_8 5 28 rfl)
theorem dX11_readPower_134 : decode cX11_readPower 134 = .ok (.iadd, 1) := @dq_o96 cX11_readPower 134 (qX11_readPower_8 6 96 rfl)
theorem dX11_readPower_135 : decode cX11_readPower 135 = .ok (.bipush 48, 2) := @dq_o16 cX11_readPower 135 48 (qX11_readPower_8 7 16 rfl) (qX11_readPower_8 8 48 rfl)
theorem dX11_readPower_137 : decode cX11_readPower 137 = .ok (.isub, 1) := @dq_o100 cX11_readPower 137 (qX11_readPower_8 9 100 rfl)
theorem dX11_readPower_138 : decode cX11_readPower 138 = .ok (.istore 5, 2) := @dq_o54 cX11_readPower 138 5 (qX11_readPower_8 10 54 rfl) (qX11_readPower_8 11 5 rfl)
theorem dX11_readPower_140 : decode cX11_readPower 140 = .ok (.aload_n 0, 1) := @dq_o42 cX11_readPower 140 (qX11_readPower_8 12 42 rfl)
theorem dX11_readPower_141 : decode cX11_readPower 141 = .ok (.aload_n 0, 1) := @dq_o42 cX11_readPower 141 (qX11_readPower_8 13 42 rfl)
theorem dX11_readPower_142 : decode cX11_readPower 142 = .ok (.getfield 278, 3) := @dq_o180 cX11_readPower 142 1 22 (qX11_readPower_8 14 180 rfl) (qX11_readPower_8 15 1 rfl) (qX11_readPower_9 0 22 rfl)
theorem dX11_readPower_145 : decode cX11_readPower 145 = .ok (.iconst 1, 1) := @dq_o4 cX11_readPower 145 (qX11_readPower_9 1 4 rfl)
theorem dX11_readPower_146 : decode cX11_readPower 146 = .ok (.iadd, 1) := @dq_o96 cX11_readPower 146 (qX11_readPower_9 2 96 rfl)
theorem dX11_readPower_147 : decode cX11_readPower 147 = .ok (.putfield 278, 3) := @dq_o181 cX11_readPower 147 1 22 (qX11_readPower_9 3 181 rfl) (qX11_readPower_9 4 1 rfl) (qX11_readPower_9 5 22 rfl)
theorem dX11_readPower_150 : decode cX11_readPower 150 = .ok (.goto (-48), 3) := @dq_o167 cX11_readPower 150 255 208 (qX11_readPower_9 6 167 rfl) (qX11_readPower_9 7 255 rfl) (qX11_readPower_9 8 208 rfl)
theorem dX11_readPower_153 : decode cX11_readPower 153 = .ok (.iload 5, 2) := @dq_o21 cX11_readPower 153 5 (qX11_readPower_9 9 21 rfl) (qX11_readPower_9 10 5 rfl)
theorem dX11_readPower_155 : decode cX11_readPower 155 = .ok (.bipush 99, 2) := @dq_o16 cX11_readPower 155 99 (qX11_readPower_9 11 16 rfl) (qX11_readPower_9 12 99 rfl)
theorem dX11_readPower_157 : decode cX11_readPower 157 = .ok (.if_icmp .le 11, 3) := @dq_o164 cX11_readPower 157 0 11 (qX11_readPower_9 13 164 rfl) (qX11_readPower_9 14 0 rfl) (qX11_readPower_9 15 11 rfl)
theorem dX11_readPower_160 : decode cX11_readPower 160 = .ok (.aload_n 0, 1) := @dq_o42 cX11_readPower 160 (qX11_readPower_10 0 42 rfl)
theorem dX11_readPower_161 : decode cX11_readPower 161 = .ok (.iconst 2, 1) := @dq_o5 cX11_readPower 161 (qX11_readPower_10 1 5 rfl)
theorem dX11_readPower_162 : decode cX11_readPower 162 = .ok (.iload 4, 2) := @dq_o21 cX11_readPower 162 4 (qX11_readPower_10 2 21 rfl) (qX11_readPower_10 3 4 rfl)
theorem dX11_readPower_164 : decode cX11_readPower 164 = .ok (.invokevirtual 296, 3) := @dq_o182 cX11_readPower 164 1 40 (qX11_readPower_10 4 182 rfl) (qX11_readPower_10 5 1 rfl) (qX11_readPower_10 6 40 rfl)
theorem dX11_readPower_167 : decode cX11_readPower 167 = .ok (.return_, 1) := @dq_o177 cX11_readPower 167 (qX11_readPower_10 7 177 rfl)
theorem dX11_readPower_168 : decode cX11_readPower 168 = .ok (.aload_n 0, 1) := @dq_o42 cX11_readPower 168 (qX11_readPower_10 8 42 rfl)
theorem dX11_readPower_169 : decode cX11_readPower 169 = .ok (.aload_n 0, 1) := @dq_o42 cX11_readPower 169 (qX11_readPower_10 9 42 rfl)
theorem dX11_readPower_170 : decode cX11_readPower 170 = .ok (.getfield 278, 3) := @dq_o180 cX11_readPower 170 1 22 (qX11_readPower_10 10 180 rfl) (qX11_readPower_10 11 1 rfl) (qX11_readPower_10 12 22 rfl)
theorem dX11_readPower_173 : decode cX11_readPower 173 = .ok (.putfield 293, 3) := @dq_o181 cX11_readPower 173 1 37 (qX11_readPower_10 13 181 rfl) (qX11_readPower_10 14 1 rfl) (qX11_readPower_10 15 37 rfl)
theorem dX11_readPower_176 : decode cX11_readPower 176 = .ok (.aload_n 0, 1) := @dq_o42 cX11_readPower 176 (qX11_readPower_11 0 42 rfl)
theorem dX11_readPower_177 : decode cX11_readPower 177 = .ok (.iload_n 1, 1) := @dq_o27 cX11_readPower 177 (qX11_readPower_11 1 27 rfl)
theorem dX11_readPower_178 : decode cX11_readPower 178 = .ok (.iload_n 1, 1) := @dq_o27 cX11_readPower 178 (qX11_readPower_11 2 27 rfl)
theorem dX11_readPower_179 : decode cX11_readPower 179 = .ok (.iconst 1, 1) := @dq_o4 cX11_readPower 179 (qX11_readPower_11 3 4 rfl)
theorem dX11_readPower_180 : decode cX11_readPower 180 = .ok (.iadd, 1) := @dq_o96 cX11_readPower 180 (qX11_readPower_11 4 96 rfl)
theorem dX11_readPower_181 : decode cX11_readPower 181 = .ok (.iload_n 3, 1) := @dq_o29 cX11_readPower 181 (qX11_readPower_11 5 29 rfl)
theorem dX11_readPower_182 : decode cX11_readPower 182 = .ok (.ifCond .eq 9, 3) := @dq_o153 cX11_readPower 182 0 9 (qX11_readPower_11 6 153 rfl) (qX11_readPower_11 7 0 rfl) (qX11_readPower_11 8 9 rfl)
theorem dX11_readPower_185 : decode cX11_readPower 185 = .ok (.iload 5, 2) := @dq_o21 cX11_readPower 185 5 (qX11_readPower_11 9 21 rfl) (qX11_readPower_11 10 5 rfl)
theorem dX11_readPower_187 : decode cX11_readPower 187 = .ok (.ineg, 1) := @dq_o116 cX11_readPower 187 (qX11_readPower_11 11 116 rfl)
theorem dX11_readPower_188 : decode cX11_readPower 188 = .ok (.goto 5, 3) := @dq_o167 cX11_readPower 188 0 5 (qX11_readPower_11 12 167 rfl) (qX11_readPower_11 13 0 rfl) (qX11_readPower_11 14 5 rfl)
theorem dX11_readPower_191 : decode cX11_readPower 191 = .ok (.iload 5, 2) := @dq_o21 cX11_readPower 191 5 (qX11_readPower_11 15 21 rfl) (qX11_readPower_12 0 5 rfl)
theorem dX11_readPower_193 : decode cX11_readPower 193 = .ok (.invokevirtual 251, 3) := @dq_o182 cX11_readPower 193 0 251 (qX11_readPower_12 1 182 rfl) (qX11_readPower_12 2 0 rfl) (qX11_readPower_12 3 251 rfl)
theorem dX11_readPower_196 : decode cX11_readPower 196 = .ok (.aload_n 0, 1) := @dq_o42 cX11_readPower 196 (qX11_readPower_12 4 42 rfl)
theorem dX11_readPower_197 : decode cX11_readPower 197 = .ok (.iload_n 1, 1) := @dq_o27 cX11_readPower 197 (qX11_readPower_12 5 27 rfl)
theorem dX11_readPower_198 : decode cX11_readPower 198 = .ok (.iconst 1, 1) := @dq_o4 cX11_readPower 198 (qX11_readPower_12 6 4 rfl)
theorem dX11_readPower_199 : decode cX11_readPower 199 = .ok (.iadd, 1) := @dq_o96 cX11_readPower 199 (qX11_readPower_12 7 96 rfl)
theorem dX11_readPower_200 : decode cX11_readPower 200 = .ok (.iload_n 1, 1) := @dq_o27 cX11_readPower 200 (qX11_readPower_12 8 27 rfl)
theorem dX11_readPower_201 : decode cX11_readPower 201 = .ok (.invokevirtual 193, 3) := @dq_o182 cX11_readPower 201 0 193 (qX11_readPower_12 9 182 rfl) (qX11_readPower_12 10 0 rfl) (qX11_readPower_12 11 193 rfl)
theorem dX11_readPower_204 : decode cX11_readPower 204 = .ok (.aload_n 0, 1) := @dq_o42 cX11_readPower 204 (qX11_readPower_12 12 42 rfl)
theorem dX11_readPower_205 : decode cX11_readPower 205 = .ok (.iload_n 1, 1) := @dq_o27 cX11_readPower 205 (qX11_readPower_12 13 27 rfl)
theorem dX11_readPower_206 : decode cX11_readPower 206 = .ok (.invokevirtual 320, 3) := @dq_o182 cX11_readPower 206 1 64 (qX11_readPower_12 14 182 rfl) (qX11_readPower_12 15 1 rfl) (qX11_readPower_13 0 64 rfl)
theorem dX11_readPower_209 : decode cX11_readPower 209 = .ok (.return_, 1) := @dq_o177 cX11_readPower 209 (qX11_readPower_13 1 177 rfl)
abbrev qaX11_readWord_0 : List Nat := [42, 27, 182, 0, 190, 42, 182, 1, 31, 154, 0, 52, 42, 42, 182, 1]
abbrev qaX11_readWord_1 : List Nat := [49, 182, 1, 67, 153, 0, 41, 42, 27, 4, 96, 182, 1, 70, 42, 27]
abbrev qaX11_readWord_2 : List Nat := [4, 96, 182, 1, 73, 42, 182, 1, 31, 153, 0, 4, 177, 42, 27, 27]
abbrev qaX11_readWord_3 : List Nat := [4, 96, 182, 0, 197, 42, 27, 182, 1, 64, 167, 255, 203, 177]
def qtX11_readWord_4 : List Nat := []
def qtX11_readWord_3 : List Nat := qaX11_readWord_3 ++ qtX11_readWord_4
def qtX11_readWord_2 : List Nat := qaX11_readWord_2 ++ qtX11_readWord_3
def qtX11_readWord_1 : List Nat := qaX11_readWord_1 ++ qtX11_readWord_2
def qtX11_readWord_0 : List Nat := qaX11_readWord_0 ++ qtX11_readWord_1
theorem qeX11_readWord : cX11_readWord.data.toList.map UInt8.toNat = qtX11_readWord_0 := by decide +kernel
theorem qsX11_readWord_0 : ∀ i, dqNth qtX11_readWord_0 (0 + i) = dqNth qtX11_readWord_0 i := fun i => by rw [Nat.zero_add]
theorem qsX11_readWord_1 : ∀ i, dqNth qtX11_readWord_0 (16 + i) = dqNth qtX11_readWord_1 i := dq_step qsX11_readWord_0 rfl rfl
theorem qsX11_readWord_2 : ∀ i, dqNth qtX11_readWord_0 (32 + i) = dqNth qtX11_readWord_2 i := dq_step qsX11_readWord_1 rfl rfl
theorem qsX11_readWord_3 : ∀ i, dqNth qtX11_readWord_0 (48 + i) = dqNth qtX11_readWord_3 i := dq_step qsX11_readWord_2 rfl rfl
theorem qX11_readWord_0 (i b : Nat) (h : dqNth qaX11_readWord_0 i = some b) : DqBy cX11_readWord (0 + i) b := dqBy_of qeX11_readWord ((qsX11_readWord_0 i).trans (dq_in h))
theorem qX11_readWord_1 (i b : Nat) (h : dqNth qaX11_readWord_1 i = some b) : DqBy cX11_readWord (16 + i) b := dqBy_of qeX11_readWord ((qsX11_readWord_1 i).trans (dq_in h))
theorem qX11_readWord_2 (i b : Nat) (h : dqNth qaX11_readWord_2 i = some b) : DqBy cX11_readWord (32 + i) b := dqBy_of qeX11_readWord ((qsX11_readWord_2 i).trans (dq_in h))
theorem qX11_readWord_3 (i b : Nat) (h : dqNth qaX11_readWord_3 i = some b) : DqBy cX11_readWord (48 + i) b := dqBy_of qeX11_readWord ((qsX11_readWord_3 i).trans (dq_in h))
theorem dX11_readWord_0 : decode cX11_readWord 0 = .ok (.aload_n 0, 1) := @dq_o42 cX11_readWord 0 (qX11_readWord_0 0 42 rfl)
theorem dX11_readWord_1 : decode cX11_readWord 1 = .ok (.iload_n 1, 1) := @dq_o27 cX11_readWord 1 (qX11_readWord_0 1 27 rfl)
theorem dX11_readWord_2 : decode cX11_readWord 2 = .ok (.invokevirtual 190, 3) := @dq_o182 cX11_readWord 2 0 190 (qX11_readWord_0 2 182 rfl) (qX11_readWord_0 3 0 rfl) (qX11_readWord_0 4 190 rfl)
theorem dX11_readWord_5 : decode cX11_readWord 5 = .ok (.aload_n 0, 1) := @dq_o42 cX11_readWord 5 (qX11_readWord_0 5 42 rfl)
theorem dX11_readWord_6 : decode cX11_readWord 6 = .ok (.invokevirtual 287, 3) := @dq_o182 cX11_readWord 6 1 31 (qX11_readWord_0 6 182 rfl) (qX11_readWord_0 7 1 rfl) (qX11_readWord_0 8 31 rfl)
theorem dX11_readWord_9 : decode cX11_readWord 9 = .ok (.ifCond .ne 52, 3) := @dq_o154 cX11_readWord 9 0 52 (qX11_readWord_0 9 154 rfl) (qX11_readWord_0 10 0 rfl) (qX11_readWord_0 11 52 rfl)
theorem dX11_readWord_12 : decode cX11_readWord 12 = .ok (.aload_n 0, 1) := @dq_o42 cX11_readWord 12 (qX11_readWord_0 12 42 rfl)
theorem dX11_readWord_13 : decode cX11_readWord 13 = .ok (.aload_n 0, 1) := @dq_o42 cX11_readWord 13 (qX11_readWord_0 13 42 rfl)
theorem dX11_readWord_14 : decode cX11_readWord 14 = .ok (.invokevirtual 305, 3) := @dq_o182 cX11_readWord 14 1 49 (qX11_readWord_0 14 182 rfl) (qX11_readWord_0 15 1 rfl) (qX11_readWord_1 0 49 rfl)
theorem dX11_readWord_17 : decode cX11_readWord 17 = .ok (.invokevirtual 323, 3) := @dq_o182 cX11_readWord 17 1 67 (qX11_readWord_1 1 182 rfl) (qX11_readWord_1 2 1 rfl) (qX11_readWord_1 3 67 rfl)
theorem dX11_readWord_20 : decode cX11_readWord 20 = .ok (.ifCond .eq 41, 3) := @dq_o153 cX11_readWord 20 0 41 (qX11_readWord_1 4 153 rfl) (qX11_readWord_1 5 0 rfl) (qX11_readWord_1 6 41 rfl)
theorem dX11_readWord_23 : decode cX11_readWord 23 = .ok (.aload_n 0, 1) := @dq_o42 cX11_readWord 23 (qX11_readWord_1 7 42 rfl)
theorem dX11_readWord_24 : decode cX11_readWord 24 = .ok (.iload_n 1, 1) := @dq_o27 cX11_readWord 24 (qX11_readWord_1 8 27 rfl)
theorem dX11_readWord_25 : decode cX11_readWord 25 = .ok (.iconst 1, 1) := @dq_o4 cX11_readWord 25 (qX11_readWord_1 9 4 rfl)
theorem dX11_readWord_26 : decode cX11_readWord 26 = .ok (.iadd, 1) := @dq_o96 cX11_readWord 26 (qX11_readWord_1 10 96 rfl)
theorem dX11_readWord_27 : decode cX11_readWord 27 = .ok (.invokevirtual 326, 3) := @dq_o182 cX11_readWord 27 1 70 (qX11_readWord_1 11 182 rfl) (qX11_readWord_1 12 1 rfl) (qX11_readWord_1 13 70 rfl)
theorem dX11_readWord_30 : decode cX11_readWord 30 = .ok (.aload_n 0, 1) := @dq_o42 cX11_readWord 30 (qX11_readWord_1 14 42 rfl)
theorem dX11_readWord_31 : decode cX11_readWord 31 = .ok (.iload_n 1, 1) := @dq_o27 cX11_readWord 31 (qX11_readWord_1 15 27 rfl)
theorem dX11_readWord_32 : decode cX11_readWord 32 = .ok (.iconst 1, 1) := @dq_o4 cX11_readWord 32 (qX11_readWord_2 0 4 rfl)
theorem dX11_readWord_33 : decode cX11_readWord 33 = .ok (.iadd, 1) := @dq_o96 cX11_readWord 33 (qX11_readWord_2 1 96 rfl)
theorem dX11_readWord_34 : decode cX11_readWord 34 = .ok (.invokevirtual 329, 3) := @dq_o182 cX11_readWord 34 1 73 (qX11_readWord_2 2 182 rfl) (qX11_readWord_2 3 1 rfl) (qX11_readWord_2 4 73 rfl)
theorem dX11_readWord_37 : decode cX11_readWord 37 = .ok (.aload_n 0, 1) := @dq_o42 cX11_readWord 37 (qX11_readWord_2 5 42 rfl)
theorem dX11_readWord_38 : decode cX11_readWord 38 = .ok (.invokevirtual 287, 3) := @dq_o182 cX11_readWord 38 1 31 (qX11_readWord_2 6 182 rfl) (qX11_readWord_2 7 1 rfl) (qX11_readWord_2 8 31 rfl)
theorem dX11_readWord_41 : decode cX11_readWord 41 = .ok (.ifCond .eq 4, 3) := @dq_o153 cX11_readWord 41 0 4 (qX11_readWord_2 9 153 rfl) (qX11_readWord_2 10 0 rfl) (qX11_readWord_2 11 4 rfl)
theorem dX11_readWord_44 : decode cX11_readWord 44 = .ok (.return_, 1) := @dq_o177 cX11_readWord 44 (qX11_readWord_2 12 177 rfl)
theorem dX11_readWord_45 : decode cX11_readWord 45 = .ok (.aload_n 0, 1) := @dq_o42 cX11_readWord 45 (qX11_readWord_2 13 42 rfl)
theorem dX11_readWord_46 : decode cX11_readWord 46 = .ok (.iload_n 1, 1) := @dq_o27 cX11_readWord 46 (qX11_readWord_2 14 27 rfl)
theorem dX11_readWord_47 : decode cX11_readWord 47 = .ok (.iload_n 1, 1) := @dq_o27 cX11_readWord 47 (qX11_readWord_2 15 27 rfl)
theorem dX11_readWord_48 : decode cX11_readWord 48 = .ok (.iconst 1, 1) := @dq_o4 cX11_readWord 48 (qX11_readWord_3 0 4 rfl)
theorem dX11_readWord_49 : decode cX11_readWord 49 = .ok (.iadd, 1) := @dq_o96 cX11_readWord 49 (qX11_readWord_3 1 96 rfl)
theorem dX11_readWord_50 : decode cX11_readWord 50 = .ok (.invokevirtual 197, 3) := @dq_o182 cX11_readWord 50 0 197 (qX11_readWord_3 2 182 rfl) (qX11_readWord_3 3 0 rfl) (qX11_readWord_3 4 197 rfl)
theorem dX11_readWord_53 : decode cX11_readWord 53 = .ok (.aload_n 0, 1) := @dq_o42 cX11_readWord 53 (qX11_readWord_3 5 42 rfl)
theorem dX11_readWord_54 : decode cX11_readWord 54 = .ok (.iload_n 1, 1) := @dq_o27 cX11_readWord 54 (qX11_readWord_3 6 27 rfl)
theorem dX11_readWord_55 : decode cX11_readWord 55 = .ok (.invokevirtual 320, 3) := @dq_o182 cX11_readWord 55 1 64 (qX11_readWord_3 7 182 rfl) (qX11_readWord_3 8 1 rfl) (qX11_readWord_3 9 64 rfl)
theorem dX11_readWord_58 : decode cX11_readWord 58 = .ok (.goto (-53), 3) := @dq_o167 cX11_readWord 58 255 203 (qX11_readWord_3 10 167 rfl) (qX11_readWord_3 11 255 rfl) (qX11_readWord_3 12 203 rfl)
theorem dX11_readWord_61 : decode cX11_readWord 61 = .ok (.return_, 1) := @dq_o177 cX11_readWord 61 (qX11_readWord_3 13 177 rfl)
abbrev qaX11_text_0 : List Nat := [42, 3, 181, 0, 1, 42, 3, 181, 1, 22, 42, 42, 180, 1, 16, 181]
abbrev qaX11_text_1 : List Nat := [1, 25, 42, 3, 181, 1, 16, 42, 3, 181, 1, 34, 42, 2, 181, 0]
abbrev qaX11_text_2 : List Nat := [49, 42, 2, 181, 0, 52, 42, 3, 181, 1, 52, 42, 3, 181, 1, 37]
abbrev qaX11_text_3 : List Nat := [42, 27, 182, 0, 232, 153, 0, 10, 42, 182, 0, 235, 154, 0, 5, 3]
abbrev qaX11_text_4 : List Nat := [172, 42, 16, 10, 182, 1, 55, 42, 182, 1, 31, 154, 0, 20, 42, 182]
abbrev qaX11_text_5 : List Nat := [1, 49, 2, 159, 0, 12, 42, 4, 42, 180, 1, 22, 182, 1, 40, 42]
abbrev qaX11_text_6 : List Nat := [180, 0, 52, 2, 159, 0, 44, 42, 182, 1, 31, 153, 0, 14, 42, 180]
abbrev qaX11_text_7 : List Nat := [0, 49, 42, 180, 0, 52, 161, 0, 26, 42, 8, 181, 1, 34, 42, 42]
abbrev qaX11_text_8 : List Nat := [180, 0, 52, 181, 0, 49, 42, 42, 180, 0, 229, 4, 96, 181, 0, 229]
abbrev qaX11_text_9 : List Nat := [42, 182, 1, 31, 154, 0, 17, 42, 27, 16, 10, 182, 0, 244, 153, 0]
abbrev qaX11_text_10 : List Nat := [7, 4, 167, 0, 4, 3, 172]
def qtX11_text_11 : List Nat := []
def qtX11_text_10 : List Nat := qaX11_text_10 ++ qtX11_text_11
def qtX11_text_9 : List Nat := qaX11_text_9 ++ qtX11_text_10
def qtX11_text_8 : List Nat := qaX11_text_8 ++ qtX11_text_9
def qtX11_text_7 : List Nat := qaX11_text_7 ++ qtX11_text_8
def qtX11_text_6 : List Nat := qaX11_text_6 ++ qtX11_text_7
def qtX11_text_5 : List Nat := qaX11_text_5 ++ qtX11_text_6
def qtX11_text_4 : List Nat := qaX11_text_4 ++ qtX11_text_5
def qtX11_text_3 : List Nat := qaX11_text_3 ++ qtX11_text_4
def qtX11_text_2 : List Nat := qaX11_text_2 ++ qtX11_text_3
def qtX11_text_1 : List Nat := qaX11_text_1 ++ qtX11_text_2
def qtX11_text_0 : List Nat := qaX11_text_0 ++ qtX11_text_1
theorem qeX11_text : cX11_text.data.toList.map UInt8.toNat = qtX11_text_0 := by decide +kernel
theorem qsX11_text_0 : ∀ i, dqNth qtX11_text_0 (0 + i) = dqNth qtX11_text_0 i := fun i => by rw [Nat.zero_add]
theorem qsX11_text_1 : ∀ i, dqNth qtX11_text_0 (16 + i) = dqNth qtX11_text_1 i := dq_step qsX11_text_0 rfl rfl
theorem qsX11_text_2 : ∀ i, dqNth qtX11_text_0 (32 + i) = dqNth qtX11_text_2 i := dq_step qsX11_text_1 rfl rfl
theorem qsX11_text_3 : ∀ i, dqNth qtX11_text_0 (48 + i) = dqNth qtX11_text_3 i := dq_step qsX11_text_2 rfl rfl
theorem qsX11_text_4 : ∀ i, dqNth qtX11_text_0 (64 + i) = dqNth qtX11_text_4 i := dq_step qsX11_text_3 rfl rfl
theorem qsX11_text_5 : ∀ i, dqNth qtX11_text_0 (80 + i) = dqNth qtX11_text_5 i := dq_step qsX11_text_4 rfl rfl
theorem qsX11_text_6 : ∀ i, dqNth qtX11_text_0 (96 + i) = dqNth qtX11_text_6 i := dq_step qsX11_text_5 rfl rfl
theorem qsX11_text_7 : ∀ i, dqNth qtX11_text_0 (112 + i) = dqNth qtX11_text_7 i := dq_step qsX11_text_6 rfl rfl
theorem qsX11_text_8 : ∀ i, dqNth qtX11_text_0 (128 + i) = dqNth qtX11_text_8 i := dq_step qsX11_text_7 rfl rfl
theorem qsX11_text_9 : ∀ i, dqNth qtX11_text_0 (144 + i) = dqNth qtX11_text_9 i := dq_step qsX11_text_8 rfl rfl
theorem qsX11_text_10 : ∀ i, dqNth qtX11_text_0 (160 + i) = dqNth qtX11_text_10 i := dq_step qsX11_text_9 rfl rfl
theorem qX11_text_0 (i b : Nat) (h : dqNth qaX11_text_0 i = some b) : DqBy cX11_text (0 + i) b := dqBy_of qeX11_text ((qsX11_text_0 i).trans (dq_in h))
theorem qX11_text_1 (i b : Nat) (h : dqNth qaX11_text_1 i = some b) : DqBy cX11_text (16 + i) b := dqBy_of qeX11_text ((qsX11_text_1 i).trans (dq_in h))
theorem qX11_text_2 (i b : Nat) (h : dqNth qaX11_text_2 i = some b) : DqBy cX11_text (32 + i) b := dqBy_of qeX11_text ((qsX11_text_2 i).trans (dq_in h))
theorem qX11_text_3 (i b : Nat) (h : dqNth qaX11_text_3 i = some b) : DqBy cX11_text (48 + i) b := dqBy_of qeX11_text ((qsX11_text_3 i).trans (dq_in h))
theorem qX11_text_4 (i b : Nat) (h : dqNth qaX11_text_4 i = some b) : DqBy cX11_text (64 + i) b := dqBy_of qeX11_text ((qsX11_text_4 i).trans (dq_in h))
theorem qX11_text_5 (i b : Nat) (h : dqNth qaX11_text_5 i = some b) : DqBy cX11_text (80 + i) b := dqBy_of qeX11_text ((qsX11_text_5 i).trans (dq_in h))
theorem qX11_text_6 (i b : Nat) (h : dqNth qaX11_text_6 i = some b) : DqBy cX11_text (96 + i) b := dqBy_of qeX11_text ((qsX11_text_6 i).trans (dq_in h))
theorem qX11_text_7 (i b : Nat) (h : dqNth qaX11_text_7 i = some b) : DqBy cX11_text (112 + i) b := dqBy_of qeX11_text ((qsX11_text_7 i).trans (dq_in h))
theorem qX11_text_8 (i b : Nat) (h : dqNth qaX11_text_8 i = some b) : DqBy cX11_text (128 + i) b := dqBy_of qeX11_text ((qsX11_text_8 i).trans (dq_in h))
theorem qX11_text_9 (i b : Nat) (h : dqNth qaX11_text_9 i = some b) : DqBy cX11_text (144 + i) b := dqBy_of qeX11_text ((qsX11_text_9 i).trans (dq_in h))
theorem qX11_text_10 (i b : Nat) (h : dqNth qaX11_text_10 i = some b) : DqBy cX11_text (160 + i) b := dqBy_of qeX11_text ((qsX11_text_10 i).trans (dq_in h))
theorem dX11_text_0 : decode cX11_text 0 = .ok (.aload_n 0, 1) := @dq_o42 cX11_text 0 (qX11_text_0 0 42 rfl)
theorem dX11_text_1 : decode cX11_text 1 = .ok (.iconst 0, 1) := @dq_o3 cX11_text 1 (qX11_text_0 1 3 rfl)
theorem dX11_text_2 : decode cX11_text 2 = .ok (.putfield 1, 3) := @dq_o181 cX11_text 2 0 1 (qX11_text_0 2 181 rfl) (qX11_text_0 3 0 rfl) (qX11_text_0 4 1 rfl)
theorem dX11_text_5 : decode cX11_text 5 = .ok (.aload_n 0, 1) := @dq_o42 cX11_text 5 (qX11_text_0 5 42 rfl)
theorem dX11_text_6 : decode cX11_text 6 = .ok (.iconst 0, 1) := @dq_o3 cX11_text 6 (qX11_text_0 6 3 rfl)
theorem dX11_text_7 : decode cX11_text 7 = .ok (.putfield 278, 3) := @dq_o181 cX11_text 7 1 22 (qX11_text_0 7 181 rfl) (qX11_text_0 8 1 rfl) (qX11_text_0 9 22 rfl)
theorem dX11_text_10 : decode cX11_text 10 = .ok (.aload_n 0, 1) := @dq_o42 cX11_text 10 (qX11_text_0 10 42 rfl)
theorem dX11_text_11 : decode cX11_text 11 = .ok (.aload_n 0, 1) := @dq_o42 cX11_text 11 (qX11_text_0 11 42 rfl)
theorem dX11_text_12 : decode cX11_text 12 = .ok (.getfield 272, 3) := @dq_o180 cX11_text 12 1 16 (qX11_text_0 12 180 rfl) (qX11_text_0 13 1 rfl) (qX11_text_0 14 16 rfl)
theorem dX11_text_15 : decode cX11_text 15 = .ok (.putfield 281, 3) := @dq_o181 cX11_text 15 1 25 (qX11_text_0 15 181 rfl) (qX11_text_1 0 1 rfl) (qX11_text_1 1 25 rfl)
theorem dX11_text_18 : decode cX11_text 18 = .ok (.aload_n 0, 1) := @dq_o42 cX11_text 18 (qX11_text_1 2 42 rfl)
theorem dX11_text_19 : decode cX11_text 19 = .ok (.iconst 0, 1) := @dq_o3 cX11_text 19 (qX11_text_1 3 3 rfl)
theorem dX11_text_20 : decode cX11_text 20 = .ok (.putfield 272, 3) := @dq_o181 cX11_text 20 1 16 (qX11_text_1 4 181 rfl) (qX11_text_1 5 1 rfl) (qX11_text_1 6 16 rfl)
theorem dX11_text_23 : decode cX11_text 23 = .ok (.aload_n 0, 1) := @dq_o42 cX11_text 23 (qX11_text_1 7 42 rfl)
theorem dX11_text_24 : decode cX11_text 24 = .ok (.iconst 0, 1) := @dq_o3 cX11_text 24 (qX11_text_1 8 3 rfl)
theorem dX11_text_25 : decode cX11_text 25 = .ok (.putfield 290, 3) := @dq_o181 cX11_text 25 1 34 (qX11_text_1 9 181 rfl) (qX11_text_1 10 1 rfl) (qX11_text_1 11 34 rfl)
theorem dX11_text_28 : decode cX11_text 28 = .ok (.aload_n 0, 1) := @dq_o42 cX11_text 28 (qX11_text_1 12 42 rfl)
theorem dX11_text_29 : decode cX11_text 29 = .ok (.iconst (-1), 1) := @dq_o2 cX11_text 29 (qX11_text_1 13 2 rfl)
theorem dX11_text_30 : decode cX11_text 30 = .ok (.putfield 49, 3) := @dq_o181 cX11_text 30 0 49 (qX11_text_1 14 181 rfl) (qX11_text_1 15 0 rfl) (qX11_text_2 0 49 rfl)
theorem dX11_text_33 : decode cX11_text 33 = .ok (.aload_n 0, 1) := @dq_o42 cX11_text 33 (qX11_text_2 1 42 rfl)
theorem dX11_text_34 : decode cX11_text 34 = .ok (.iconst (-1), 1) := @dq_o2 cX11_text 34 (qX11_text_2 2 2 rfl)
theorem dX11_text_35 : decode cX11_text 35 = .ok (.putfield 52, 3) := @dq_o181 cX11_text 35 0 52 (qX11_text_2 3 181 rfl) (qX11_text_2 4 0 rfl) (qX11_text_2 5 52 rfl)
theorem dX11_text_38 : decode cX11_text 38 = .ok (.aload_n 0, 1) := @dq_o42 cX11_text 38 (qX11_text_2 6 42 rfl)
theorem dX11_text_39 : decode cX11_text 39 = .ok (.iconst 0, 1) := @dq_o3 cX11_text 39 (qX11_text_2 7 3 rfl)
theorem dX11_text_40 : decode cX11_text 40 = .ok (.putfield 308, 3) := @dq_o181 cX11_text 40 1 52 (qX11_text_2 8 181 rfl) (qX11_text_2 9 1 rfl) (qX11_text_2 10 52 rfl)
theorem dX11_text_43 : decode cX11_text 43 = .ok (.aload_n 0, 1) := @dq_o42 cX11_text 43 (qX11_text_2 11 42 rfl)
theorem dX11_text_44 : decode cX11_text 44 = .ok (.iconst 0, 1) := @dq_o3 cX11_text 44 (qX11_text_2 12 3 rfl)
theorem dX11_text_45 : decode cX11_text 45 = .ok (.putfield 293, 3) := @dq_o181 cX11_text 45 1 37 (qX11_text_2 13 181 rfl) (qX11_text_2 14 1 rfl) (qX11_text_2 15 37 rfl)
theorem dX11_text_48 : decode cX11_text 48 = .ok (.aload_n 0, 1) := @dq_o42 cX11_text 48 (qX11_text_3 0 42 rfl)
theorem dX11_text_49 : decode cX11_text 49 = .ok (.iload_n 1, 1) := @dq_o27 cX11_text 49 (qX11_text_3 1 27 rfl)
theorem dX11_text_50 : decode cX11_text 50 = .ok (.invokevirtual 232, 3) := @dq_o182 cX11_text 50 0 232 (qX11_text_3 2 182 rfl) (qX11_text_3 3 0 rfl) (qX11_text_3 4 232 rfl)
theorem dX11_text_53 : decode cX11_text 53 = .ok (.ifCond .eq 10, 3) := @dq_o153 cX11_text 53 0 10 (qX11_text_3 5 153 rfl) (qX11_text_3 6 0 rfl) (qX11_text_3 7 10 rfl)
theorem dX11_text_56 : decode cX11_text 56 = .ok (.aload_n 0, 1) := @dq_o42 cX11_text 56 (qX11_text_3 8 42 rfl)
theorem dX11_text_57 : decode cX11_text 57 = .ok (.invokevirtual 235, 3) := @dq_o182 cX11_text 57 0 235 (qX11_text_3 9 182 rfl) (qX11_text_3 10 0 rfl) (qX11_text_3 11 235 rfl)
theorem dX11_text_60 : decode cX11_text 60 = .ok (.ifCond .ne 5, 3) := @dq_o154 cX11_text 60 0 5 (qX11_text_3 12 154 rfl) (qX11_text_3 13 0 rfl) (qX11_text_3 14 5 rfl)
theorem dX11_text_63 : decode cX11_text 63 = .ok (.iconst 0, 1) := @dq_o3 cX11_text 63 (qX11_text_3 15 3 rfl)
theorem dX11_text_64 : decode cX11_text 64 = .ok (.ireturn, 1) := @dq_o172 cX11_text 64 (qX11_text_4 0 172 rfl)
theorem dX11_text_65 : decode cX11_text 65 = .ok (.aload_n 0, 1) := @dq_o42 cX11_text 65 (qX11_text_4 1 42 rfl)
theorem dX11_text_66 : decode cX11_text 66 = .ok (.bipush 10, 2) := @dq_o16 cX11_text 66 10 (qX11_text_4 2 16 rfl) (qX11_text_4 3 10 rfl)
theorem dX11_text_68 : decode cX11_text 68 = .ok (.invokevirtual 311, 3) := @dq_o182 cX11_text 68 1 55 (qX11_text_4 4 182 rfl) (qX11_text_4 5 1 rfl) (qX11_text_4 6 55 rfl)
theorem dX11_text_71 : decode cX11_text 71 = .ok (.aload_n 0, 1) := @dq_o42 cX11_text 71 (qX11_text_4 7 42 rfl)
theorem dX11_text_72 : decode cX11_text 72 = .ok (.invokevirtual 287, 3) := @dq_o182 cX11_text 72 1 31 (qX11_text_4 8 182 rfl) (qX11_text_4 9 1 rfl) (qX11_text_4 10 31 rfl)
theorem dX11_text_75 : decode cX11_text 75 = .ok (.ifCond .ne 20, 3) := @dq_o154 cX11_text 75 0 20 (qX11_text_4 11 154 rfl) (qX11_text_4 12 0 rfl) (qX11_text_4 13 20 rfl)
theorem dX11_text_78 : decode cX11_text 78 = .ok (.aload_n 0, 1) := @dq_o42 cX11_text 78 (qX11_text_4 14 42 rfl)
theorem dX11_text_79 : decode cX11_text 79 = .ok (.invokevirtual 305, 3) := @dq_o182 cX11_text 79 1 49 (qX11_text_4 15 182 rfl) (qX11_text_5 0 1 rfl) (qX11_text_5 1 49 rfl)
theorem dX11_text_82 : decode cX11_text 82 = .ok (.iconst (-1), 1) := @dq_o2 cX11_text 82 (qX11_text_5 2 2 rfl)
theorem dX11_text_83 : decode cX11_text 83 = .ok (.if_icmp .eq 12, 3) := @dq_o159 cX11_text 83 0 12 (qX11_text_5 3 159 rfl) (qX11_text_5 4 0 rfl) (qX11_text_5 5 12 rfl)
theorem dX11_text_86 : decode cX11_text 86 = .ok (.aload_n 0, 1) := @dq_o42 cX11_text 86 (qX11_text_5 6 42 rfl)
theorem dX11_text_87 : decode cX11_text 87 = .ok (.iconst 1, 1) := @dq_o4 cX11_text 87 (qX11_text_5 7 4 rfl)
theorem dX11_text_88 : decode cX11_text 88 = .ok (.aload_n 0, 1) := @dq_o42 cX11_text 88 (qX11_text_5 8 42 rfl)
theorem dX11_text_89 : decode cX11_text 89 = .ok (.getfield 278, 3) := @dq_o180 cX11_text 89 1 22 (qX11_text_5 9 180 rfl) (qX11_text_5 10 1 rfl) (qX11_text_5 11 22 rfl)
theorem dX11_text_92 : decode cX11_text 92 = .ok (.invokevirtual 296, 3) := @dq_o182 cX11_text 92 1 40 (qX11_text_5 12 182 rfl) (qX11_text_5 13 1 rfl) (qX11_text_5 14 40 rfl)
theorem dX11_text_95 : decode cX11_text 95 = .ok (.aload_n 0, 1) := @dq_o42 cX11_text 95 (qX11_text_5 15 42 rfl)
theorem dX11_text_96 : decode cX11_text 96 = .ok (.getfield 52, 3) := @dq_o180 cX11_text 96 0 52 (qX11_text_6 0 180 rfl) (qX11_text_6 1 0 rfl) (qX11_text_6 2 52 rfl)
theorem dX11_text_99 : decode cX11_text 99 = .ok (.iconst (-1), 1) := @dq_o2 cX11_text 99 (qX11_text_6 3 2 rfl)
theorem dX11_text_100 : decode cX11_text 100 = .ok (.if_icmp .eq 44, 3) := @dq_o159 cX11_text 100 0 44 (qX11_text_6 4 159 rfl) (qX11_text_6 5 0 rfl) (qX11_text_6 6 44 rfl)
theorem dX11_text_103 : decode cX11_text 103 = .ok (.aload_n 0, 1) := @dq_o42 cX11_text 103 (qX11_text_6 7 42 rfl)
theorem dX11_text_104 : decode cX11_text 104 = .ok (.invokevirtual 287, 3) := @dq_o182 cX11_text 104 1 31 (qX11_text_6 8 182 rfl) (qX11_text_6 9 1 rfl) (qX11_text_6 10 31 rfl)
theorem dX11_text_107 : decode cX11_text 107 = .ok (.ifCond .eq 14, 3) := @dq_o153 cX11_text 107 0 14 (qX11_text_6 11 153 rfl) (qX11_text_6 12 0 rfl) (qX11_text_6 13 14 rfl)
theorem dX11_text_110 : decode cX11_text 110 = .ok (.aload_n 0, 1) := @dq_o42 cX11_text 110 (qX11_text_6 14 42 rfl)
theorem dX11_text_111 : decode cX11_text 111 = .ok (.getfield 49, 3) := @dq_o180 cX11_text 111 0 49 (qX11_text_6 15 180 rfl) (qX11_text_7 0 0 rfl) (qX11_text_7 1 49 rfl)
theorem dX11_text_114 : decode cX11_text 114 = .ok (.aload_n 0, 1) := @dq_o42 cX11_text 114 (qX11_text_7 2 42 rfl)
theorem dX11_text_115 : decode cX11_text 115 = .ok (.getfield 52, 3) := @dq_o180 cX11_text 115 0 52 (qX11_text_7 3 180 rfl) (qX11_text_7 4 0 rfl) (qX11_text_7 5 52 rfl)
theorem dX11_text_118 : decode cX11_text 118 = .ok (.if_icmp .lt 26, 3) := @dq_o161 cX11_text 118 0 26 (qX11_text_7 6 161 rfl) (qX11_text_7 7 0 rfl) (qX11_text_7 8 26 rfl)
theorem dX11_text_121 : decode cX11_text 121 = .ok (.aload_n 0, 1) := @dq_o42 cX11_text 121 (qX11_text_7 9 42 rfl)
theorem dX11_text_122 : decode cX11_text 122 = .ok (.iconst 5, 1) := @dq_o8 cX11_text 122 (qX11_text_7 10 8 rfl)
theorem dX11_text_123 : decode cX11_text 123 = .ok (.putfield 290, 3) := @dq_o181 cX11_text 123 1 34 (qX11_text_7 11 181 rfl) (qX11_text_7 12 1 rfl) (qX11_text_7 13 34 rfl)
theorem dX11_text_126 : decode cX11_text 126 = .ok (.aload_n 0, 1) := @dq_o42 cX11_text 126 (qX11_text_7 14 42 rfl)
theorem dX11_text_127 : decode cX11_text 127 = .ok (.aload_n 0, 1) := @dq_o42 cX11_text 127 (qX11_text_7 15 42 rfl)
theorem dX11_text_128 : decode cX11_text 128 = .ok (.getfield 52, 3) := @dq_o180 cX11_text 128 0 52 (qX11_text_8 0 180 rfl) (qX11_text_8 1 0 rfl) (qX11_text_8 2 52 rfl)
theorem dX11_text_131 : decode cX11_text 131 = .ok (.putfield 49, 3) := @dq_o181 cX11_text 131 0 49 (qX11_text_8 3 181 rfl) (qX11_text_8 4 0 rfl) (qX11_text_8 5 49 rfl)
theorem dX11_text_134 : decode cX11_text 134 = .ok (.aload_n 0, 1) := @dq_o42 cX11_text 134 (qX11_text_8 6 42 rfl)
theorem dX11_text_135 : decode cX11_text 135 = .ok (.aload_n 0, 1) := @dq_o42 cX11_text 135 (qX11_text_8 7 42 rfl)
theorem dX11_text_136 : decode cX11_text 136 = .ok (.getfield 229, 3) := @dq_o180 cX11_text 136 0 229 (qX11_text_8 8 180 rfl) (qX11_text_8 9 0 rfl) (qX11_text_8 10 229 rfl)
theorem dX11_text_139 : decode cX11_text 139 = .ok (.iconst 1, 1) := @dq_o4 cX11_text 139 (qX11_text_8 11 4 rfl)
theorem dX11_text_140 : decode cX11_text 140 = .ok (.iadd, 1) := @dq_o96 cX11_text 140 (qX11_text_8 12 96 rfl)
theorem dX11_text_141 : decode cX11_text 141 = .ok (.putfield 229, 3) := @dq_o181 cX11_text 141 0 229 (qX11_text_8 13 181 rfl) (qX11_text_8 14 0 rfl) (qX11_text_8 15 229 rfl)
theorem dX11_text_144 : decode cX11_text 144 = .ok (.aload_n 0, 1) := @dq_o42 cX11_text 144 (qX11_text_9 0 42 rfl)
theorem dX11_text_145 : decode cX11_text 145 = .ok (.invokevirtual 287, 3) := @dq_o182 cX11_text 145 1 31 (qX11_text_9 1 182 rfl) (qX11_text_9 2 1 rfl) (qX11_text_9 3 31 rfl)
theorem dX11_text_148 : decode cX11_text 148 = .ok (.ifCond .ne 17, 3) := @dq_o154 cX11_text 148 0 17 (qX11_text_9 4 154 rfl) (qX11_text_9 5 0 rfl) (qX11_text_9 6 17 rfl)
theorem dX11_text_151 : decode cX11_text 151 = .ok (.aload_n 0, 1) := @dq_o42 cX11_text 151 (qX11_text_9 7 42 rfl)
theorem dX11_text_152 : decode cX11_text 152 = .ok (.iload_n 1, 1) := @dq_o27 cX11_text 152 (qX11_text_9 8 27 rfl)
theorem dX11_text_153 : decode cX11_text 153 = .ok (.bipush 10, 2) := @dq_o16 cX11_text 153 10 (qX11_text_9 9 16 rfl) (qX11_text_9 10 10 rfl)
theorem dX11_text_155 : decode cX11_text 155 = .ok (.invokevirtual 244, 3) := @dq_o182 cX11_text 155 0 244 (qX11_text_9 11 182 rfl) (qX11_text_9 12 0 rfl) (qX11_text_9 13 244 rfl)
theorem dX11_text_158 : decode cX11_text 158 = .ok (.ifCond .eq 7, 3) := @dq_o153 cX11_text 158 0 7 (qX11_text_9 14 153 rfl) (qX11_text_9 15 0 rfl) (qX11_text_10 0 7 rfl)
theorem dX11_text_161 : decode cX11_text 161 = .ok (.iconst 1, 1) := @dq_o4 cX11_text 161 (qX11_text_10 1 4 rfl)
theorem dX11_text_162 : decode cX11_text 162 = .ok (.goto 4, 3) := @dq_o167 cX11_text 162 0 4 (qX11_text_10 2 167 rfl) (qX11_text_10 3 0 rfl) (qX11_text_10 4 4 rfl)
theorem dX11_text_165 : decode cX11_text 165 = .ok (.iconst 0, 1) := @dq_o3 cX11_text 165 (qX11_text_10 5 3 rfl)
theorem dX11_text_166 : decode cX11_text 166 = .ok (.ireturn, 1) := @dq_o172 cX11_text 166 (qX11_text_10 6 172 rfl)
abbrev qaX11_fault_0 : List Nat := [42, 3, 181, 0, 1, 27, 154, 0, 10, 42, 180, 1, 34, 167, 0, 16]
abbrev qaX11_fault_1 : List Nat := [27, 4, 160, 0, 10, 42, 180, 0, 49, 167, 0, 4, 2, 172]
def qtX11_fault_2 : List Nat := []
def qtX11_fault_1 : List Nat := qaX11_fault_1 ++ qtX11_fault_2
def qtX11_fault_0 : List Nat := qaX11_fault_0 ++ qtX11_fault_1
theorem qeX11_fault : cX11_fault.data.toList.map UInt8.toNat = qtX11_fault_0 := by decide +kernel
theorem qsX11_fault_0 : ∀ i, dqNth qtX11_fault_0 (0 + i) = dqNth qtX11_fault_0 i := fun i => by rw [Nat.zero_add]
theorem qsX11_fault_1 : ∀ i, dqNth qtX11_fault_0 (16 + i) = dqNth qtX11_fault_1 i := dq_step qsX11_fault_0 rfl rfl
theorem qX11_fault_0 (i b : Nat) (h : dqNth qaX11_fault_0 i = some b) : DqBy cX11_fault (0 + i) b := dqBy_of qeX11_fault ((qsX11_fault_0 i).trans (dq_in h))
theorem qX11_fault_1 (i b : Nat) (h : dqNth qaX11_fault_1 i = some b) : DqBy cX11_fault (16 + i) b := dqBy_of qeX11_fault ((qsX11_fault_1 i).trans (dq_in h))
theorem dX11_fault_0 : decode cX11_fault 0 = .ok (.aload_n 0, 1) := @dq_o42 cX11_fault 0 (qX11_fault_0 0 42 rfl)
theorem dX11_fault_1 : decode cX11_fault 1 = .ok (.iconst 0, 1) := @dq_o3 cX11_fault 1 (qX11_fault_0 1 3 rfl)
theorem dX11_fault_2 : decode cX11_fault 2 = .ok (.putfield 1, 3) := @dq_o181 cX11_fault 2 0 1 (qX11_fault_0 2 181 rfl) (qX11_fault_0 3 0 rfl) (qX11_fault_0 4 1 rfl)
theorem dX11_fault_5 : decode cX11_fault 5 = .ok (.iload_n 1, 1) := @dq_o27 cX11_fault 5 (qX11_fault_0 5 27 rfl)
theorem dX11_fault_6 : decode cX11_fault 6 = .ok (.ifCond .ne 10, 3) := @dq_o154 cX11_fault 6 0 10 (qX11_fault_0 6 154 rfl) (qX11_fault_0 7 0 rfl) (qX11_fault_0 8 10 rfl)
theorem dX11_fault_9 : decode cX11_fault 9 = .ok (.aload_n 0, 1) := @dq_o42 cX11_fault 9 (qX11_fault_0 9 42 rfl)
theorem dX11_fault_10 : decode cX11_fault 10 = .ok (.getfield 290, 3) := @dq_o180 cX11_fault 10 1 34 (qX11_fault_0 10 180 rfl) (qX11_fault_0 11 1 rfl) (qX11_fault_0 12 34 rfl)
theorem dX11_fault_13 : decode cX11_fault 13 = .ok (.goto 16, 3) := @dq_o167 cX11_fault 13 0 16 (qX11_fault_0 13 167 rfl) (qX11_fault_0 14 0 rfl) (qX11_fault_0 15 16 rfl)
theorem dX11_fault_16 : decode cX11_fault 16 = .ok (.iload_n 1, 1) := @dq_o27 cX11_fault 16 (qX11_fault_1 0 27 rfl)
theorem dX11_fault_17 : decode cX11_fault 17 = .ok (.iconst 1, 1) := @dq_o4 cX11_fault 17 (qX11_fault_1 1 4 rfl)
theorem dX11_fault_18 : decode cX11_fault 18 = .ok (.if_icmp .ne 10, 3) := @dq_o160 cX11_fault 18 0 10 (qX11_fault_1 2 160 rfl) (qX11_fault_1 3 0 rfl) (qX11_fault_1 4 10 rfl)
theorem dX11_fault_21 : decode cX11_fault 21 = .ok (.aload_n 0, 1) := @dq_o42 cX11_fault 21 (qX11_fault_1 5 42 rfl)
theorem dX11_fault_22 : decode cX11_fault 22 = .ok (.getfield 49, 3) := @dq_o180 cX11_fault 22 0 49 (qX11_fault_1 6 180 rfl) (qX11_fault_1 7 0 rfl) (qX11_fault_1 8 49 rfl)
theorem dX11_fault_25 : decode cX11_fault 25 = .ok (.goto 4, 3) := @dq_o167 cX11_fault 25 0 4 (qX11_fault_1 9 167 rfl) (qX11_fault_1 10 0 rfl) (qX11_fault_1 11 4 rfl)
theorem dX11_fault_28 : decode cX11_fault 28 = .ok (.iconst (-1), 1) := @dq_o2 cX11_fault 28 (qX11_fault_1 12 2 rfl)
theorem dX11_fault_29 : decode cX11_fault 29 = .ok (.ireturn, 1) := @dq_o172 cX11_fault 29 (qX11_fault_1 13 172 rfl)
abbrev qaX11_collect_0 : List Nat := [42, 3, 181, 0, 1, 42, 180, 1, 16, 60, 42, 3, 181, 1, 16, 27]
abbrev qaX11_collect_1 : List Nat := [16, 24, 164, 0, 5, 2, 172, 3, 61, 28, 27, 162, 0, 38, 42, 42]
abbrev qaX11_collect_2 : List Nat := [180, 0, 46, 28, 46, 133, 20, 1, 76, 16, 97, 42, 182, 0, 88, 96]
abbrev qaX11_collect_3 : List Nat := [133, 10, 101, 182, 0, 101, 154, 0, 5, 2, 172, 132, 2, 1, 167, 255]
abbrev qaX11_collect_4 : List Nat := [219, 42, 3, 181, 0, 127, 42, 3, 181, 0, 134, 3, 61, 28, 27, 162]
abbrev qaX11_collect_5 : List Nat := [0, 22, 42, 42, 180, 0, 46, 28, 46, 16, 97, 100, 182, 0, 140, 132]
abbrev qaX11_collect_6 : List Nat := [2, 1, 167, 255, 235, 42, 182, 0, 143, 154, 0, 6, 16, 254, 172, 42]
abbrev qaX11_collect_7 : List Nat := [42, 182, 0, 88, 181, 1, 78, 3, 61, 28, 42, 182, 0, 88, 162, 0]
abbrev qaX11_collect_8 : List Nat := [20, 42, 180, 0, 55, 28, 42, 28, 182, 0, 147, 79, 132, 2, 1, 167]
abbrev qaX11_collect_9 : List Nat := [255, 234, 42, 180, 0, 134, 172]
def qtX11_collect_10 : List Nat := []
def qtX11_collect_9 : List Nat := qaX11_collect_9 ++ qtX11_collect_10
def qtX11_collect_8 : List Nat := qaX11_collect_8 ++ qtX11_collect_9
def qtX11_collect_7 : List Nat := qaX11_collect_7 ++ qtX11_collect_8
def qtX11_collect_6 : List Nat := qaX11_collect_6 ++ qtX11_collect_7
def qtX11_collect_5 : List Nat := qaX11_collect_5 ++ qtX11_collect_6
def qtX11_collect_4 : List Nat := qaX11_collect_4 ++ qtX11_collect_5
def qtX11_collect_3 : List Nat := qaX11_collect_3 ++ qtX11_collect_4
def qtX11_collect_2 : List Nat := qaX11_collect_2 ++ qtX11_collect_3
def qtX11_collect_1 : List Nat := qaX11_collect_1 ++ qtX11_collect_2
def qtX11_collect_0 : List Nat := qaX11_collect_0 ++ qtX11_collect_1
theorem qeX11_collect : cX11_collect.data.toList.map UInt8.toNat = qtX11_collect_0 := by decide +kernel
theorem qsX11_collect_0 : ∀ i, dqNth qtX11_collect_0 (0 + i) = dqNth qtX11_collect_0 i := fun i => by rw [Nat.zero_add]
theorem qsX11_collect_1 : ∀ i, dqNth qtX11_collect_0 (16 + i) = dqNth qtX11_collect_1 i := dq_step qsX11_collect_0 rfl rfl
theorem qsX11_collect_2 : ∀ i, dqNth qtX11_collect_0 (32 + i) = dqNth qtX11_collect_2 i := dq_step qsX11_collect_1 rfl rfl
theorem qsX11_collect_3 : ∀ i, dqNth qtX11_collect_0 (48 + i) = dqNth qtX11_collect_3 i := dq_step qsX11_collect_2 rfl rfl
theorem qsX11_collect_4 : ∀ i, dqNth qtX11_collect_0 (64 + i) = dqNth qtX11_collect_4 i := dq_step qsX11_collect_3 rfl rfl
theorem qsX11_collect_5 : ∀ i, dqNth qtX11_collect_0 (80 + i) = dqNth qtX11_collect_5 i := dq_step qsX11_collect_4 rfl rfl
theorem qsX11_collect_6 : ∀ i, dqNth qtX11_collect_0 (96 + i) = dqNth qtX11_collect_6 i := dq_step qsX11_collect_5 rfl rfl
theorem qsX11_collect_7 : ∀ i, dqNth qtX11_collect_0 (112 + i) = dqNth qtX11_collect_7 i := dq_step qsX11_collect_6 rfl rfl
theorem qsX11_collect_8 : ∀ i, dqNth qtX11_collect_0 (128 + i) = dqNth qtX11_collect_8 i := dq_step qsX11_collect_7 rfl rfl
theorem qsX11_collect_9 : ∀ i, dqNth qtX11_collect_0 (144 + i) = dqNth qtX11_collect_9 i := dq_step qsX11_collect_8 rfl rfl
theorem qX11_collect_0 (i b : Nat) (h : dqNth qaX11_collect_0 i = some b) : DqBy cX11_collect (0 + i) b := dqBy_of qeX11_collect ((qsX11_collect_0 i).trans (dq_in h))
theorem qX11_collect_1 (i b : Nat) (h : dqNth qaX11_collect_1 i = some b) : DqBy cX11_collect (16 + i) b := dqBy_of qeX11_collect ((qsX11_collect_1 i).trans (dq_in h))
theorem qX11_collect_2 (i b : Nat) (h : dqNth qaX11_collect_2 i = some b) : DqBy cX11_collect (32 + i) b := dqBy_of qeX11_collect ((qsX11_collect_2 i).trans (dq_in h))
theorem qX11_collect_3 (i b : Nat) (h : dqNth qaX11_collect_3 i = some b) : DqBy cX11_collect (48 + i) b := dqBy_of qeX11_collect ((qsX11_collect_3 i).trans (dq_in h))
theorem qX11_collect_4 (i b : Nat) (h : dqNth qaX11_collect_4 i = some b) : DqBy cX11_collect (64 + i) b := dqBy_of qeX11_collect ((qsX11_collect_4 i).trans (dq_in h))
theorem qX11_collect_5 (i b : Nat) (h : dqNth qaX11_collect_5 i = some b) : DqBy cX11_collect (80 + i) b := dqBy_of qeX11_collect ((qsX11_collect_5 i).trans (dq_in h))
theorem qX11_collect_6 (i b : Nat) (h : dqNth qaX11_collect_6 i = some b) : DqBy cX11_collect (96 + i) b := dqBy_of qeX11_collect ((qsX11_collect_6 i).trans (dq_in h))
theorem qX11_collect_7 (i b : Nat) (h : dqNth qaX11_collect_7 i = some b) : DqBy cX11_collect (112 + i) b := dqBy_of qeX11_collect ((qsX11_collect_7 i).trans (dq_in h))
theorem qX11_collect_8 (i b : Nat) (h : dqNth qaX11_collect_8 i = some b) : DqBy cX11_collect (128 + i) b := dqBy_of qeX11_collect ((qsX11_collect_8 i).trans (dq_in h))
theorem qX11_collect_9 (i b : Nat) (h : dqNth qaX11_collect_9 i = some b) : DqBy cX11_collect (144 + i) b := dqBy_of qeX11_collect ((qsX11_collect_9 i).trans (dq_in h))
theorem dX11_collect_0 : decode cX11_collect 0 = .ok (.aload_n 0, 1) := @dq_o42 cX11_collect 0 (qX11_collect_0 0 42 rfl)
theorem dX11_collect_1 : decode cX11_collect 1 = .ok (.iconst 0, 1) := @dq_o3 cX11_collect 1 (qX11_collect_0 1 3 rfl)
theorem dX11_collect_2 : decode cX11_collect 2 = .ok (.putfield 1, 3) := @dq_o181 cX11_collect 2 0 1 (qX11_collect_0 2 181 rfl) (qX11_collect_0 3 0 rfl) (qX11_collect_0 4 1 rfl)
theorem dX11_collect_5 : decode cX11_collect 5 = .ok (.aload_n 0, 1) := @dq_o42 cX11_collect 5 (qX11_collect_0 5 42 rfl)
theorem dX11_collect_6 : decode cX11_collect 6 = .ok (.getfield 272, 3) := @dq_o180 cX11_collect 6 1 16 (qX11_collect_0 6 180 rfl) (qX11_collect_0 7 1 rfl) (qX11_collect_0 8 16 rfl)
theorem dX11_collect_9 : decode cX11_collect 9 = .ok (.istore_n 1, 1) := @dq_o60 cX11_collect 9 (qX11_collect_0 9 60 rfl)
theorem dX11_collect_10 : decode cX11_collect 10 = .ok (.aload_n 0, 1) := @dq_o42 cX11_collect 10 (qX11_collect_0 10 42 rfl)
theorem dX11_collect_11 : decode cX11_collect 11 = .ok (.iconst 0, 1) := @dq_o3 cX11_collect 11 (qX11_collect_0 11 3 rfl)
theorem dX11_collect_12 : decode cX11_collect 12 = .ok (.putfield 272, 3) := @dq_o181 cX11_collect 12 1 16 (qX11_collect_0 12 181 rfl) (qX11_collect_0 13 1 rfl) (qX11_collect_0 14 16 rfl)
theorem dX11_collect_15 : decode cX11_collect 15 = .ok (.iload_n 1, 1) := @dq_o27 cX11_collect 15 (qX11_collect_0 15 27 rfl)
theorem dX11_collect_16 : decode cX11_collect 16 = .ok (.bipush 24, 2) := @dq_o16 cX11_collect 16 24 (qX11_collect_1 0 16 rfl) (qX11_collect_1 1 24 rfl)
theorem dX11_collect_18 : decode cX11_collect 18 = .ok (.if_icmp .le 5, 3) := @dq_o164 cX11_collect 18 0 5 (qX11_collect_1 2 164 rfl) (qX11_collect_1 3 0 rfl) (qX11_collect_1 4 5 rfl)
theorem dX11_collect_21 : decode cX11_collect 21 = .ok (.iconst (-1), 1) := @dq_o2 cX11_collect 21 (qX11_collect_1 5 2 rfl)
theorem dX11_collect_22 : decode cX11_collect 22 = .ok (.ireturn, 1) := @dq_o172 cX11_collect 22 (qX11_collect_1 6 172 rfl)
theorem dX11_collect_23 : decode cX11_collect 23 = .ok (.iconst 0, 1) := @dq_o3 cX11_collect 23 (qX11_collect_1 7 3 rfl)
theorem dX11_collect_24 : decode cX11_collect 24 = .ok (.istore_n 2, 1) := @dq_o61 cX11_collect 24 (qX11_collect_1 8 61 rfl)
theorem dX11_collect_25 : decode cX11_collect 25 = .ok (.iload_n 2, 1) := @dq_o28 cX11_collect 25 (qX11_collect_1 9 28 rfl)
theorem dX11_collect_26 : decode cX11_collect 26 = .ok (.iload_n 1, 1) := @dq_o27 cX11_collect 26 (qX11_collect_1 10 27 rfl)
theorem dX11_collect_27 : decode cX11_collect 27 = .ok (.if_icmp .ge 38, 3) := @dq_o162 cX11_collect 27 0 38 (qX11_collect_1 11 162 rfl) (qX11_collect_1 12 0 rfl) (qX11_collect_1 13 38 rfl)
theorem dX11_collect_30 : decode cX11_collect 30 = .ok (.aload_n 0, 1) := @dq_o42 cX11_collect 30 (qX11_collect_1 14 42 rfl)
theorem dX11_collect_31 : decode cX11_collect 31 = .ok (.aload_n 0, 1) := @dq_o42 cX11_collect 31 (qX11_collect_1 15 42 rfl)
theorem dX11_collect_32 : decode cX11_collect 32 = .ok (.getfield 46, 3) := @dq_o180 cX11_collect 32 0 46 (qX11_collect_2 0 180 rfl) (qX11_collect_2 1 0 rfl) (qX11_collect_2 2 46 rfl)
theorem dX11_collect_35 : decode cX11_collect 35 = .ok (.iload_n 2, 1) := @dq_o28 cX11_collect 35 (qX11_collect_2 3 28 rfl)
theorem dX11_collect_36 : decode cX11_collect 36 = .ok (.iaload, 1) := @dq_o46 cX11_collect 36 (qX11_collect_2 4 46 rfl)
theorem dX11_collect_37 : decode cX11_collect 37 = .ok (.i2l, 1) := @dq_o133 cX11_collect 37 (qX11_collect_2 5 133 rfl)
theorem dX11_collect_38 : decode cX11_collect 38 = .ok (.ldc2_w 332, 3) := @dq_o20 cX11_collect 38 1 76 (qX11_collect_2 6 20 rfl) (qX11_collect_2 7 1 rfl) (qX11_collect_2 8 76 rfl)
theorem dX11_collect_41 : decode cX11_collect 41 = .ok (.bipush 97, 2) := @dq_o16 cX11_collect 41 97 (qX11_collect_2 9 16 rfl) (qX11_collect_2 10 97 rfl)
theorem dX11_collect_43 : decode cX11_collect 43 = .ok (.aload_n 0, 1) := @dq_o42 cX11_collect 43 (qX11_collect_2 11 42 rfl)
theorem dX11_collect_44 : decode cX11_collect 44 = .ok (.invokevirtual 88, 3) := @dq_o182 cX11_collect 44 0 88 (qX11_collect_2 12 182 rfl) (qX11_collect_2 13 0 rfl) (qX11_collect_2 14 88 rfl)
theorem dX11_collect_47 : decode cX11_collect 47 = .ok (.iadd, 1) := @dq_o96 cX11_collect 47 (qX11_collect_2 15 96 rfl)
theorem dX11_collect_48 : decode cX11_collect 48 = .ok (.i2l, 1) := @dq_o133 cX11_collect 48 (qX11_collect_3 0 133 rfl)
theorem dX11_collect_49 : decode cX11_collect 49 = .ok (.lconst 1, 1) := @dq_o10 cX11_collect 49 (qX11_collect_3 1 10 rfl)
theorem dX11_collect_50 : decode cX11_collect 50 = .ok (.lsub, 1) := @dq_o101 cX11_collect 50 (qX11_collect_3 2 101 rfl)
theorem dX11_collect_51 : decode cX11_collect 51 = .ok (.invokevirtual 101, 3) := @dq_o182 cX11_collect 51 0 101 (qX11_collect_3 3 182 rfl) (qX11_collect_3 4 0 rfl) (qX11_collect_3 5 101 rfl)
theorem dX11_collect_54 : decode cX11_collect 54 = .ok (.ifCond .ne 5, 3) := @dq_o154 cX11_collect 54 0 5 (qX11_collect_3 6 154 rfl) (qX11_collect_3 7 0 rfl) (qX11_collect_3 8 5 rfl)
theorem dX11_collect_57 : decode cX11_collect 57 = .ok (.iconst (-1), 1) := @dq_o2 cX11_collect 57 (qX11_collect_3 9 2 rfl)
theorem dX11_collect_58 : decode cX11_collect 58 = .ok (.ireturn, 1) := @dq_o172 cX11_collect 58 (qX11_collect_3 10 172 rfl)
theorem dX11_collect_59 : decode cX11_collect 59 = .ok (.iinc 2 1, 3) := @dq_o132 cX11_collect 59 2 1 (qX11_collect_3 11 132 rfl) (qX11_collect_3 12 2 rfl) (qX11_collect_3 13 1 rfl)
theorem dX11_collect_62 : decode cX11_collect 62 = .ok (.goto (-37), 3) := @dq_o167 cX11_collect 62 255 219 (qX11_collect_3 14 167 rfl) (qX11_collect_3 15 255 rfl) (qX11_collect_4 0 219 rfl)
theorem dX11_collect_65 : decode cX11_collect 65 = .ok (.aload_n 0, 1) := @dq_o42 cX11_collect 65 (qX11_collect_4 1 42 rfl)
theorem dX11_collect_66 : decode cX11_collect 66 = .ok (.iconst 0, 1) := @dq_o3 cX11_collect 66 (qX11_collect_4 2 3 rfl)
theorem dX11_collect_67 : decode cX11_collect 67 = .ok (.putfield 127, 3) := @dq_o181 cX11_collect 67 0 127 (qX11_collect_4 3 181 rfl) (qX11_collect_4 4 0 rfl) (qX11_collect_4 5 127 rfl)
theorem dX11_collect_70 : decode cX11_collect 70 = .ok (.aload_n 0, 1) := @dq_o42 cX11_collect 70 (qX11_collect_4 6 42 rfl)
theorem dX11_collect_71 : decode cX11_collect 71 = .ok (.iconst 0, 1) := @dq_o3 cX11_collect 71 (qX11_collect_4 7 3 rfl)
theorem dX11_collect_72 : decode cX11_collect 72 = .ok (.putfield 134, 3) := @dq_o181 cX11_collect 72 0 134 (qX11_collect_4 8 181 rfl) (qX11_collect_4 9 0 rfl) (qX11_collect_4 10 134 rfl)
theorem dX11_collect_75 : decode cX11_collect 75 = .ok (.iconst 0, 1) := @dq_o3 cX11_collect 75 (qX11_collect_4 11 3 rfl)
theorem dX11_collect_76 : decode cX11_collect 76 = .ok (.istore_n 2, 1) := @dq_o61 cX11_collect 76 (qX11_collect_4 12 61 rfl)
theorem dX11_collect_77 : decode cX11_collect 77 = .ok (.iload_n 2, 1) := @dq_o28 cX11_collect 77 (qX11_collect_4 13 28 rfl)
theorem dX11_collect_78 : decode cX11_collect 78 = .ok (.iload_n 1, 1) := @dq_o27 cX11_collect 78 (qX11_collect_4 14 27 rfl)
theorem dX11_collect_79 : decode cX11_collect 79 = .ok (.if_icmp .ge 22, 3) := @dq_o162 cX11_collect 79 0 22 (qX11_collect_4 15 162 rfl) (qX11_collect_5 0 0 rfl) (qX11_collect_5 1 22 rfl)
theorem dX11_collect_82 : decode cX11_collect 82 = .ok (.aload_n 0, 1) := @dq_o42 cX11_collect 82 (qX11_collect_5 2 42 rfl)
theorem dX11_collect_83 : decode cX11_collect 83 = .ok (.aload_n 0, 1) := @dq_o42 cX11_collect 83 (qX11_collect_5 3 42 rfl)
theorem dX11_collect_84 : decode cX11_collect 84 = .ok (.getfield 46, 3) := @dq_o180 cX11_collect 84 0 46 (qX11_collect_5 4 180 rfl) (qX11_collect_5 5 0 rfl) (qX11_collect_5 6 46 rfl)
theorem dX11_collect_87 : decode cX11_collect 87 = .ok (.iload_n 2, 1) := @dq_o28 cX11_collect 87 (qX11_collect_5 7 28 rfl)
theorem dX11_collect_88 : decode cX11_collect 88 = .ok (.iaload, 1) := @dq_o46 cX11_collect 88 (qX11_collect_5 8 46 rfl)
theorem dX11_collect_89 : decode cX11_collect 89 = .ok (.bipush 97, 2) := @dq_o16 cX11_collect 89 97 (qX11_collect_5 9 16 rfl) (qX11_collect_5 10 97 rfl)
theorem dX11_collect_91 : decode cX11_collect 91 = .ok (.isub, 1) := @dq_o100 cX11_collect 91 (qX11_collect_5 11 100 rfl)
theorem dX11_collect_92 : decode cX11_collect 92 = .ok (.invokevirtual 140, 3) := @dq_o182 cX11_collect 92 0 140 (qX11_collect_5 12 182 rfl) (qX11_collect_5 13 0 rfl) (qX11_collect_5 14 140 rfl)
theorem dX11_collect_95 : decode cX11_collect 95 = .ok (.iinc 2 1, 3) := @dq_o132 cX11_collect 95 2 1 (qX11_collect_5 15 132 rfl) (qX11_collect_6 0 2 rfl) (qX11_collect_6 1 1 rfl)
theorem dX11_collect_98 : decode cX11_collect 98 = .ok (.goto (-21), 3) := @dq_o167 cX11_collect 98 255 235 (qX11_collect_6 2 167 rfl) (qX11_collect_6 3 255 rfl) (qX11_collect_6 4 235 rfl)
theorem dX11_collect_101 : decode cX11_collect 101 = .ok (.aload_n 0, 1) := @dq_o42 cX11_collect 101 (qX11_collect_6 5 42 rfl)
theorem dX11_collect_102 : decode cX11_collect 102 = .ok (.invokevirtual 143, 3) := @dq_o182 cX11_collect 102 0 143 (qX11_collect_6 6 182 rfl) (qX11_collect_6 7 0 rfl) (qX11_collect_6 8 143 rfl)
theorem dX11_collect_105 : decode cX11_collect 105 = .ok (.ifCond .ne 6, 3) := @dq_o154 cX11_collect 105 0 6 (qX11_collect_6 9 154 rfl) (qX11_collect_6 10 0 rfl) (qX11_collect_6 11 6 rfl)
theorem dX11_collect_108 : decode cX11_collect 108 = .ok (.bipush (-2), 2) := @dq_o16 cX11_collect 108 254 (qX11_collect_6 12 16 rfl) (qX11_collect_6 13 254 rfl)
theorem dX11_collect_110 : decode cX11_collect 110 = .ok (.ireturn, 1) := @dq_o172 cX11_collect 110 (qX11_collect_6 14 172 rfl)
theorem dX11_collect_111 : decode cX11_collect 111 = .ok (.aload_n 0, 1) := @dq_o42 cX11_collect 111 (qX11_collect_6 15 42 rfl)
theorem dX11_collect_112 : decode cX11_collect 112 = .ok (.aload_n 0, 1) := @dq_o42 cX11_collect 112 (qX11_collect_7 0 42 rfl)
theorem dX11_collect_113 : decode cX11_collect 113 = .ok (.invokevirtual 88, 3) := @dq_o182 cX11_collect 113 0 88 (qX11_collect_7 1 182 rfl) (qX11_collect_7 2 0 rfl) (qX11_collect_7 3 88 rfl)
theorem dX11_collect_116 : decode cX11_collect 116 = .ok (.putfield 334, 3) := @dq_o181 cX11_collect 116 1 78 (qX11_collect_7 4 181 rfl) (qX11_collect_7 5 1 rfl) (qX11_collect_7 6 78 rfl)
theorem dX11_collect_119 : decode cX11_collect 119 = .ok (.iconst 0, 1) := @dq_o3 cX11_collect 119 (qX11_collect_7 7 3 rfl)
theorem dX11_collect_120 : decode cX11_collect 120 = .ok (.istore_n 2, 1) := @dq_o61 cX11_collect 120 (qX11_collect_7 8 61 rfl)
theorem dX11_collect_121 : decode cX11_collect 121 = .ok (.iload_n 2, 1) := @dq_o28 cX11_collect 121 (qX11_collect_7 9 28 rfl)
theorem dX11_collect_122 : decode cX11_collect 122 = .ok (.aload_n 0, 1) := @dq_o42 cX11_collect 122 (qX11_collect_7 10 42 rfl)
theorem dX11_collect_123 : decode cX11_collect 123 = .ok (.invokevirtual 88, 3) := @dq_o182 cX11_collect 123 0 88 (qX11_collect_7 11 182 rfl) (qX11_collect_7 12 0 rfl) (qX11_collect_7 13 88 rfl)
theorem dX11_collect_126 : decode cX11_collect 126 = .ok (.if_icmp .ge 20, 3) := @dq_o162 cX11_collect 126 0 20 (qX11_collect_7 14 162 rfl) (qX11_collect_7 15 0 rfl) (qX11_collect_8 0 20 rfl)
theorem dX11_collect_129 : decode cX11_collect 129 = .ok (.aload_n 0, 1) := @dq_o42 cX11_collect 129 (qX11_collect_8 1 42 rfl)
theorem dX11_collect_130 : decode cX11_collect 130 = .ok (.getfield 55, 3) := @dq_o180 cX11_collect 130 0 55 (qX11_collect_8 2 180 rfl) (qX11_collect_8 3 0 rfl) (qX11_collect_8 4 55 rfl)
theorem dX11_collect_133 : decode cX11_collect 133 = .ok (.iload_n 2, 1) := @dq_o28 cX11_collect 133 (qX11_collect_8 5 28 rfl)
theorem dX11_collect_134 : decode cX11_collect 134 = .ok (.aload_n 0, 1) := @dq_o42 cX11_collect 134 (qX11_collect_8 6 42 rfl)
theorem dX11_collect_135 : decode cX11_collect 135 = .ok (.iload_n 2, 1) := @dq_o28 cX11_collect 135 (qX11_collect_8 7 28 rfl)
theorem dX11_collect_136 : decode cX11_collect 136 = .ok (.invokevirtual 147, 3) := @dq_o182 cX11_collect 136 0 147 (qX11_collect_8 8 182 rfl) (qX11_collect_8 9 0 rfl) (qX11_collect_8 10 147 rfl)
theorem dX11_collect_139 : decode cX11_collect 139 = .ok (.iastore, 1) := @dq_o79 cX11_collect 139 (qX11_collect_8 11 79 rfl)
theorem dX11_collect_140 : decode cX11_collect 140 = .ok (.iinc 2 1, 3) := @dq_o132 cX11_collect 140 2 1 (qX11_collect_8 12 132 rfl) (qX11_collect_8 13 2 rfl) (qX11_collect_8 14 1 rfl)
theorem dX11_collect_143 : decode cX11_collect 143 = .ok (.goto (-22), 3) := @dq_o167 cX11_collect 143 255 234 (qX11_collect_8 15 167 rfl) (qX11_collect_9 0 255 rfl) (qX11_collect_9 1 234 rfl)
theorem dX11_collect_146 : decode cX11_collect 146 = .ok (.aload_n 0, 1) := @dq_o42 cX11_collect 146 (qX11_collect_9 2 42 rfl)
theorem dX11_collect_147 : decode cX11_collect 147 = .ok (.getfield 134, 3) := @dq_o180 cX11_collect 147 0 134 (qX11_collect_9 3 180 rfl) (qX11_collect_9 4 0 rfl) (qX11_collect_9 5 134 rfl)
theorem dX11_collect_150 : decode cX11_collect 150 = .ok (.ireturn, 1) := @dq_o172 cX11_collect 150 (qX11_collect_9 6 172 rfl)
abbrev qaX11_collected_0 : List Nat := [42, 3, 181, 0, 1, 42, 27, 133, 10, 42, 180, 1, 78, 133, 182, 0]
abbrev qaX11_collected_1 : List Nat := [101, 153, 0, 14, 42, 180, 0, 55, 27, 4, 100, 46, 167, 0, 4, 2]
abbrev qaX11_collected_2 : List Nat := [172]
def qtX11_collected_3 : List Nat := []
def qtX11_collected_2 : List Nat := qaX11_collected_2 ++ qtX11_collected_3
def qtX11_collected_1 : List Nat := qaX11_collected_1 ++ qtX11_collected_2
def qtX11_collected_0 : List Nat := qaX11_collected_0 ++ qtX11_collected_1
theorem qeX11_collected : cX11_collected.data.toList.map UInt8.toNat = qtX11_collected_0 := by decide +kernel
theorem qsX11_collected_0 : ∀ i, dqNth qtX11_collected_0 (0 + i) = dqNth qtX11_collected_0 i := fun i => by rw [Nat.zero_add]
theorem qsX11_collected_1 : ∀ i, dqNth qtX11_collected_0 (16 + i) = dqNth qtX11_collected_1 i := dq_step qsX11_collected_0 rfl rfl
theorem qsX11_collected_2 : ∀ i, dqNth qtX11_collected_0 (32 + i) = dqNth qtX11_collected_2 i := dq_step qsX11_collected_1 rfl rfl
theorem qX11_collected_0 (i b : Nat) (h : dqNth qaX11_collected_0 i = some b) : DqBy cX11_collected (0 + i) b := dqBy_of qeX11_collected ((qsX11_collected_0 i).trans (dq_in h))
theorem qX11_collected_1 (i b : Nat) (h : dqNth qaX11_collected_1 i = some b) : DqBy cX11_collected (16 + i) b := dqBy_of qeX11_collected ((qsX11_collected_1 i).trans (dq_in h))
theorem qX11_collected_2 (i b : Nat) (h : dqNth qaX11_collected_2 i = some b) : DqBy cX11_collected (32 + i) b := dqBy_of qeX11_collected ((qsX11_collected_2 i).trans (dq_in h))
theorem dX11_collected_0 : decode cX11_collected 0 = .ok (.aload_n 0, 1) := @dq_o42 cX11_collected 0 (qX11_collected_0 0 42 rfl)
theorem dX11_collected_1 : decode cX11_collected 1 = .ok (.iconst 0, 1) := @dq_o3 cX11_collected 1 (qX11_collected_0 1 3 rfl)
theorem dX11_collected_2 : decode cX11_collected 2 = .ok (.putfield 1, 3) := @dq_o181 cX11_collected 2 0 1 (qX11_collected_0 2 181 rfl) (qX11_collected_0 3 0 rfl) (qX11_collected_0 4 1 rfl)
theorem dX11_collected_5 : decode cX11_collected 5 = .ok (.aload_n 0, 1) := @dq_o42 cX11_collected 5 (qX11_collected_0 5 42 rfl)
theorem dX11_collected_6 : decode cX11_collected 6 = .ok (.iload_n 1, 1) := @dq_o27 cX11_collected 6 (qX11_collected_0 6 27 rfl)
theorem dX11_collected_7 : decode cX11_collected 7 = .ok (.i2l, 1) := @dq_o133 cX11_collected 7 (qX11_collected_0 7 133 rfl)
theorem dX11_collected_8 : decode cX11_collected 8 = .ok (.lconst 1, 1) := @dq_o10 cX11_collected 8 (qX11_collected_0 8 10 rfl)
theorem dX11_collected_9 : decode cX11_collected 9 = .ok (.aload_n 0, 1) := @dq_o42 cX11_collected 9 (qX11_collected_0 9 42 rfl)
theorem dX11_collected_10 : decode cX11_collected 10 = .ok (.getfield 334, 3) := @dq_o180 cX11_collected 10 1 78 (qX11_collected_0 10 180 rfl) (qX11_collected_0 11 1 rfl) (qX11_collected_0 12 78 rfl)
theorem dX11_collected_13 : decode cX11_collected 13 = .ok (.i2l, 1) := @dq_o133 cX11_collected 13 (qX11_collected_0 13 133 rfl)
theorem dX11_collected_14 : decode cX11_collected 14 = .ok (.invokevirtual 101, 3) := @dq_o182 cX11_collected 14 0 101 (qX11_collected_0 14 182 rfl) (qX11_collected_0 15 0 rfl) (qX11_collected_1 0 101 rfl)
theorem dX11_collected_17 : decode cX11_collected 17 = .ok (.ifCond .eq 14, 3) := @dq_o153 cX11_collected 17 0 14 (qX11_collected_1 1 153 rfl) (qX11_collected_1 2 0 rfl) (qX11_collected_1 3 14 rfl)
theorem dX11_collected_20 : decode cX11_collected 20 = .ok (.aload_n 0, 1) := @dq_o42 cX11_collected 20 (qX11_collected_1 4 42 rfl)
theorem dX11_collected_21 : decode cX11_collected 21 = .ok (.getfield 55, 3) := @dq_o180 cX11_collected 21 0 55 (qX11_collected_1 5 180 rfl) (qX11_collected_1 6 0 rfl) (qX11_collected_1 7 55 rfl)
theorem dX11_collected_24 : decode cX11_collected 24 = .ok (.iload_n 1, 1) := @dq_o27 cX11_collected 24 (qX11_collected_1 8 27 rfl)
theorem dX11_collected_25 : decode cX11_collected 25 = .ok (.iconst 1, 1) := @dq_o4 cX11_collected 25 (qX11_collected_1 9 4 rfl)
theorem dX11_collected_26 : decode cX11_collected 26 = .ok (.isub, 1) := @dq_o100 cX11_collected 26 (qX11_collected_1 10 100 rfl)
theorem dX11_collected_27 : decode cX11_collected 27 = .ok (.iaload, 1) := @dq_o46 cX11_collected 27 (qX11_collected_1 11 46 rfl)
theorem dX11_collected_28 : decode cX11_collected 28 = .ok (.goto 4, 3) := @dq_o167 cX11_collected 28 0 4 (qX11_collected_1 12 167 rfl) (qX11_collected_1 13 0 rfl) (qX11_collected_1 14 4 rfl)
theorem dX11_collected_31 : decode cX11_collected 31 = .ok (.iconst (-1), 1) := @dq_o2 cX11_collected 31 (qX11_collected_1 15 2 rfl)
theorem dX11_collected_32 : decode cX11_collected 32 = .ok (.ireturn, 1) := @dq_o172 cX11_collected 32 (qX11_collected_2 0 172 rfl)
abbrev qaX11_consistent_0 : List Nat := [42, 3, 181, 0, 1, 42, 182, 0, 235, 153, 0, 7, 4, 167, 0, 4]
abbrev qaX11_consistent_1 : List Nat := [3, 172]
def qtX11_consistent_2 : List Nat := []
def qtX11_consistent_1 : List Nat := qaX11_consistent_1 ++ qtX11_consistent_2
def qtX11_consistent_0 : List Nat := qaX11_consistent_0 ++ qtX11_consistent_1
theorem qeX11_consistent : cX11_consistent.data.toList.map UInt8.toNat = qtX11_consistent_0 := by decide +kernel
theorem qsX11_consistent_0 : ∀ i, dqNth qtX11_consistent_0 (0 + i) = dqNth qtX11_consistent_0 i := fun i => by rw [Nat.zero_add]
theorem qsX11_consistent_1 : ∀ i, dqNth qtX11_consistent_0 (16 + i) = dqNth qtX11_consistent_1 i := dq_step qsX11_consistent_0 rfl rfl
theorem qX11_consistent_0 (i b : Nat) (h : dqNth qaX11_consistent_0 i = some b) : DqBy cX11_consistent (0 + i) b := dqBy_of qeX11_consistent ((qsX11_consistent_0 i).trans (dq_in h))
theorem qX11_consistent_1 (i b : Nat) (h : dqNth qaX11_consistent_1 i = some b) : DqBy cX11_consistent (16 + i) b := dqBy_of qeX11_consistent ((qsX11_consistent_1 i).trans (dq_in h))
theorem dX11_consistent_0 : decode cX11_consistent 0 = .ok (.aload_n 0, 1) := @dq_o42 cX11_consistent 0 (qX11_consistent_0 0 42 rfl)
theorem dX11_consistent_1 : decode cX11_consistent 1 = .ok (.iconst 0, 1) := @dq_o3 cX11_consistent 1 (qX11_consistent_0 1 3 rfl)
theorem dX11_consistent_2 : decode cX11_consistent 2 = .ok (.putfield 1, 3) := @dq_o181 cX11_consistent 2 0 1 (qX11_consistent_0 2 181 rfl) (qX11_consistent_0 3 0 rfl) (qX11_consistent_0 4 1 rfl)
theorem dX11_consistent_5 : decode cX11_consistent 5 = .ok (.aload_n 0, 1) := @dq_o42 cX11_consistent 5 (qX11_consistent_0 5 42 rfl)
theorem dX11_consistent_6 : decode cX11_consistent 6 = .ok (.invokevirtual 235, 3) := @dq_o182 cX11_consistent 6 0 235 (qX11_consistent_0 6 182 rfl) (qX11_consistent_0 7 0 rfl) (qX11_consistent_0 8 235 rfl)
theorem dX11_consistent_9 : decode cX11_consistent 9 = .ok (.ifCond .eq 7, 3) := @dq_o153 cX11_consistent 9 0 7 (qX11_consistent_0 9 153 rfl) (qX11_consistent_0 10 0 rfl) (qX11_consistent_0 11 7 rfl)
theorem dX11_consistent_12 : decode cX11_consistent 12 = .ok (.iconst 1, 1) := @dq_o4 cX11_consistent 12 (qX11_consistent_0 12 4 rfl)
theorem dX11_consistent_13 : decode cX11_consistent 13 = .ok (.goto 4, 3) := @dq_o167 cX11_consistent 13 0 4 (qX11_consistent_0 13 167 rfl) (qX11_consistent_0 14 0 rfl) (qX11_consistent_0 15 4 rfl)
theorem dX11_consistent_16 : decode cX11_consistent 16 = .ok (.iconst 0, 1) := @dq_o3 cX11_consistent 16 (qX11_consistent_1 0 3 rfl)
theorem dX11_consistent_17 : decode cX11_consistent 17 = .ok (.ireturn, 1) := @dq_o172 cX11_consistent 17 (qX11_consistent_1 1 172 rfl)
abbrev qaX11_exponent_0 : List Nat := [42, 3, 181, 0, 1, 42, 27, 182, 0, 232, 153, 0, 29, 42, 28, 133]
abbrev qaX11_exponent_1 : List Nat := [10, 42, 182, 0, 88, 133, 182, 0, 101, 153, 0, 14, 42, 27, 28, 4]
abbrev qaX11_exponent_2 : List Nat := [100, 182, 0, 170, 167, 0, 6, 17, 216, 240, 172]
def qtX11_exponent_3 : List Nat := []
def qtX11_exponent_2 : List Nat := qaX11_exponent_2 ++ qtX11_exponent_3
def qtX11_exponent_1 : List Nat := qaX11_exponent_1 ++ qtX11_exponent_2
def qtX11_exponent_0 : List Nat := qaX11_exponent_0 ++ qtX11_exponent_1
theorem qeX11_exponent : cX11_exponent.data.toList.map UInt8.toNat = qtX11_exponent_0 := by decide +kernel
theorem qsX11_exponent_0 : ∀ i, dqNth qtX11_exponent_0 (0 + i) = dqNth qtX11_exponent_0 i := fun i => by rw [Nat.zero_add]
theorem qsX11_exponent_1 : ∀ i, dqNth qtX11_exponent_0 (16 + i) = dqNth qtX11_exponent_1 i := dq_step qsX11_exponent_0 rfl rfl
theorem qsX11_exponent_2 : ∀ i, dqNth qtX11_exponent_0 (32 + i) = dqNth qtX11_exponent_2 i := dq_step qsX11_exponent_1 rfl rfl
theorem qX11_exponent_0 (i b : Nat) (h : dqNth qaX11_exponent_0 i = some b) : DqBy cX11_exponent (0 + i) b := dqBy_of qeX11_exponent ((qsX11_exponent_0 i).trans (dq_in h))
theorem qX11_exponent_1 (i b : Nat) (h : dqNth qaX11_exponent_1 i = some b) : DqBy cX11_exponent (16 + i) b := dqBy_of qeX11_exponent ((qsX11_exponent_1 i).trans (dq_in h))
theorem qX11_exponent_2 (i b : Nat) (h : dqNth qaX11_exponent_2 i = some b) : DqBy cX11_exponent (32 + i) b := dqBy_of qeX11_exponent ((qsX11_exponent_2 i).trans (dq_in h))
theorem dX11_exponent_0 : decode cX11_exponent 0 = .ok (.aload_n 0, 1) := @dq_o42 cX11_exponent 0 (qX11_exponent_0 0 42 rfl)
theorem dX11_exponent_1 : decode cX11_exponent 1 = .ok (.iconst 0, 1) := @dq_o3 cX11_exponent 1 (qX11_exponent_0 1 3 rfl)
theorem dX11_exponent_2 : decode cX11_exponent 2 = .ok (.putfield 1, 3) := @dq_o181 cX11_exponent 2 0 1 (qX11_exponent_0 2 181 rfl) (qX11_exponent_0 3 0 rfl) (qX11_exponent_0 4 1 rfl)
theorem dX11_exponent_5 : decode cX11_exponent 5 = .ok (.aload_n 0, 1) := @dq_o42 cX11_exponent 5 (qX11_exponent_0 5 42 rfl)
theorem dX11_exponent_6 : decode cX11_exponent 6 = .ok (.iload_n 1, 1) := @dq_o27 cX11_exponent 6 (qX11_exponent_0 6 27 rfl)
theorem dX11_exponent_7 : decode cX11_exponent 7 = .ok (.invokevirtual 232, 3) := @dq_o182 cX11_exponent 7 0 232 (qX11_exponent_0 7 182 rfl) (qX11_exponent_0 8 0 rfl) (qX11_exponent_0 9 232 rfl)
theorem dX11_exponent_10 : decode cX11_exponent 10 = .ok (.ifCond .eq 29, 3) := @dq_o153 cX11_exponent 10 0 29 (qX11_exponent_0 10 153 rfl) (qX11_exponent_0 11 0 rfl) (qX11_exponent_0 12 29 rfl)
theorem dX11_exponent_13 : decode cX11_exponent 13 = .ok (.aload_n 0, 1) := @dq_o42 cX11_exponent 13 (qX11_exponent_0 13 42 rfl)
theorem dX11_exponent_14 : decode cX11_exponent 14 = .ok (.iload_n 2, 1) := @dq_o28 cX11_exponent 14 (qX11_exponent_0 14 28 rfl)
theorem dX11_exponent_15 : decode cX11_exponent 15 = .ok (.i2l, 1) := @dq_o133 cX11_exponent 15 (qX11_exponent_0 15 133 rfl)
theorem dX11_exponent_16 : decode cX11_exponent 16 = .ok (.lconst 1, 1) := @dq_o10 cX11_exponent 16 (qX11_exponent_1 0 10 rfl)
theorem dX11_exponent_17 : decode cX11_exponent 17 = .ok (.aload_n 0, 1) := @dq_o42 cX11_exponent 17 (qX11_exponent_1 1 42 rfl)
theorem dX11_exponent_18 : decode cX11_exponent 18 = .ok (.invokevirtual 88, 3) := @dq_o182 cX11_exponent 18 0 88 (qX11_exponent_1 2 182 rfl) (qX11_exponent_1 3 0 rfl) (qX11_exponent_1 4 88 rfl)
theorem dX11_exponent_21 : decode cX11_exponent 21 = .ok (.i2l, 1) := @dq_o133 cX11_exponent 21 (qX11_exponent_1 5 133 rfl)
theorem dX11_exponent_22 : decode cX11_exponent 22 = .ok (.invokevirtual 101, 3) := @dq_o182 cX11_exponent 22 0 101 (qX11_exponent_1 6 182 rfl) (qX11_exponent_1 7 0 rfl) (qX11_exponent_1 8 101 rfl)
theorem dX11_exponent_25 : decode cX11_exponent 25 = .ok (.ifCond .eq 14, 3) := @dq_o153 cX11_exponent 25 0 14 (qX11_exponent_1 9 153 rfl) (qX11_exponent_1 10 0 rfl) (qX11_exponent_1 11 14 rfl)
theorem dX11_exponent_28 : decode cX11_exponent 28 = .ok (.aload_n 0, 1) := @dq_o42 cX11_exponent 28 (qX11_exponent_1 12 42 rfl)
theorem dX11_exponent_29 : decode cX11_exponent 29 = .ok (.iload_n 1, 1) := @dq_o27 cX11_exponent 29 (qX11_exponent_1 13 27 rfl)
theorem dX11_exponent_30 : decode cX11_exponent 30 = .ok (.iload_n 2, 1) := @dq_o28 cX11_exponent 30 (qX11_exponent_1 14 28 rfl)
theorem dX11_exponent_31 : decode cX11_exponent 31 = .ok (.iconst 1, 1) := @dq_o4 cX11_exponent 31 (qX11_exponent_1 15 4 rfl)
theorem dX11_exponent_32 : decode cX11_exponent 32 = .ok (.isub, 1) := @dq_o100 cX11_exponent 32 (qX11_exponent_2 0 100 rfl)
theorem dX11_exponent_33 : decode cX11_exponent 33 = .ok (.invokevirtual 170, 3) := @dq_o182 cX11_exponent 33 0 170 (qX11_exponent_2 1 182 rfl) (qX11_exponent_2 2 0 rfl) (qX11_exponent_2 3 170 rfl)
theorem dX11_exponent_36 : decode cX11_exponent 36 = .ok (.goto 6, 3) := @dq_o167 cX11_exponent 36 0 6 (qX11_exponent_2 4 167 rfl) (qX11_exponent_2 5 0 rfl) (qX11_exponent_2 6 6 rfl)
theorem dX11_exponent_39 : decode cX11_exponent 39 = .ok (.sipush (-10000), 3) := @dq_o17 cX11_exponent 39 216 240 (qX11_exponent_2 7 17 rfl) (qX11_exponent_2 8 216 rfl) (qX11_exponent_2 9 240 rfl)
theorem dX11_exponent_42 : decode cX11_exponent 42 = .ok (.ireturn, 1) := @dq_o172 cX11_exponent 42 (qX11_exponent_2 10 172 rfl)
abbrev qaX11_areCommuting_0 : List Nat := [42, 27, 28, 29, 182, 0, 254, 42, 29, 182, 1, 81, 172]
def qtX11_areCommuting_1 : List Nat := []
def qtX11_areCommuting_0 : List Nat := qaX11_areCommuting_0 ++ qtX11_areCommuting_1
theorem qeX11_areCommuting : cX11_areCommuting.data.toList.map UInt8.toNat = qtX11_areCommuting_0 := by decide +kernel
theorem qsX11_areCommuting_0 : ∀ i, dqNth qtX11_areCommuting_0 (0 + i) = dqNth qtX11_areCommuting_0 i := fun i => by rw [Nat.zero_add]
theorem qX11_areCommuting_0 (i b : Nat) (h : dqNth qaX11_areCommuting_0 i = some b) : DqBy cX11_areCommuting (0 + i) b := dqBy_of qeX11_areCommuting ((qsX11_areCommuting_0 i).trans (dq_in h))
theorem dX11_areCommuting_0 : decode cX11_areCommuting 0 = .ok (.aload_n 0, 1) := @dq_o42 cX11_areCommuting 0 (qX11_areCommuting_0 0 42 rfl)
theorem dX11_areCommuting_1 : decode cX11_areCommuting 1 = .ok (.iload_n 1, 1) := @dq_o27 cX11_areCommuting 1 (qX11_areCommuting_0 1 27 rfl)
theorem dX11_areCommuting_2 : decode cX11_areCommuting 2 = .ok (.iload_n 2, 1) := @dq_o28 cX11_areCommuting 2 (qX11_areCommuting_0 2 28 rfl)
theorem dX11_areCommuting_3 : decode cX11_areCommuting 3 = .ok (.iload_n 3, 1) := @dq_o29 cX11_areCommuting 3 (qX11_areCommuting_0 3 29 rfl)
theorem dX11_areCommuting_4 : decode cX11_areCommuting 4 = .ok (.invokevirtual 254, 3) := @dq_o182 cX11_areCommuting 4 0 254 (qX11_areCommuting_0 4 182 rfl) (qX11_areCommuting_0 5 0 rfl) (qX11_areCommuting_0 6 254 rfl)
theorem dX11_areCommuting_7 : decode cX11_areCommuting 7 = .ok (.aload_n 0, 1) := @dq_o42 cX11_areCommuting 7 (qX11_areCommuting_0 7 42 rfl)
theorem dX11_areCommuting_8 : decode cX11_areCommuting 8 = .ok (.iload_n 3, 1) := @dq_o29 cX11_areCommuting 8 (qX11_areCommuting_0 8 29 rfl)
theorem dX11_areCommuting_9 : decode cX11_areCommuting 9 = .ok (.invokevirtual 337, 3) := @dq_o182 cX11_areCommuting 9 1 81 (qX11_areCommuting_0 9 182 rfl) (qX11_areCommuting_0 10 1 rfl) (qX11_areCommuting_0 11 81 rfl)
theorem dX11_areCommuting_12 : decode cX11_areCommuting 12 = .ok (.ireturn, 1) := @dq_o172 cX11_areCommuting 12 (qX11_areCommuting_0 12 172 rfl)
abbrev qaX11_isCentral_0 : List Nat := [3, 62, 29, 42, 182, 0, 88, 162, 0, 35, 42, 28, 182, 0, 190, 42]
abbrev qaX11_isCentral_1 : List Nat := [28, 29, 10, 182, 0, 162, 42, 27, 28, 28, 4, 96, 182, 1, 84, 154]
abbrev qaX11_isCentral_2 : List Nat := [0, 5, 3, 172, 132, 3, 1, 167, 255, 219, 4, 172]
def qtX11_isCentral_3 : List Nat := []
def qtX11_isCentral_2 : List Nat := qaX11_isCentral_2 ++ qtX11_isCentral_3
def qtX11_isCentral_1 : List Nat := qaX11_isCentral_1 ++ qtX11_isCentral_2
def qtX11_isCentral_0 : List Nat := qaX11_isCentral_0 ++ qtX11_isCentral_1
theorem qeX11_isCentral : cX11_isCentral.data.toList.map UInt8.toNat = qtX11_isCentral_0 := by decide +kernel
theorem qsX11_isCentral_0 : ∀ i, dqNth qtX11_isCentral_0 (0 + i) = dqNth qtX11_isCentral_0 i := fun i => by rw [Nat.zero_add]
theorem qsX11_isCentral_1 : ∀ i, dqNth qtX11_isCentral_0 (16 + i) = dqNth qtX11_isCentral_1 i := dq_step qsX11_isCentral_0 rfl rfl
theorem qsX11_isCentral_2 : ∀ i, dqNth qtX11_isCentral_0 (32 + i) = dqNth qtX11_isCentral_2 i := dq_step qsX11_isCentral_1 rfl rfl
theorem qX11_isCentral_0 (i b : Nat) (h : dqNth qaX11_isCentral_0 i = some b) : DqBy cX11_isCentral (0 + i) b := dqBy_of qeX11_isCentral ((qsX11_isCentral_0 i).trans (dq_in h))
theorem qX11_isCentral_1 (i b : Nat) (h : dqNth qaX11_isCentral_1 i = some b) : DqBy cX11_isCentral (16 + i) b := dqBy_of qeX11_isCentral ((qsX11_isCentral_1 i).trans (dq_in h))
theorem qX11_isCentral_2 (i b : Nat) (h : dqNth qaX11_isCentral_2 i = some b) : DqBy cX11_isCentral (32 + i) b := dqBy_of qeX11_isCentral ((qsX11_isCentral_2 i).trans (dq_in h))
theorem dX11_isCentral_0 : decode cX11_isCentral 0 = .ok (.iconst 0, 1) := @dq_o3 cX11_isCentral 0 (qX11_isCentral_0 0 3 rfl)
theorem dX11_isCentral_1 : decode cX11_isCentral 1 = .ok (.istore_n 3, 1) := @dq_o62 cX11_isCentral 1 (qX11_isCentral_0 1 62 rfl)
theorem dX11_isCentral_2 : decode cX11_isCentral 2 = .ok (.iload_n 3, 1) := @dq_o29 cX11_isCentral 2 (qX11_isCentral_0 2 29 rfl)
theorem dX11_isCentral_3 : decode cX11_isCentral 3 = .ok (.aload_n 0, 1) := @dq_o42 cX11_isCentral 3 (qX11_isCentral_0 3 42 rfl)
theorem dX11_isCentral_4 : decode cX11_isCentral 4 = .ok (.invokevirtual 88, 3) := @dq_o182 cX11_isCentral 4 0 88 (qX11_isCentral_0 4 182 rfl) (qX11_isCentral_0 5 0 rfl) (qX11_isCentral_0 6 88 rfl)
theorem dX11_isCentral_7 : decode cX11_isCentral 7 = .ok (.if_icmp .ge 35, 3) := @dq_o162 cX11_isCentral 7 0 35 (qX11_isCentral_0 7 162 rfl) (qX11_isCentral_0 8 0 rfl) (qX11_isCentral_0 9 35 rfl)
theorem dX11_isCentral_10 : decode cX11_isCentral 10 = .ok (.aload_n 0, 1) := @dq_o42 cX11_isCentral 10 (qX11_isCentral_0 10 42 rfl)
theorem dX11_isCentral_11 : decode cX11_isCentral 11 = .ok (.iload_n 2, 1) := @dq_o28 cX11_isCentral 11 (qX11_isCentral_0 11 28 rfl)
theorem dX11_isCentral_12 : decode cX11_isCentral 12 = .ok (.invokevirtual 190, 3) := @dq_o182 cX11_isCentral 12 0 190 (qX11_isCentral_0 12 182 rfl) (qX11_isCentral_0 13 0 rfl) (qX11_isCentral_0 14 190 rfl)
theorem dX11_isCentral_15 : decode cX11_isCentral 15 = .ok (.aload_n 0, 1) := @dq_o42 cX11_isCentral 15 (qX11_isCentral_0 15 42 rfl)
theorem dX11_isCentral_16 : decode cX11_isCentral 16 = .ok (.iload_n 2, 1) := @dq_o28 cX11_isCentral 16 (qX11_isCentral_1 0 28 rfl)
theorem dX11_isCentral_17 : decode cX11_isCentral 17 = .ok (.iload_n 3, 1) := @dq_o29 cX11_isCentral 17 (qX11_isCentral_1 1 29 rfl)
theorem dX11_isCentral_18 : decode cX11_isCentral 18 = .ok (.lconst 1, 1) := @dq_o10 cX11_isCentral 18 (qX11_isCentral_1 2 10 rfl)
theorem dX11_isCentral_19 : decode cX11_isCentral 19 = .ok (.invokevirtual 162, 3) := @dq_o182 cX11_isCentral 19 0 162 (qX11_isCentral_1 3 182 rfl) (qX11_isCentral_1 4 0 rfl) (qX11_isCentral_1 5 162 rfl)
theorem dX11_isCentral_22 : decode cX11_isCentral 22 = .ok (.aload_n 0, 1) := @dq_o42 cX11_isCentral 22 (qX11_isCentral_1 6 42 rfl)
theorem dX11_isCentral_23 : decode cX11_isCentral 23 = .ok (.iload_n 1, 1) := @dq_o27 cX11_isCentral 23 (qX11_isCentral_1 7 27 rfl)
theorem dX11_isCentral_24 : decode cX11_isCentral 24 = .ok (.iload_n 2, 1) := @dq_o28 cX11_isCentral 24 (qX11_isCentral_1 8 28 rfl)
theorem dX11_isCentral_25 : decode cX11_isCentral 25 = .ok (.iload_n 2, 1) := @dq_o28 cX11_isCentral 25 (qX11_isCentral_1 9 28 rfl)
theorem dX11_isCentral_26 : decode cX11_isCentral 26 = .ok (.iconst 1, 1) := @dq_o4 cX11_isCentral 26 (qX11_isCentral_1 10 4 rfl)
theorem dX11_isCentral_27 : decode cX11_isCentral 27 = .ok (.iadd, 1) := @dq_o96 cX11_isCentral 27 (qX11_isCentral_1 11 96 rfl)
theorem dX11_isCentral_28 : decode cX11_isCentral 28 = .ok (.invokevirtual 340, 3) := @dq_o182 cX11_isCentral 28 1 84 (qX11_isCentral_1 12 182 rfl) (qX11_isCentral_1 13 1 rfl) (qX11_isCentral_1 14 84 rfl)
theorem dX11_isCentral_31 : decode cX11_isCentral 31 = .ok (.ifCond .ne 5, 3) := @dq_o154 cX11_isCentral 31 0 5 (qX11_isCentral_1 15 154 rfl) (qX11_isCentral_2 0 0 rfl) (qX11_isCentral_2 1 5 rfl)
theorem dX11_isCentral_34 : decode cX11_isCentral 34 = .ok (.iconst 0, 1) := @dq_o3 cX11_isCentral 34 (qX11_isCentral_2 2 3 rfl)
theorem dX11_isCentral_35 : decode cX11_isCentral 35 = .ok (.ireturn, 1) := @dq_o172 cX11_isCentral 35 (qX11_isCentral_2 3 172 rfl)
theorem dX11_isCentral_36 : decode cX11_isCentral 36 = .ok (.iinc 3 1, 3) := @dq_o132 cX11_isCentral 36 3 1 (qX11_isCentral_2 4 132 rfl) (qX11_isCentral_2 5 3 rfl) (qX11_isCentral_2 6 1 rfl)
theorem dX11_isCentral_39 : decode cX11_isCentral 39 = .ok (.goto (-37), 3) := @dq_o167 cX11_isCentral 39 255 219 (qX11_isCentral_2 7 167 rfl) (qX11_isCentral_2 8 255 rfl) (qX11_isCentral_2 9 219 rfl)
theorem dX11_isCentral_42 : decode cX11_isCentral 42 = .ok (.iconst 1, 1) := @dq_o4 cX11_isCentral 42 (qX11_isCentral_2 10 4 rfl)
theorem dX11_isCentral_43 : decode cX11_isCentral 43 = .ok (.ireturn, 1) := @dq_o172 cX11_isCentral 43 (qX11_isCentral_2 11 172 rfl)
abbrev qaX11_isCentralLetter_0 : List Nat := [42, 3, 182, 0, 190, 42, 3, 27, 10, 182, 0, 162, 42, 3, 4, 182]
abbrev qaX11_isCentralLetter_1 : List Nat := [1, 87, 172]
def qtX11_isCentralLetter_2 : List Nat := []
def qtX11_isCentralLetter_1 : List Nat := qaX11_isCentralLetter_1 ++ qtX11_isCentralLetter_2
def qtX11_isCentralLetter_0 : List Nat := qaX11_isCentralLetter_0 ++ qtX11_isCentralLetter_1
theorem qeX11_isCentralLetter : cX11_isCentralLetter.data.toList.map UInt8.toNat = qtX11_isCentralLetter_0 := by decide +kernel
theorem qsX11_isCentralLetter_0 : ∀ i, dqNth qtX11_isCentralLetter_0 (0 + i) = dqNth qtX11_isCentralLetter_0 i := fun i => by rw [Nat.zero_add]
theorem qsX11_isCentralLetter_1 : ∀ i, dqNth qtX11_isCentralLetter_0 (16 + i) = dqNth qtX11_isCentralLetter_1 i := dq_step qsX11_isCentralLetter_0 rfl rfl
theorem qX11_isCentralLetter_0 (i b : Nat) (h : dqNth qaX11_isCentralLetter_0 i = some b) : DqBy cX11_isCentralLetter (0 + i) b := dqBy_of qeX11_isCentralLetter ((qsX11_isCentralLetter_0 i).trans (dq_in h))
theorem qX11_isCentralLetter_1 (i b : Nat) (h : dqNth qaX11_isCentralLetter_1 i = some b) : DqBy cX11_isCentralLetter (16 + i) b := dqBy_of qeX11_isCentralLetter ((qsX11_isCentralLetter_1 i).trans (dq_in h))
theorem dX11_isCentralLetter_0 : decode cX11_isCentralLetter 0 = .ok (.aload_n 0, 1) := @dq_o42 cX11_isCentralLetter 0 (qX11_isCentralLetter_0 0 42 rfl)
theorem dX11_isCentralLetter_1 : decode cX11_isCentralLetter 1 = .ok (.iconst 0, 1) := @dq_o3 cX11_isCentralLetter 1 (qX11_isCentralLetter_0 1 3 rfl)
theorem dX11_isCentralLetter_2 : decode cX11_isCentralLetter 2 = .ok (.invokevirtual 190, 3) := @dq_o182 cX11_isCentralLetter 2 0 190 (qX11_isCentralLetter_0 2 182 rfl) (qX11_isCentralLetter_0 3 0 rfl) (qX11_isCentralLetter_0 4 190 rfl)
theorem dX11_isCentralLetter_5 : decode cX11_isCentralLetter 5 = .ok (.aload_n 0, 1) := @dq_o42 cX11_isCentralLetter 5 (qX11_isCentralLetter_0 5 42 rfl)
theorem dX11_isCentralLetter_6 : decode cX11_isCentralLetter 6 = .ok (.iconst 0, 1) := @dq_o3 cX11_isCentralLetter 6 (qX11_isCentralLetter_0 6 3 rfl)
theorem dX11_isCentralLetter_7 : decode cX11_isCentralLetter 7 = .ok (.iload_n 1, 1) := @dq_o27 cX11_isCentralLetter 7 (qX11_isCentralLetter_0 7 27 rfl)
theorem dX11_isCentralLetter_8 : decode cX11_isCentralLetter 8 = .ok (.lconst 1, 1) := @dq_o10 cX11_isCentralLetter 8 (qX11_isCentralLetter_0 8 10 rfl)
theorem dX11_isCentralLetter_9 : decode cX11_isCentralLetter 9 = .ok (.invokevirtual 162, 3) := @dq_o182 cX11_isCentralLetter 9 0 162 (qX11_isCentralLetter_0 9 182 rfl) (qX11_isCentralLetter_0 10 0 rfl) (qX11_isCentralLetter_0 11 162 rfl)
theorem dX11_isCentralLetter_12 : decode cX11_isCentralLetter 12 = .ok (.aload_n 0, 1) := @dq_o42 cX11_isCentralLetter 12 (qX11_isCentralLetter_0 12 42 rfl)
theorem dX11_isCentralLetter_13 : decode cX11_isCentralLetter 13 = .ok (.iconst 0, 1) := @dq_o3 cX11_isCentralLetter 13 (qX11_isCentralLetter_0 13 3 rfl)
theorem dX11_isCentralLetter_14 : decode cX11_isCentralLetter 14 = .ok (.iconst 1, 1) := @dq_o4 cX11_isCentralLetter 14 (qX11_isCentralLetter_0 14 4 rfl)
theorem dX11_isCentralLetter_15 : decode cX11_isCentralLetter 15 = .ok (.invokevirtual 343, 3) := @dq_o182 cX11_isCentralLetter 15 1 87 (qX11_isCentralLetter_0 15 182 rfl) (qX11_isCentralLetter_1 0 1 rfl) (qX11_isCentralLetter_1 1 87 rfl)
theorem dX11_isCentralLetter_18 : decode cX11_isCentralLetter 18 = .ok (.ireturn, 1) := @dq_o172 cX11_isCentralLetter 18 (qX11_isCentralLetter_1 2 172 rfl)
abbrev qaX11_generator_0 : List Nat := [42, 3, 181, 0, 1, 42, 27, 133, 10, 42, 182, 0, 88, 133, 182, 0]
abbrev qaX11_generator_1 : List Nat := [101, 154, 0, 5, 2, 172, 28, 154, 0, 11, 42, 27, 4, 100, 182, 0]
abbrev qaX11_generator_2 : List Nat := [92, 172, 28, 4, 160, 0, 28, 42, 182, 0, 235, 153, 0, 21, 42, 27]
abbrev qaX11_generator_3 : List Nat := [4, 100, 182, 1, 90, 153, 0, 7, 4, 167, 0, 8, 3, 167, 0, 4]
abbrev qaX11_generator_4 : List Nat := [2, 172]
def qtX11_generator_5 : List Nat := []
def qtX11_generator_4 : List Nat := qaX11_generator_4 ++ qtX11_generator_5
def qtX11_generator_3 : List Nat := qaX11_generator_3 ++ qtX11_generator_4
def qtX11_generator_2 : List Nat := qaX11_generator_2 ++ qtX11_generator_3
def qtX11_generator_1 : List Nat := qaX11_generator_1 ++ qtX11_generator_2
def qtX11_generator_0 : List Nat := qaX11_generator_0 ++ qtX11_generator_1
theorem qeX11_generator : cX11_generator.data.toList.map UInt8.toNat = qtX11_generator_0 := by decide +kernel
theorem qsX11_generator_0 : ∀ i, dqNth qtX11_generator_0 (0 + i) = dqNth qtX11_generator_0 i := fun i => by rw [Nat.zero_add]
theorem qsX11_generator_1 : ∀ i, dqNth qtX11_generator_0 (16 + i) = dqNth qtX11_generator_1 i := dq_step qsX11_generator_0 rfl rfl
theorem qsX11_generator_2 : ∀ i, dqNth qtX11_generator_0 (32 + i) = dqNth qtX11_generator_2 i := dq_step qsX11_generator_1 rfl rfl
