theorem qsX11_generator_3 : ∀ i, dqNth qtX11_generator_0 (48 + i) = dqNth qtX11_generator_3 i := dq_step qsX11_generator_2 rfl rfl
theorem qsX11_generator_4 : ∀ i, dqNth qtX11_generator_0 (64 + i) = dqNth qtX11_generator_4 i := dq_step qsX11_generator_3 rfl rfl
theorem qX11_generator_0 (i b : Nat) (h : dqNth qaX11_generator_0 i = some b) : DqBy cX11_generator (0 + i) b := dqBy_of qeX11_generator ((qsX11_generator_0 i).trans (dq_in h))
theorem qX11_generator_1 (i b : Nat) (h : dqNth qaX11_generator_1 i = some b) : DqBy cX11_generator (16 + i) b := dqBy_of qeX11_generator ((qsX11_generator_1 i).trans (dq_in h))
theorem qX11_generator_2 (i b : Nat) (h : dqNth qaX11_generator_2 i = some b) : DqBy cX11_generator (32 + i) b := dqBy_of qeX11_generator ((qsX11_generator_2 i).trans (dq_in h))
theorem qX11_generator_3 (i b : Nat) (h : dqNth qaX11_generator_3 i = some b) : DqBy cX11_generator (48 + i) b := dqBy_of qeX11_generator ((qsX11_generator_3 i).trans (dq_in h))
theorem qX11_generator_4 (i b : Nat) (h : dqNth qaX11_generator_4 i = some b) : DqBy cX11_generator (64 + i) b := dqBy_of qeX11_generator ((qsX11_generator_4 i).trans (dq_in h))
theorem dX11_generator_0 : decode cX11_generator 0 = .ok (.aload_n 0, 1) := @dq_o42 cX11_generator 0 (qX11_generator_0 0 42 rfl)
theorem dX11_generator_1 : decode cX11_generator 1 = .ok (.iconst 0, 1) := @dq_o3 cX11_generator 1 (qX11_generator_0 1 3 rfl)
theorem dX11_generator_2 : decode cX11_generator 2 = .ok (.putfield 1, 3) := @dq_o181 cX11_generator 2 0 1 (qX11_generator_0 2 181 rfl) (qX11_generator_0 3 0 rfl) (qX11_generator_0 4 1 rfl)
theorem dX11_generator_5 : decode cX11_generator 5 = .ok (.aload_n 0, 1) := @dq_o42 cX11_generator 5 (qX11_generator_0 5 42 rfl)
theorem dX11_generator_6 : decode cX11_generator 6 = .ok (.iload_n 1, 1) := @dq_o27 cX11_generator 6 (qX11_generator_0 6 27 rfl)
theorem dX11_generator_7 : decode cX11_generator 7 = .ok (.i2l, 1) := @dq_o133 cX11_generator 7 (qX11_generator_0 7 133 rfl)
theorem dX11_generator_8 : decode cX11_generator 8 = .ok (.lconst 1, 1) := @dq_o10 cX11_generator 8 (qX11_generator_0 8 10 rfl)
theorem dX11_generator_9 : decode cX11_generator 9 = .ok (.aload_n 0, 1) := @dq_o42 cX11_generator 9 (qX11_generator_0 9 42 rfl)
theorem dX11_generator_10 : decode cX11_generator 10 = .ok (.invokevirtual 88, 3) := @dq_o182 cX11_generator 10 0 88 (qX11_generator_0 10 182 rfl) (qX11_generator_0 11 0 rfl) (qX11_generator_0 12 88 rfl)
theorem dX11_generator_13 : decode cX11_generator 13 = .ok (.i2l, 1) := @dq_o133 cX11_generator 13 (qX11_generator_0 13 133 rfl)
theorem dX11_generator_14 : decode cX11_generator 14 = .ok (.invokevirtual 101, 3) := @dq_o182 cX11_generator 14 0 101 (qX11_generator_0 14 182 rfl) (qX11_generator_0 15 0 rfl) (qX11_generator_1 0 101 rfl)
theorem dX11_generator_17 : decode cX11_generator 17 = .ok (.ifCond .ne 5, 3) := @dq_o154 cX11_generator 17 0 5 (qX11_generator_1 1 154 rfl) (qX11_generator_1 2 0 rfl) (qX11_generator_1 3 5 rfl)
theorem dX11_generator_20 : decode cX11_generator 20 = .ok (.iconst (-1), 1) := @dq_o2 cX11_generator 20 (qX11_generator_1 4 2 rfl)
theorem dX11_generator_21 : decode cX11_generator 21 = .ok (.ireturn, 1) := @dq_o172 cX11_generator 21 (qX11_generator_1 5 172 rfl)
theorem dX11_generator_22 : decode cX11_generator 22 = .ok (.iload_n 2, 1) := @dq_o28 cX11_generator 22 (qX11_generator_1 6 28 rfl)
theorem dX11_generator_23 : decode cX11_generator 23 = .ok (.ifCond .ne 11, 3) := @dq_o154 cX11_generator 23 0 11 (qX11_generator_1 7 154 rfl) (qX11_generator_1 8 0 rfl) (qX11_generator_1 9 11 rfl)
theorem dX11_generator_26 : decode cX11_generator 26 = .ok (.aload_n 0, 1) := @dq_o42 cX11_generator 26 (qX11_generator_1 10 42 rfl)
theorem dX11_generator_27 : decode cX11_generator 27 = .ok (.iload_n 1, 1) := @dq_o27 cX11_generator 27 (qX11_generator_1 11 27 rfl)
theorem dX11_generator_28 : decode cX11_generator 28 = .ok (.iconst 1, 1) := @dq_o4 cX11_generator 28 (qX11_generator_1 12 4 rfl)
theorem dX11_generator_29 : decode cX11_generator 29 = .ok (.isub, 1) := @dq_o100 cX11_generator 29 (qX11_generator_1 13 100 rfl)
theorem dX11_generator_30 : decode cX11_generator 30 = .ok (.invokevirtual 92, 3) := @dq_o182 cX11_generator 30 0 92 (qX11_generator_1 14 182 rfl) (qX11_generator_1 15 0 rfl) (qX11_generator_2 0 92 rfl)
theorem dX11_generator_33 : decode cX11_generator 33 = .ok (.ireturn, 1) := @dq_o172 cX11_generator 33 (qX11_generator_2 1 172 rfl)
theorem dX11_generator_34 : decode cX11_generator 34 = .ok (.iload_n 2, 1) := @dq_o28 cX11_generator 34 (qX11_generator_2 2 28 rfl)
theorem dX11_generator_35 : decode cX11_generator 35 = .ok (.iconst 1, 1) := @dq_o4 cX11_generator 35 (qX11_generator_2 3 4 rfl)
theorem dX11_generator_36 : decode cX11_generator 36 = .ok (.if_icmp .ne 28, 3) := @dq_o160 cX11_generator 36 0 28 (qX11_generator_2 4 160 rfl) (qX11_generator_2 5 0 rfl) (qX11_generator_2 6 28 rfl)
theorem dX11_generator_39 : decode cX11_generator 39 = .ok (.aload_n 0, 1) := @dq_o42 cX11_generator 39 (qX11_generator_2 7 42 rfl)
theorem dX11_generator_40 : decode cX11_generator 40 = .ok (.invokevirtual 235, 3) := @dq_o182 cX11_generator 40 0 235 (qX11_generator_2 8 182 rfl) (qX11_generator_2 9 0 rfl) (qX11_generator_2 10 235 rfl)
theorem dX11_generator_43 : decode cX11_generator 43 = .ok (.ifCond .eq 21, 3) := @dq_o153 cX11_generator 43 0 21 (qX11_generator_2 11 153 rfl) (qX11_generator_2 12 0 rfl) (qX11_generator_2 13 21 rfl)
theorem dX11_generator_46 : decode cX11_generator 46 = .ok (.aload_n 0, 1) := @dq_o42 cX11_generator 46 (qX11_generator_2 14 42 rfl)
theorem dX11_generator_47 : decode cX11_generator 47 = .ok (.iload_n 1, 1) := @dq_o27 cX11_generator 47 (qX11_generator_2 15 27 rfl)
theorem dX11_generator_48 : decode cX11_generator 48 = .ok (.iconst 1, 1) := @dq_o4 cX11_generator 48 (qX11_generator_3 0 4 rfl)
theorem dX11_generator_49 : decode cX11_generator 49 = .ok (.isub, 1) := @dq_o100 cX11_generator 49 (qX11_generator_3 1 100 rfl)
theorem dX11_generator_50 : decode cX11_generator 50 = .ok (.invokevirtual 346, 3) := @dq_o182 cX11_generator 50 1 90 (qX11_generator_3 2 182 rfl) (qX11_generator_3 3 1 rfl) (qX11_generator_3 4 90 rfl)
theorem dX11_generator_53 : decode cX11_generator 53 = .ok (.ifCond .eq 7, 3) := @dq_o153 cX11_generator 53 0 7 (qX11_generator_3 5 153 rfl) (qX11_generator_3 6 0 rfl) (qX11_generator_3 7 7 rfl)
theorem dX11_generator_56 : decode cX11_generator 56 = .ok (.iconst 1, 1) := @dq_o4 cX11_generator 56 (qX11_generator_3 8 4 rfl)
theorem dX11_generator_57 : decode cX11_generator 57 = .ok (.goto 8, 3) := @dq_o167 cX11_generator 57 0 8 (qX11_generator_3 9 167 rfl) (qX11_generator_3 10 0 rfl) (qX11_generator_3 11 8 rfl)
theorem dX11_generator_60 : decode cX11_generator 60 = .ok (.iconst 0, 1) := @dq_o3 cX11_generator 60 (qX11_generator_3 12 3 rfl)
theorem dX11_generator_61 : decode cX11_generator 61 = .ok (.goto 4, 3) := @dq_o167 cX11_generator 61 0 4 (qX11_generator_3 13 167 rfl) (qX11_generator_3 14 0 rfl) (qX11_generator_3 15 4 rfl)
theorem dX11_generator_64 : decode cX11_generator 64 = .ok (.iconst (-1), 1) := @dq_o2 cX11_generator 64 (qX11_generator_4 0 2 rfl)
theorem dX11_generator_65 : decode cX11_generator 65 = .ok (.ireturn, 1) := @dq_o172 cX11_generator 65 (qX11_generator_4 1 172 rfl)
abbrev qaX11_tailOf_0 : List Nat := [42, 3, 181, 0, 1, 42, 27, 28, 29, 182, 0, 114, 153, 0, 19, 42]
abbrev qaX11_tailOf_1 : List Nat := [27, 4, 100, 28, 4, 100, 29, 4, 100, 182, 0, 130, 167, 0, 4, 2]
abbrev qaX11_tailOf_2 : List Nat := [172]
def qtX11_tailOf_3 : List Nat := []
def qtX11_tailOf_2 : List Nat := qaX11_tailOf_2 ++ qtX11_tailOf_3
def qtX11_tailOf_1 : List Nat := qaX11_tailOf_1 ++ qtX11_tailOf_2
def qtX11_tailOf_0 : List Nat := qaX11_tailOf_0 ++ qtX11_tailOf_1
theorem qeX11_tailOf : cX11_tailOf.data.toList.map UInt8.toNat = qtX11_tailOf_0 := by decide +kernel
theorem qsX11_tailOf_0 : ∀ i, dqNth qtX11_tailOf_0 (0 + i) = dqNth qtX11_tailOf_0 i := fun i => by rw [Nat.zero_add]
theorem qsX11_tailOf_1 : ∀ i, dqNth qtX11_tailOf_0 (16 + i) = dqNth qtX11_tailOf_1 i := dq_step qsX11_tailOf_0 rfl rfl
theorem qsX11_tailOf_2 : ∀ i, dqNth qtX11_tailOf_0 (32 + i) = dqNth qtX11_tailOf_2 i := dq_step qsX11_tailOf_1 rfl rfl
theorem qX11_tailOf_0 (i b : Nat) (h : dqNth qaX11_tailOf_0 i = some b) : DqBy cX11_tailOf (0 + i) b := dqBy_of qeX11_tailOf ((qsX11_tailOf_0 i).trans (dq_in h))
theorem qX11_tailOf_1 (i b : Nat) (h : dqNth qaX11_tailOf_1 i = some b) : DqBy cX11_tailOf (16 + i) b := dqBy_of qeX11_tailOf ((qsX11_tailOf_1 i).trans (dq_in h))
theorem qX11_tailOf_2 (i b : Nat) (h : dqNth qaX11_tailOf_2 i = some b) : DqBy cX11_tailOf (32 + i) b := dqBy_of qeX11_tailOf ((qsX11_tailOf_2 i).trans (dq_in h))
theorem dX11_tailOf_0 : decode cX11_tailOf 0 = .ok (.aload_n 0, 1) := @dq_o42 cX11_tailOf 0 (qX11_tailOf_0 0 42 rfl)
theorem dX11_tailOf_1 : decode cX11_tailOf 1 = .ok (.iconst 0, 1) := @dq_o3 cX11_tailOf 1 (qX11_tailOf_0 1 3 rfl)
theorem dX11_tailOf_2 : decode cX11_tailOf 2 = .ok (.putfield 1, 3) := @dq_o181 cX11_tailOf 2 0 1 (qX11_tailOf_0 2 181 rfl) (qX11_tailOf_0 3 0 rfl) (qX11_tailOf_0 4 1 rfl)
theorem dX11_tailOf_5 : decode cX11_tailOf 5 = .ok (.aload_n 0, 1) := @dq_o42 cX11_tailOf 5 (qX11_tailOf_0 5 42 rfl)
theorem dX11_tailOf_6 : decode cX11_tailOf 6 = .ok (.iload_n 1, 1) := @dq_o27 cX11_tailOf 6 (qX11_tailOf_0 6 27 rfl)
theorem dX11_tailOf_7 : decode cX11_tailOf 7 = .ok (.iload_n 2, 1) := @dq_o28 cX11_tailOf 7 (qX11_tailOf_0 7 28 rfl)
theorem dX11_tailOf_8 : decode cX11_tailOf 8 = .ok (.iload_n 3, 1) := @dq_o29 cX11_tailOf 8 (qX11_tailOf_0 8 29 rfl)
theorem dX11_tailOf_9 : decode cX11_tailOf 9 = .ok (.invokevirtual 114, 3) := @dq_o182 cX11_tailOf 9 0 114 (qX11_tailOf_0 9 182 rfl) (qX11_tailOf_0 10 0 rfl) (qX11_tailOf_0 11 114 rfl)
theorem dX11_tailOf_12 : decode cX11_tailOf 12 = .ok (.ifCond .eq 19, 3) := @dq_o153 cX11_tailOf 12 0 19 (qX11_tailOf_0 12 153 rfl) (qX11_tailOf_0 13 0 rfl) (qX11_tailOf_0 14 19 rfl)
theorem dX11_tailOf_15 : decode cX11_tailOf 15 = .ok (.aload_n 0, 1) := @dq_o42 cX11_tailOf 15 (qX11_tailOf_0 15 42 rfl)
theorem dX11_tailOf_16 : decode cX11_tailOf 16 = .ok (.iload_n 1, 1) := @dq_o27 cX11_tailOf 16 (qX11_tailOf_1 0 27 rfl)
theorem dX11_tailOf_17 : decode cX11_tailOf 17 = .ok (.iconst 1, 1) := @dq_o4 cX11_tailOf 17 (qX11_tailOf_1 1 4 rfl)
theorem dX11_tailOf_18 : decode cX11_tailOf 18 = .ok (.isub, 1) := @dq_o100 cX11_tailOf 18 (qX11_tailOf_1 2 100 rfl)
theorem dX11_tailOf_19 : decode cX11_tailOf 19 = .ok (.iload_n 2, 1) := @dq_o28 cX11_tailOf 19 (qX11_tailOf_1 3 28 rfl)
theorem dX11_tailOf_20 : decode cX11_tailOf 20 = .ok (.iconst 1, 1) := @dq_o4 cX11_tailOf 20 (qX11_tailOf_1 4 4 rfl)
theorem dX11_tailOf_21 : decode cX11_tailOf 21 = .ok (.isub, 1) := @dq_o100 cX11_tailOf 21 (qX11_tailOf_1 5 100 rfl)
theorem dX11_tailOf_22 : decode cX11_tailOf 22 = .ok (.iload_n 3, 1) := @dq_o29 cX11_tailOf 22 (qX11_tailOf_1 6 29 rfl)
theorem dX11_tailOf_23 : decode cX11_tailOf 23 = .ok (.iconst 1, 1) := @dq_o4 cX11_tailOf 23 (qX11_tailOf_1 7 4 rfl)
theorem dX11_tailOf_24 : decode cX11_tailOf 24 = .ok (.isub, 1) := @dq_o100 cX11_tailOf 24 (qX11_tailOf_1 8 100 rfl)
theorem dX11_tailOf_25 : decode cX11_tailOf 25 = .ok (.invokevirtual 130, 3) := @dq_o182 cX11_tailOf 25 0 130 (qX11_tailOf_1 9 182 rfl) (qX11_tailOf_1 10 0 rfl) (qX11_tailOf_1 11 130 rfl)
theorem dX11_tailOf_28 : decode cX11_tailOf 28 = .ok (.goto 4, 3) := @dq_o167 cX11_tailOf 28 0 4 (qX11_tailOf_1 12 167 rfl) (qX11_tailOf_1 13 0 rfl) (qX11_tailOf_1 14 4 rfl)
theorem dX11_tailOf_31 : decode cX11_tailOf 31 = .ok (.iconst (-1), 1) := @dq_o2 cX11_tailOf 31 (qX11_tailOf_1 15 2 rfl)
theorem dX11_tailOf_32 : decode cX11_tailOf 32 = .ok (.ireturn, 1) := @dq_o172 cX11_tailOf 32 (qX11_tailOf_2 0 172 rfl)
abbrev qaX11_isPolynomial_0 : List Nat := [42, 27, 133, 10, 42, 182, 0, 88, 133, 182, 0, 101, 153, 0, 14, 42]
abbrev qaX11_isPolynomial_1 : List Nat := [182, 0, 235, 153, 0, 7, 4, 167, 0, 4, 3, 172]
def qtX11_isPolynomial_2 : List Nat := []
def qtX11_isPolynomial_1 : List Nat := qaX11_isPolynomial_1 ++ qtX11_isPolynomial_2
def qtX11_isPolynomial_0 : List Nat := qaX11_isPolynomial_0 ++ qtX11_isPolynomial_1
theorem qeX11_isPolynomial : cX11_isPolynomial.data.toList.map UInt8.toNat = qtX11_isPolynomial_0 := by decide +kernel
theorem qsX11_isPolynomial_0 : ∀ i, dqNth qtX11_isPolynomial_0 (0 + i) = dqNth qtX11_isPolynomial_0 i := fun i => by rw [Nat.zero_add]
theorem qsX11_isPolynomial_1 : ∀ i, dqNth qtX11_isPolynomial_0 (16 + i) = dqNth qtX11_isPolynomial_1 i := dq_step qsX11_isPolynomial_0 rfl rfl
theorem qX11_isPolynomial_0 (i b : Nat) (h : dqNth qaX11_isPolynomial_0 i = some b) : DqBy cX11_isPolynomial (0 + i) b := dqBy_of qeX11_isPolynomial ((qsX11_isPolynomial_0 i).trans (dq_in h))
theorem qX11_isPolynomial_1 (i b : Nat) (h : dqNth qaX11_isPolynomial_1 i = some b) : DqBy cX11_isPolynomial (16 + i) b := dqBy_of qeX11_isPolynomial ((qsX11_isPolynomial_1 i).trans (dq_in h))
theorem dX11_isPolynomial_0 : decode cX11_isPolynomial 0 = .ok (.aload_n 0, 1) := @dq_o42 cX11_isPolynomial 0 (qX11_isPolynomial_0 0 42 rfl)
theorem dX11_isPolynomial_1 : decode cX11_isPolynomial 1 = .ok (.iload_n 1, 1) := @dq_o27 cX11_isPolynomial 1 (qX11_isPolynomial_0 1 27 rfl)
theorem dX11_isPolynomial_2 : decode cX11_isPolynomial 2 = .ok (.i2l, 1) := @dq_o133 cX11_isPolynomial 2 (qX11_isPolynomial_0 2 133 rfl)
theorem dX11_isPolynomial_3 : decode cX11_isPolynomial 3 = .ok (.lconst 1, 1) := @dq_o10 cX11_isPolynomial 3 (qX11_isPolynomial_0 3 10 rfl)
theorem dX11_isPolynomial_4 : decode cX11_isPolynomial 4 = .ok (.aload_n 0, 1) := @dq_o42 cX11_isPolynomial 4 (qX11_isPolynomial_0 4 42 rfl)
theorem dX11_isPolynomial_5 : decode cX11_isPolynomial 5 = .ok (.invokevirtual 88, 3) := @dq_o182 cX11_isPolynomial 5 0 88 (qX11_isPolynomial_0 5 182 rfl) (qX11_isPolynomial_0 6 0 rfl) (qX11_isPolynomial_0 7 88 rfl)
theorem dX11_isPolynomial_8 : decode cX11_isPolynomial 8 = .ok (.i2l, 1) := @dq_o133 cX11_isPolynomial 8 (qX11_isPolynomial_0 8 133 rfl)
theorem dX11_isPolynomial_9 : decode cX11_isPolynomial 9 = .ok (.invokevirtual 101, 3) := @dq_o182 cX11_isPolynomial 9 0 101 (qX11_isPolynomial_0 9 182 rfl) (qX11_isPolynomial_0 10 0 rfl) (qX11_isPolynomial_0 11 101 rfl)
theorem dX11_isPolynomial_12 : decode cX11_isPolynomial 12 = .ok (.ifCond .eq 14, 3) := @dq_o153 cX11_isPolynomial 12 0 14 (qX11_isPolynomial_0 12 153 rfl) (qX11_isPolynomial_0 13 0 rfl) (qX11_isPolynomial_0 14 14 rfl)
theorem dX11_isPolynomial_15 : decode cX11_isPolynomial 15 = .ok (.aload_n 0, 1) := @dq_o42 cX11_isPolynomial 15 (qX11_isPolynomial_0 15 42 rfl)
theorem dX11_isPolynomial_16 : decode cX11_isPolynomial 16 = .ok (.invokevirtual 235, 3) := @dq_o182 cX11_isPolynomial 16 0 235 (qX11_isPolynomial_1 0 182 rfl) (qX11_isPolynomial_1 1 0 rfl) (qX11_isPolynomial_1 2 235 rfl)
theorem dX11_isPolynomial_19 : decode cX11_isPolynomial 19 = .ok (.ifCond .eq 7, 3) := @dq_o153 cX11_isPolynomial 19 0 7 (qX11_isPolynomial_1 3 153 rfl) (qX11_isPolynomial_1 4 0 rfl) (qX11_isPolynomial_1 5 7 rfl)
theorem dX11_isPolynomial_22 : decode cX11_isPolynomial 22 = .ok (.iconst 1, 1) := @dq_o4 cX11_isPolynomial 22 (qX11_isPolynomial_1 6 4 rfl)
theorem dX11_isPolynomial_23 : decode cX11_isPolynomial 23 = .ok (.goto 4, 3) := @dq_o167 cX11_isPolynomial 23 0 4 (qX11_isPolynomial_1 7 167 rfl) (qX11_isPolynomial_1 8 0 rfl) (qX11_isPolynomial_1 9 4 rfl)
theorem dX11_isPolynomial_26 : decode cX11_isPolynomial 26 = .ok (.iconst 0, 1) := @dq_o3 cX11_isPolynomial 26 (qX11_isPolynomial_1 10 3 rfl)
theorem dX11_isPolynomial_27 : decode cX11_isPolynomial 27 = .ok (.ireturn, 1) := @dq_o172 cX11_isPolynomial 27 (qX11_isPolynomial_1 11 172 rfl)
abbrev qaX11_terms_0 : List Nat := [42, 3, 181, 0, 1, 42, 27, 182, 1, 93, 153, 0, 14, 42, 180, 0]
abbrev qaX11_terms_1 : List Nat := [26, 27, 4, 100, 46, 167, 0, 4, 2, 172]
def qtX11_terms_2 : List Nat := []
def qtX11_terms_1 : List Nat := qaX11_terms_1 ++ qtX11_terms_2
def qtX11_terms_0 : List Nat := qaX11_terms_0 ++ qtX11_terms_1
theorem qeX11_terms : cX11_terms.data.toList.map UInt8.toNat = qtX11_terms_0 := by decide +kernel
theorem qsX11_terms_0 : ∀ i, dqNth qtX11_terms_0 (0 + i) = dqNth qtX11_terms_0 i := fun i => by rw [Nat.zero_add]
theorem qsX11_terms_1 : ∀ i, dqNth qtX11_terms_0 (16 + i) = dqNth qtX11_terms_1 i := dq_step qsX11_terms_0 rfl rfl
theorem qX11_terms_0 (i b : Nat) (h : dqNth qaX11_terms_0 i = some b) : DqBy cX11_terms (0 + i) b := dqBy_of qeX11_terms ((qsX11_terms_0 i).trans (dq_in h))
theorem qX11_terms_1 (i b : Nat) (h : dqNth qaX11_terms_1 i = some b) : DqBy cX11_terms (16 + i) b := dqBy_of qeX11_terms ((qsX11_terms_1 i).trans (dq_in h))
theorem dX11_terms_0 : decode cX11_terms 0 = .ok (.aload_n 0, 1) := @dq_o42 cX11_terms 0 (qX11_terms_0 0 42 rfl)
theorem dX11_terms_1 : decode cX11_terms 1 = .ok (.iconst 0, 1) := @dq_o3 cX11_terms 1 (qX11_terms_0 1 3 rfl)
theorem dX11_terms_2 : decode cX11_terms 2 = .ok (.putfield 1, 3) := @dq_o181 cX11_terms 2 0 1 (qX11_terms_0 2 181 rfl) (qX11_terms_0 3 0 rfl) (qX11_terms_0 4 1 rfl)
theorem dX11_terms_5 : decode cX11_terms 5 = .ok (.aload_n 0, 1) := @dq_o42 cX11_terms 5 (qX11_terms_0 5 42 rfl)
theorem dX11_terms_6 : decode cX11_terms 6 = .ok (.iload_n 1, 1) := @dq_o27 cX11_terms 6 (qX11_terms_0 6 27 rfl)
theorem dX11_terms_7 : decode cX11_terms 7 = .ok (.invokevirtual 349, 3) := @dq_o182 cX11_terms 7 1 93 (qX11_terms_0 7 182 rfl) (qX11_terms_0 8 1 rfl) (qX11_terms_0 9 93 rfl)
theorem dX11_terms_10 : decode cX11_terms 10 = .ok (.ifCond .eq 14, 3) := @dq_o153 cX11_terms 10 0 14 (qX11_terms_0 10 153 rfl) (qX11_terms_0 11 0 rfl) (qX11_terms_0 12 14 rfl)
theorem dX11_terms_13 : decode cX11_terms 13 = .ok (.aload_n 0, 1) := @dq_o42 cX11_terms 13 (qX11_terms_0 13 42 rfl)
theorem dX11_terms_14 : decode cX11_terms 14 = .ok (.getfield 26, 3) := @dq_o180 cX11_terms 14 0 26 (qX11_terms_0 14 180 rfl) (qX11_terms_0 15 0 rfl) (qX11_terms_1 0 26 rfl)
theorem dX11_terms_17 : decode cX11_terms 17 = .ok (.iload_n 1, 1) := @dq_o27 cX11_terms 17 (qX11_terms_1 1 27 rfl)
theorem dX11_terms_18 : decode cX11_terms 18 = .ok (.iconst 1, 1) := @dq_o4 cX11_terms 18 (qX11_terms_1 2 4 rfl)
theorem dX11_terms_19 : decode cX11_terms 19 = .ok (.isub, 1) := @dq_o100 cX11_terms 19 (qX11_terms_1 3 100 rfl)
theorem dX11_terms_20 : decode cX11_terms 20 = .ok (.iaload, 1) := @dq_o46 cX11_terms 20 (qX11_terms_1 4 46 rfl)
theorem dX11_terms_21 : decode cX11_terms 21 = .ok (.goto 4, 3) := @dq_o167 cX11_terms 21 0 4 (qX11_terms_1 5 167 rfl) (qX11_terms_1 6 0 rfl) (qX11_terms_1 7 4 rfl)
theorem dX11_terms_24 : decode cX11_terms 24 = .ok (.iconst (-1), 1) := @dq_o2 cX11_terms 24 (qX11_terms_1 8 2 rfl)
theorem dX11_terms_25 : decode cX11_terms 25 = .ok (.ireturn, 1) := @dq_o172 cX11_terms 25 (qX11_terms_1 9 172 rfl)
abbrev qaX11_termAt_0 : List Nat := [17, 35, 140, 27, 4, 100, 104, 16, 13, 28, 104, 96, 172]
def qtX11_termAt_1 : List Nat := []
def qtX11_termAt_0 : List Nat := qaX11_termAt_0 ++ qtX11_termAt_1
theorem qeX11_termAt : cX11_termAt.data.toList.map UInt8.toNat = qtX11_termAt_0 := by decide +kernel
theorem qsX11_termAt_0 : ∀ i, dqNth qtX11_termAt_0 (0 + i) = dqNth qtX11_termAt_0 i := fun i => by rw [Nat.zero_add]
theorem qX11_termAt_0 (i b : Nat) (h : dqNth qaX11_termAt_0 i = some b) : DqBy cX11_termAt (0 + i) b := dqBy_of qeX11_termAt ((qsX11_termAt_0 i).trans (dq_in h))
theorem dX11_termAt_0 : decode cX11_termAt 0 = .ok (.sipush 9100, 3) := @dq_o17 cX11_termAt 0 35 140 (qX11_termAt_0 0 17 rfl) (qX11_termAt_0 1 35 rfl) (qX11_termAt_0 2 140 rfl)
theorem dX11_termAt_3 : decode cX11_termAt 3 = .ok (.iload_n 1, 1) := @dq_o27 cX11_termAt 3 (qX11_termAt_0 3 27 rfl)
theorem dX11_termAt_4 : decode cX11_termAt 4 = .ok (.iconst 1, 1) := @dq_o4 cX11_termAt 4 (qX11_termAt_0 4 4 rfl)
theorem dX11_termAt_5 : decode cX11_termAt 5 = .ok (.isub, 1) := @dq_o100 cX11_termAt 5 (qX11_termAt_0 5 100 rfl)
theorem dX11_termAt_6 : decode cX11_termAt 6 = .ok (.imul, 1) := @dq_o104 cX11_termAt 6 (qX11_termAt_0 6 104 rfl)
theorem dX11_termAt_7 : decode cX11_termAt 7 = .ok (.bipush 13, 2) := @dq_o16 cX11_termAt 7 13 (qX11_termAt_0 7 16 rfl) (qX11_termAt_0 8 13 rfl)
theorem dX11_termAt_9 : decode cX11_termAt 9 = .ok (.iload_n 2, 1) := @dq_o28 cX11_termAt 9 (qX11_termAt_0 9 28 rfl)
theorem dX11_termAt_10 : decode cX11_termAt 10 = .ok (.imul, 1) := @dq_o104 cX11_termAt 10 (qX11_termAt_0 10 104 rfl)
theorem dX11_termAt_11 : decode cX11_termAt 11 = .ok (.iadd, 1) := @dq_o96 cX11_termAt 11 (qX11_termAt_0 11 96 rfl)
theorem dX11_termAt_12 : decode cX11_termAt 12 = .ok (.ireturn, 1) := @dq_o172 cX11_termAt 12 (qX11_termAt_0 12 172 rfl)
abbrev qaX11_term_0 : List Nat := [42, 3, 181, 0, 1, 42, 27, 182, 1, 93, 153, 0, 43, 42, 28, 133]
abbrev qaX11_term_1 : List Nat := [9, 42, 180, 0, 26, 27, 4, 100, 46, 133, 10, 101, 182, 0, 101, 153]
abbrev qaX11_term_2 : List Nat := [0, 22, 42, 29, 133, 9, 20, 0, 174, 42, 182, 0, 88, 133, 105, 182]
abbrev qaX11_term_3 : List Nat := [0, 101, 154, 0, 7, 17, 216, 240, 172, 42, 180, 0, 30, 42, 27, 28]
abbrev qaX11_term_4 : List Nat := [182, 1, 96, 29, 96, 47, 136, 172]
def qtX11_term_5 : List Nat := []
def qtX11_term_4 : List Nat := qaX11_term_4 ++ qtX11_term_5
def qtX11_term_3 : List Nat := qaX11_term_3 ++ qtX11_term_4
def qtX11_term_2 : List Nat := qaX11_term_2 ++ qtX11_term_3
def qtX11_term_1 : List Nat := qaX11_term_1 ++ qtX11_term_2
def qtX11_term_0 : List Nat := qaX11_term_0 ++ qtX11_term_1
theorem qeX11_term : cX11_term.data.toList.map UInt8.toNat = qtX11_term_0 := by decide +kernel
theorem qsX11_term_0 : ∀ i, dqNth qtX11_term_0 (0 + i) = dqNth qtX11_term_0 i := fun i => by rw [Nat.zero_add]
theorem qsX11_term_1 : ∀ i, dqNth qtX11_term_0 (16 + i) = dqNth qtX11_term_1 i := dq_step qsX11_term_0 rfl rfl
theorem qsX11_term_2 : ∀ i, dqNth qtX11_term_0 (32 + i) = dqNth qtX11_term_2 i := dq_step qsX11_term_1 rfl rfl
theorem qsX11_term_3 : ∀ i, dqNth qtX11_term_0 (48 + i) = dqNth qtX11_term_3 i := dq_step qsX11_term_2 rfl rfl
theorem qsX11_term_4 : ∀ i, dqNth qtX11_term_0 (64 + i) = dqNth qtX11_term_4 i := dq_step qsX11_term_3 rfl rfl
theorem qX11_term_0 (i b : Nat) (h : dqNth qaX11_term_0 i = some b) : DqBy cX11_term (0 + i) b := dqBy_of qeX11_term ((qsX11_term_0 i).trans (dq_in h))
theorem qX11_term_1 (i b : Nat) (h : dqNth qaX11_term_1 i = some b) : DqBy cX11_term (16 + i) b := dqBy_of qeX11_term ((qsX11_term_1 i).trans (dq_in h))
theorem qX11_term_2 (i b : Nat) (h : dqNth qaX11_term_2 i = some b) : DqBy cX11_term (32 + i) b := dqBy_of qeX11_term ((qsX11_term_2 i).trans (dq_in h))
theorem qX11_term_3 (i b : Nat) (h : dqNth qaX11_term_3 i = some b) : DqBy cX11_term (48 + i) b := dqBy_of qeX11_term ((qsX11_term_3 i).trans (dq_in h))
theorem qX11_term_4 (i b : Nat) (h : dqNth qaX11_term_4 i = some b) : DqBy cX11_term (64 + i) b := dqBy_of qeX11_term ((qsX11_term_4 i).trans (dq_in h))
theorem dX11_term_0 : decode cX11_term 0 = .ok (.aload_n 0, 1) := @dq_o42 cX11_term 0 (qX11_term_0 0 42 rfl)
theorem dX11_term_1 : decode cX11_term 1 = .ok (.iconst 0, 1) := @dq_o3 cX11_term 1 (qX11_term_0 1 3 rfl)
theorem dX11_term_2 : decode cX11_term 2 = .ok (.putfield 1, 3) := @dq_o181 cX11_term 2 0 1 (qX11_term_0 2 181 rfl) (qX11_term_0 3 0 rfl) (qX11_term_0 4 1 rfl)
theorem dX11_term_5 : decode cX11_term 5 = .ok (.aload_n 0, 1) := @dq_o42 cX11_term 5 (qX11_term_0 5 42 rfl)
theorem dX11_term_6 : decode cX11_term 6 = .ok (.iload_n 1, 1) := @dq_o27 cX11_term 6 (qX11_term_0 6 27 rfl)
theorem dX11_term_7 : decode cX11_term 7 = .ok (.invokevirtual 349, 3) := @dq_o182 cX11_term 7 1 93 (qX11_term_0 7 182 rfl) (qX11_term_0 8 1 rfl) (qX11_term_0 9 93 rfl)
theorem dX11_term_10 : decode cX11_term 10 = .ok (.ifCond .eq 43, 3) := @dq_o153 cX11_term 10 0 43 (qX11_term_0 10 153 rfl) (qX11_term_0 11 0 rfl) (qX11_term_0 12 43 rfl)
theorem dX11_term_13 : decode cX11_term 13 = .ok (.aload_n 0, 1) := @dq_o42 cX11_term 13 (qX11_term_0 13 42 rfl)
theorem dX11_term_14 : decode cX11_term 14 = .ok (.iload_n 2, 1) := @dq_o28 cX11_term 14 (qX11_term_0 14 28 rfl)
theorem dX11_term_15 : decode cX11_term 15 = .ok (.i2l, 1) := @dq_o133 cX11_term 15 (qX11_term_0 15 133 rfl)
theorem dX11_term_16 : decode cX11_term 16 = .ok (.lconst 0, 1) := @dq_o9 cX11_term 16 (qX11_term_1 0 9 rfl)
theorem dX11_term_17 : decode cX11_term 17 = .ok (.aload_n 0, 1) := @dq_o42 cX11_term 17 (qX11_term_1 1 42 rfl)
theorem dX11_term_18 : decode cX11_term 18 = .ok (.getfield 26, 3) := @dq_o180 cX11_term 18 0 26 (qX11_term_1 2 180 rfl) (qX11_term_1 3 0 rfl) (qX11_term_1 4 26 rfl)
theorem dX11_term_21 : decode cX11_term 21 = .ok (.iload_n 1, 1) := @dq_o27 cX11_term 21 (qX11_term_1 5 27 rfl)
theorem dX11_term_22 : decode cX11_term 22 = .ok (.iconst 1, 1) := @dq_o4 cX11_term 22 (qX11_term_1 6 4 rfl)
theorem dX11_term_23 : decode cX11_term 23 = .ok (.isub, 1) := @dq_o100 cX11_term 23 (qX11_term_1 7 100 rfl)
theorem dX11_term_24 : decode cX11_term 24 = .ok (.iaload, 1) := @dq_o46 cX11_term 24 (qX11_term_1 8 46 rfl)
theorem dX11_term_25 : decode cX11_term 25 = .ok (.i2l, 1) := @dq_o133 cX11_term 25 (qX11_term_1 9 133 rfl)
theorem dX11_term_26 : decode cX11_term 26 = .ok (.lconst 1, 1) := @dq_o10 cX11_term 26 (qX11_term_1 10 10 rfl)
theorem dX11_term_27 : decode cX11_term 27 = .ok (.lsub, 1) := @dq_o101 cX11_term 27 (qX11_term_1 11 101 rfl)
theorem dX11_term_28 : decode cX11_term 28 = .ok (.invokevirtual 101, 3) := @dq_o182 cX11_term 28 0 101 (qX11_term_1 12 182 rfl) (qX11_term_1 13 0 rfl) (qX11_term_1 14 101 rfl)
theorem dX11_term_31 : decode cX11_term 31 = .ok (.ifCond .eq 22, 3) := @dq_o153 cX11_term 31 0 22 (qX11_term_1 15 153 rfl) (qX11_term_2 0 0 rfl) (qX11_term_2 1 22 rfl)
theorem dX11_term_34 : decode cX11_term 34 = .ok (.aload_n 0, 1) := @dq_o42 cX11_term 34 (qX11_term_2 2 42 rfl)
theorem dX11_term_35 : decode cX11_term 35 = .ok (.iload_n 3, 1) := @dq_o29 cX11_term 35 (qX11_term_2 3 29 rfl)
theorem dX11_term_36 : decode cX11_term 36 = .ok (.i2l, 1) := @dq_o133 cX11_term 36 (qX11_term_2 4 133 rfl)
theorem dX11_term_37 : decode cX11_term 37 = .ok (.lconst 0, 1) := @dq_o9 cX11_term 37 (qX11_term_2 5 9 rfl)
theorem dX11_term_38 : decode cX11_term 38 = .ok (.ldc2_w 174, 3) := @dq_o20 cX11_term 38 0 174 (qX11_term_2 6 20 rfl) (qX11_term_2 7 0 rfl) (qX11_term_2 8 174 rfl)
theorem dX11_term_41 : decode cX11_term 41 = .ok (.aload_n 0, 1) := @dq_o42 cX11_term 41 (qX11_term_2 9 42 rfl)
theorem dX11_term_42 : decode cX11_term 42 = .ok (.invokevirtual 88, 3) := @dq_o182 cX11_term 42 0 88 (qX11_term_2 10 182 rfl) (qX11_term_2 11 0 rfl) (qX11_term_2 12 88 rfl)
theorem dX11_term_45 : decode cX11_term 45 = .ok (.i2l, 1) := @dq_o133 cX11_term 45 (qX11_term_2 13 133 rfl)
theorem dX11_term_46 : decode cX11_term 46 = .ok (.lmul, 1) := @dq_o105 cX11_term 46 (qX11_term_2 14 105 rfl)
theorem dX11_term_47 : decode cX11_term 47 = .ok (.invokevirtual 101, 3) := @dq_o182 cX11_term 47 0 101 (qX11_term_2 15 182 rfl) (qX11_term_3 0 0 rfl) (qX11_term_3 1 101 rfl)
theorem dX11_term_50 : decode cX11_term 50 = .ok (.ifCond .ne 7, 3) := @dq_o154 cX11_term 50 0 7 (qX11_term_3 2 154 rfl) (qX11_term_3 3 0 rfl) (qX11_term_3 4 7 rfl)
theorem dX11_term_53 : decode cX11_term 53 = .ok (.sipush (-10000), 3) := @dq_o17 cX11_term 53 216 240 (qX11_term_3 5 17 rfl) (qX11_term_3 6 216 rfl) (qX11_term_3 7 240 rfl)
theorem dX11_term_56 : decode cX11_term 56 = .ok (.ireturn, 1) := @dq_o172 cX11_term 56 (qX11_term_3 8 172 rfl)
theorem dX11_term_57 : decode cX11_term 57 = .ok (.aload_n 0, 1) := @dq_o42 cX11_term 57 (qX11_term_3 9 42 rfl)
theorem dX11_term_58 : decode cX11_term 58 = .ok (.getfield 30, 3) := @dq_o180 cX11_term 58 0 30 (qX11_term_3 10 180 rfl) (qX11_term_3 11 0 rfl) (qX11_term_3 12 30 rfl)
theorem dX11_term_61 : decode cX11_term 61 = .ok (.aload_n 0, 1) := @dq_o42 cX11_term 61 (qX11_term_3 13 42 rfl)
theorem dX11_term_62 : decode cX11_term 62 = .ok (.iload_n 1, 1) := @dq_o27 cX11_term 62 (qX11_term_3 14 27 rfl)
theorem dX11_term_63 : decode cX11_term 63 = .ok (.iload_n 2, 1) := @dq_o28 cX11_term 63 (qX11_term_3 15 28 rfl)
theorem dX11_term_64 : decode cX11_term 64 = .ok (.invokevirtual 352, 3) := @dq_o182 cX11_term 64 1 96 (qX11_term_4 0 182 rfl) (qX11_term_4 1 1 rfl) (qX11_term_4 2 96 rfl)
theorem dX11_term_67 : decode cX11_term 67 = .ok (.iload_n 3, 1) := @dq_o29 cX11_term 67 (qX11_term_4 3 29 rfl)
theorem dX11_term_68 : decode cX11_term 68 = .ok (.iadd, 1) := @dq_o96 cX11_term 68 (qX11_term_4 4 96 rfl)
theorem dX11_term_69 : decode cX11_term 69 = .ok (.laload, 1) := @dq_o47 cX11_term 69 (qX11_term_4 5 47 rfl)
theorem dX11_term_70 : decode cX11_term 70 = .ok (.l2i, 1) := @dq_o136 cX11_term 70 (qX11_term_4 6 136 rfl)
theorem dX11_term_71 : decode cX11_term 71 = .ok (.ireturn, 1) := @dq_o172 cX11_term 71 (qX11_term_4 7 172 rfl)
abbrev qaX11_degreeOf_0 : List Nat := [3, 62, 4, 54, 4, 21, 4, 5, 42, 182, 0, 88, 104, 163, 0, 27]
abbrev qaX11_degreeOf_1 : List Nat := [29, 42, 180, 0, 30, 42, 27, 28, 182, 1, 96, 21, 4, 96, 47, 136]
abbrev qaX11_degreeOf_2 : List Nat := [96, 62, 132, 4, 1, 167, 255, 224, 29, 172]
def qtX11_degreeOf_3 : List Nat := []
def qtX11_degreeOf_2 : List Nat := qaX11_degreeOf_2 ++ qtX11_degreeOf_3
def qtX11_degreeOf_1 : List Nat := qaX11_degreeOf_1 ++ qtX11_degreeOf_2
def qtX11_degreeOf_0 : List Nat := qaX11_degreeOf_0 ++ qtX11_degreeOf_1
theorem qeX11_degreeOf : cX11_degreeOf.data.toList.map UInt8.toNat = qtX11_degreeOf_0 := by decide +kernel
theorem qsX11_degreeOf_0 : ∀ i, dqNth qtX11_degreeOf_0 (0 + i) = dqNth qtX11_degreeOf_0 i := fun i => by rw [Nat.zero_add]
theorem qsX11_degreeOf_1 : ∀ i, dqNth qtX11_degreeOf_0 (16 + i) = dqNth qtX11_degreeOf_1 i := dq_step qsX11_degreeOf_0 rfl rfl
theorem qsX11_degreeOf_2 : ∀ i, dqNth qtX11_degreeOf_0 (32 + i) = dqNth qtX11_degreeOf_2 i := dq_step qsX11_degreeOf_1 rfl rfl
theorem qX11_degreeOf_0 (i b : Nat) (h : dqNth qaX11_degreeOf_0 i = some b) : DqBy cX11_degreeOf (0 + i) b := dqBy_of qeX11_degreeOf ((qsX11_degreeOf_0 i).trans (dq_in h))
theorem qX11_degreeOf_1 (i b : Nat) (h : dqNth qaX11_degreeOf_1 i = some b) : DqBy cX11_degreeOf (16 + i) b := dqBy_of qeX11_degreeOf ((qsX11_degreeOf_1 i).trans (dq_in h))
theorem qX11_degreeOf_2 (i b : Nat) (h : dqNth qaX11_degreeOf_2 i = some b) : DqBy cX11_degreeOf (32 + i) b := dqBy_of qeX11_degreeOf ((qsX11_degreeOf_2 i).trans (dq_in h))
theorem dX11_degreeOf_0 : decode cX11_degreeOf 0 = .ok (.iconst 0, 1) := @dq_o3 cX11_degreeOf 0 (qX11_degreeOf_0 0 3 rfl)
theorem dX11_degreeOf_1 : decode cX11_degreeOf 1 = .ok (.istore_n 3, 1) := @dq_o62 cX11_degreeOf 1 (qX11_degreeOf_0 1 62 rfl)
theorem dX11_degreeOf_2 : decode cX11_degreeOf 2 = .ok (.iconst 1, 1) := @dq_o4 cX11_degreeOf 2 (qX11_degreeOf_0 2 4 rfl)
theorem dX11_degreeOf_3 : decode cX11_degreeOf 3 = .ok (.istore 4, 2) := @dq_o54 cX11_degreeOf 3 4 (qX11_degreeOf_0 3 54 rfl) (qX11_degreeOf_0 4 4 rfl)
theorem dX11_degreeOf_5 : decode cX11_degreeOf 5 = .ok (.iload 4, 2) := @dq_o21 cX11_degreeOf 5 4 (qX11_degreeOf_0 5 21 rfl) (qX11_degreeOf_0 6 4 rfl)
theorem dX11_degreeOf_7 : decode cX11_degreeOf 7 = .ok (.iconst 2, 1) := @dq_o5 cX11_degreeOf 7 (qX11_degreeOf_0 7 5 rfl)
theorem dX11_degreeOf_8 : decode cX11_degreeOf 8 = .ok (.aload_n 0, 1) := @dq_o42 cX11_degreeOf 8 (qX11_degreeOf_0 8 42 rfl)
theorem dX11_degreeOf_9 : decode cX11_degreeOf 9 = .ok (.invokevirtual 88, 3) := @dq_o182 cX11_degreeOf 9 0 88 (qX11_degreeOf_0 9 182 rfl) (qX11_degreeOf_0 10 0 rfl) (qX11_degreeOf_0 11 88 rfl)
theorem dX11_degreeOf_12 : decode cX11_degreeOf 12 = .ok (.imul, 1) := @dq_o104 cX11_degreeOf 12 (qX11_degreeOf_0 12 104 rfl)
theorem dX11_degreeOf_13 : decode cX11_degreeOf 13 = .ok (.if_icmp .gt 27, 3) := @dq_o163 cX11_degreeOf 13 0 27 (qX11_degreeOf_0 13 163 rfl) (qX11_degreeOf_0 14 0 rfl) (qX11_degreeOf_0 15 27 rfl)
theorem dX11_degreeOf_16 : decode cX11_degreeOf 16 = .ok (.iload_n 3, 1) := @dq_o29 cX11_degreeOf 16 (qX11_degreeOf_1 0 29 rfl)
theorem dX11_degreeOf_17 : decode cX11_degreeOf 17 = .ok (.aload_n 0, 1) := @dq_o42 cX11_degreeOf 17 (qX11_degreeOf_1 1 42 rfl)
theorem dX11_degreeOf_18 : decode cX11_degreeOf 18 = .ok (.getfield 30, 3) := @dq_o180 cX11_degreeOf 18 0 30 (qX11_degreeOf_1 2 180 rfl) (qX11_degreeOf_1 3 0 rfl) (qX11_degreeOf_1 4 30 rfl)
theorem dX11_degreeOf_21 : decode cX11_degreeOf 21 = .ok (.aload_n 0, 1) := @dq_o42 cX11_degreeOf 21 (qX11_degreeOf_1 5 42 rfl)
theorem dX11_degreeOf_22 : decode cX11_degreeOf 22 = .ok (.iload_n 1, 1) := @dq_o27 cX11_degreeOf 22 (qX11_degreeOf_1 6 27 rfl)
theorem dX11_degreeOf_23 : decode cX11_degreeOf 23 = .ok (.iload_n 2, 1) := @dq_o28 cX11_degreeOf 23 (qX11_degreeOf_1 7 28 rfl)
theorem dX11_degreeOf_24 : decode cX11_degreeOf 24 = .ok (.invokevirtual 352, 3) := @dq_o182 cX11_degreeOf 24 1 96 (qX11_degreeOf_1 8 182 rfl) (qX11_degreeOf_1 9 1 rfl) (qX11_degreeOf_1 10 96 rfl)
theorem dX11_degreeOf_27 : decode cX11_degreeOf 27 = .ok (.iload 4, 2) := @dq_o21 cX11_degreeOf 27 4 (qX11_degreeOf_1 11 21 rfl) (qX11_degreeOf_1 12 4 rfl)
theorem dX11_degreeOf_29 : decode cX11_degreeOf 29 = .ok (.iadd, 1) := @dq_o96 cX11_degreeOf 29 (qX11_degreeOf_1 13 96 rfl)
theorem dX11_degreeOf_30 : decode cX11_degreeOf 30 = .ok (.laload, 1) := @dq_o47 cX11_degreeOf 30 (qX11_degreeOf_1 14 47 rfl)
theorem dX11_degreeOf_31 : decode cX11_degreeOf 31 = .ok (.l2i, 1) := @dq_o136 cX11_degreeOf 31 (qX11_degreeOf_1 15 136 rfl)
theorem dX11_degreeOf_32 : decode cX11_degreeOf 32 = .ok (.iadd, 1) := @dq_o96 cX11_degreeOf 32 (qX11_degreeOf_2 0 96 rfl)
theorem dX11_degreeOf_33 : decode cX11_degreeOf 33 = .ok (.istore_n 3, 1) := @dq_o62 cX11_degreeOf 33 (qX11_degreeOf_2 1 62 rfl)
theorem dX11_degreeOf_34 : decode cX11_degreeOf 34 = .ok (.iinc 4 1, 3) := @dq_o132 cX11_degreeOf 34 4 1 (qX11_degreeOf_2 2 132 rfl) (qX11_degreeOf_2 3 4 rfl) (qX11_degreeOf_2 4 1 rfl)
theorem dX11_degreeOf_37 : decode cX11_degreeOf 37 = .ok (.goto (-32), 3) := @dq_o167 cX11_degreeOf 37 255 224 (qX11_degreeOf_2 5 167 rfl) (qX11_degreeOf_2 6 255 rfl) (qX11_degreeOf_2 7 224 rfl)
theorem dX11_degreeOf_40 : decode cX11_degreeOf 40 = .ok (.iload_n 3, 1) := @dq_o29 cX11_degreeOf 40 (qX11_degreeOf_2 8 29 rfl)
theorem dX11_degreeOf_41 : decode cX11_degreeOf 41 = .ok (.ireturn, 1) := @dq_o172 cX11_degreeOf 41 (qX11_degreeOf_2 9 172 rfl)
abbrev qaX11_weightOfTerm_0 : List Nat := [3, 62, 4, 54, 4, 21, 4, 5, 42, 182, 0, 88, 104, 163, 0, 36]
abbrev qaX11_weightOfTerm_1 : List Nat := [29, 42, 21, 4, 4, 100, 182, 0, 215, 42, 180, 0, 30, 42, 27, 28]
abbrev qaX11_weightOfTerm_2 : List Nat := [182, 1, 96, 21, 4, 96, 47, 136, 104, 96, 62, 132, 4, 1, 167, 255]
abbrev qaX11_weightOfTerm_3 : List Nat := [215, 29, 172]
def qtX11_weightOfTerm_4 : List Nat := []
def qtX11_weightOfTerm_3 : List Nat := qaX11_weightOfTerm_3 ++ qtX11_weightOfTerm_4
def qtX11_weightOfTerm_2 : List Nat := qaX11_weightOfTerm_2 ++ qtX11_weightOfTerm_3
def qtX11_weightOfTerm_1 : List Nat := qaX11_weightOfTerm_1 ++ qtX11_weightOfTerm_2
def qtX11_weightOfTerm_0 : List Nat := qaX11_weightOfTerm_0 ++ qtX11_weightOfTerm_1
theorem qeX11_weightOfTerm : cX11_weightOfTerm.data.toList.map UInt8.toNat = qtX11_weightOfTerm_0 := by decide +kernel
theorem qsX11_weightOfTerm_0 : ∀ i, dqNth qtX11_weightOfTerm_0 (0 + i) = dqNth qtX11_weightOfTerm_0 i := fun i => by rw [Nat.zero_add]
theorem qsX11_weightOfTerm_1 : ∀ i, dqNth qtX11_weightOfTerm_0 (16 + i) = dqNth qtX11_weightOfTerm_1 i := dq_step qsX11_weightOfTerm_0 rfl rfl
theorem qsX11_weightOfTerm_2 : ∀ i, dqNth qtX11_weightOfTerm_0 (32 + i) = dqNth qtX11_weightOfTerm_2 i := dq_step qsX11_weightOfTerm_1 rfl rfl
theorem qsX11_weightOfTerm_3 : ∀ i, dqNth qtX11_weightOfTerm_0 (48 + i) = dqNth qtX11_weightOfTerm_3 i := dq_step qsX11_weightOfTerm_2 rfl rfl
theorem qX11_weightOfTerm_0 (i b : Nat) (h : dqNth qaX11_weightOfTerm_0 i = some b) : DqBy cX11_weightOfTerm (0 + i) b := dqBy_of qeX11_weightOfTerm ((qsX11_weightOfTerm_0 i).trans (dq_in h))
theorem qX11_weightOfTerm_1 (i b : Nat) (h : dqNth qaX11_weightOfTerm_1 i = some b) : DqBy cX11_weightOfTerm (16 + i) b := dqBy_of qeX11_weightOfTerm ((qsX11_weightOfTerm_1 i).trans (dq_in h))
theorem qX11_weightOfTerm_2 (i b : Nat) (h : dqNth qaX11_weightOfTerm_2 i = some b) : DqBy cX11_weightOfTerm (32 + i) b := dqBy_of qeX11_weightOfTerm ((qsX11_weightOfTerm_2 i).trans (dq_in h))
theorem qX11_weightOfTerm_3 (i b : Nat) (h : dqNth qaX11_weightOfTerm_3 i = some b) : DqBy cX11_weightOfTerm (48 + i) b := dqBy_of qeX11_weightOfTerm ((qsX11_weightOfTerm_3 i).trans (dq_in h))
theorem dX11_weightOfTerm_0 : decode cX11_weightOfTerm 0 = .ok (.iconst 0, 1) := @dq_o3 cX11_weightOfTerm 0 (qX11_weightOfTerm_0 0 3 rfl)
theorem dX11_weightOfTerm_1 : decode cX11_weightOfTerm 1 = .ok (.istore_n 3, 1) := @dq_o62 cX11_weightOfTerm 1 (qX11_weightOfTerm_0 1 62 rfl)
theorem dX11_weightOfTerm_2 : decode cX11_weightOfTerm 2 = .ok (.iconst 1, 1) := @dq_o4 cX11_weightOfTerm 2 (qX11_weightOfTerm_0 2 4 rfl)
theorem dX11_weightOfTerm_3 : decode cX11_weightOfTerm 3 = .ok (.istore 4, 2) := @dq_o54 cX11_weightOfTerm 3 4 (qX11_weightOfTerm_0 3 54 rfl) (qX11_weightOfTerm_0 4 4 rfl)
theorem dX11_weightOfTerm_5 : decode cX11_weightOfTerm 5 = .ok (.iload 4, 2) := @dq_o21 cX11_weightOfTerm 5 4 (qX11_weightOfTerm_0 5 21 rfl) (qX11_weightOfTerm_0 6 4 rfl)
theorem dX11_weightOfTerm_7 : decode cX11_weightOfTerm 7 = .ok (.iconst 2, 1) := @dq_o5 cX11_weightOfTerm 7 (qX11_weightOfTerm_0 7 5 rfl)
theorem dX11_weightOfTerm_8 : decode cX11_weightOfTerm 8 = .ok (.aload_n 0, 1) := @dq_o42 cX11_weightOfTerm 8 (qX11_weightOfTerm_0 8 42 rfl)
theorem dX11_weightOfTerm_9 : decode cX11_weightOfTerm 9 = .ok (.invokevirtual 88, 3) := @dq_o182 cX11_weightOfTerm 9 0 88 (qX11_weightOfTerm_0 9 182 rfl) (qX11_weightOfTerm_0 10 0 rfl) (qX11_weightOfTerm_0 11 88 rfl)
theorem dX11_weightOfTerm_12 : decode cX11_weightOfTerm 12 = .ok (.imul, 1) := @dq_o104 cX11_weightOfTerm 12 (qX11_weightOfTerm_0 12 104 rfl)
theorem dX11_weightOfTerm_13 : decode cX11_weightOfTerm 13 = .ok (.if_icmp .gt 36, 3) := @dq_o163 cX11_weightOfTerm 13 0 36 (qX11_weightOfTerm_0 13 163 rfl) (qX11_weightOfTerm_0 14 0 rfl) (qX11_weightOfTerm_0 15 36 rfl)
theorem dX11_weightOfTerm_16 : decode cX11_weightOfTerm 16 = .ok (.iload_n 3, 1) := @dq_o29 cX11_weightOfTerm 16 (qX11_weightOfTerm_1 0 29 rfl)
theorem dX11_weightOfTerm_17 : decode cX11_weightOfTerm 17 = .ok (.aload_n 0, 1) := @dq_o42 cX11_weightOfTerm 17 (qX11_weightOfTerm_1 1 42 rfl)
theorem dX11_weightOfTerm_18 : decode cX11_weightOfTerm 18 = .ok (.iload 4, 2) := @dq_o21 cX11_weightOfTerm 18 4 (qX11_weightOfTerm_1 2 21 rfl) (qX11_weightOfTerm_1 3 4 rfl)
theorem dX11_weightOfTerm_20 : decode cX11_weightOfTerm 20 = .ok (.iconst 1, 1) := @dq_o4 cX11_weightOfTerm 20 (qX11_weightOfTerm_1 4 4 rfl)
theorem dX11_weightOfTerm_21 : decode cX11_weightOfTerm 21 = .ok (.isub, 1) := @dq_o100 cX11_weightOfTerm 21 (qX11_weightOfTerm_1 5 100 rfl)
theorem dX11_weightOfTerm_22 : decode cX11_weightOfTerm 22 = .ok (.invokevirtual 215, 3) := @dq_o182 cX11_weightOfTerm 22 0 215 (qX11_weightOfTerm_1 6 182 rfl) (qX11_weightOfTerm_1 7 0 rfl) (qX11_weightOfTerm_1 8 215 rfl)
theorem dX11_weightOfTerm_25 : decode cX11_weightOfTerm 25 = .ok (.aload_n 0, 1) := @dq_o42 cX11_weightOfTerm 25 (qX11_weightOfTerm_1 9 42 rfl)
theorem dX11_weightOfTerm_26 : decode cX11_weightOfTerm 26 = .ok (.getfield 30, 3) := @dq_o180 cX11_weightOfTerm 26 0 30 (qX11_weightOfTerm_1 10 180 rfl) (qX11_weightOfTerm_1 11 0 rfl) (qX11_weightOfTerm_1 12 30 rfl)
theorem dX11_weightOfTerm_29 : decode cX11_weightOfTerm 29 = .ok (.aload_n 0, 1) := @dq_o42 cX11_weightOfTerm 29 (qX11_weightOfTerm_1 13 42 rfl)
theorem dX11_weightOfTerm_30 : decode cX11_weightOfTerm 30 = .ok (.iload_n 1, 1) := @dq_o27 cX11_weightOfTerm 30 (qX11_weightOfTerm_1 14 27 rfl)
theorem dX11_weightOfTerm_31 : decode cX11_weightOfTerm 31 = .ok (.iload_n 2, 1) := @dq_o28 cX11_weightOfTerm 31 (qX11_weightOfTerm_1 15 28 rfl)
theorem dX11_weightOfTerm_32 : decode cX11_weightOfTerm 32 = .ok (.invokevirtual 352, 3) := @dq_o182 cX11_weightOfTerm 32 1 96 (qX11_weightOfTerm_2 0 182 rfl) (qX11_weightOfTerm_2 1 1 rfl) (qX11_weightOfTerm_2 2 96 rfl)
theorem dX11_weightOfTerm_35 : decode cX11_weightOfTerm 35 = .ok (.iload 4, 2) := @dq_o21 cX11_weightOfTerm 35 4 (qX11_weightOfTerm_2 3 21 rfl) (qX11_weightOfTerm_2 4 4 rfl)
theorem dX11_weightOfTerm_37 : decode cX11_weightOfTerm 37 = .ok (.iadd, 1) := @dq_o96 cX11_weightOfTerm 37 (qX11_weightOfTerm_2 5 96 rfl)
theorem dX11_weightOfTerm_38 : decode cX11_weightOfTerm 38 = .ok (.laload, 1) := @dq_o47 cX11_weightOfTerm 38 (qX11_weightOfTerm_2 6 47 rfl)
theorem dX11_weightOfTerm_39 : decode cX11_weightOfTerm 39 = .ok (.l2i, 1) := @dq_o136 cX11_weightOfTerm 39 (qX11_weightOfTerm_2 7 136 rfl)
theorem dX11_weightOfTerm_40 : decode cX11_weightOfTerm 40 = .ok (.imul, 1) := @dq_o104 cX11_weightOfTerm 40 (qX11_weightOfTerm_2 8 104 rfl)
theorem dX11_weightOfTerm_41 : decode cX11_weightOfTerm 41 = .ok (.iadd, 1) := @dq_o96 cX11_weightOfTerm 41 (qX11_weightOfTerm_2 9 96 rfl)
theorem dX11_weightOfTerm_42 : decode cX11_weightOfTerm 42 = .ok (.istore_n 3, 1) := @dq_o62 cX11_weightOfTerm 42 (qX11_weightOfTerm_2 10 62 rfl)
theorem dX11_weightOfTerm_43 : decode cX11_weightOfTerm 43 = .ok (.iinc 4 1, 3) := @dq_o132 cX11_weightOfTerm 43 4 1 (qX11_weightOfTerm_2 11 132 rfl) (qX11_weightOfTerm_2 12 4 rfl) (qX11_weightOfTerm_2 13 1 rfl)
theorem dX11_weightOfTerm_46 : decode cX11_weightOfTerm 46 = .ok (.goto (-41), 3) := @dq_o167 cX11_weightOfTerm 46 255 215 (qX11_weightOfTerm_2 14 167 rfl) (qX11_weightOfTerm_2 15 255 rfl) (qX11_weightOfTerm_3 0 215 rfl)
theorem dX11_weightOfTerm_49 : decode cX11_weightOfTerm 49 = .ok (.iload_n 3, 1) := @dq_o29 cX11_weightOfTerm 49 (qX11_weightOfTerm_3 1 29 rfl)
theorem dX11_weightOfTerm_50 : decode cX11_weightOfTerm 50 = .ok (.ireturn, 1) := @dq_o172 cX11_weightOfTerm 50 (qX11_weightOfTerm_3 2 172 rfl)
abbrev qaX11_isInBoth_0 : List Nat := [4, 62, 29, 42, 182, 0, 88, 163, 0, 52, 42, 180, 0, 30, 42, 27]
abbrev qaX11_isInBoth_1 : List Nat := [28, 182, 1, 96, 29, 96, 47, 9, 148, 158, 0, 28, 42, 180, 0, 30]
abbrev qaX11_isInBoth_2 : List Nat := [42, 27, 28, 182, 1, 96, 42, 182, 0, 88, 96, 29, 96, 47, 9, 148]
abbrev qaX11_isInBoth_3 : List Nat := [158, 0, 5, 4, 172, 132, 3, 1, 167, 255, 202, 3, 172]
def qtX11_isInBoth_4 : List Nat := []
def qtX11_isInBoth_3 : List Nat := qaX11_isInBoth_3 ++ qtX11_isInBoth_4
def qtX11_isInBoth_2 : List Nat := qaX11_isInBoth_2 ++ qtX11_isInBoth_3
def qtX11_isInBoth_1 : List Nat := qaX11_isInBoth_1 ++ qtX11_isInBoth_2
def qtX11_isInBoth_0 : List Nat := qaX11_isInBoth_0 ++ qtX11_isInBoth_1
theorem qeX11_isInBoth : cX11_isInBoth.data.toList.map UInt8.toNat = qtX11_isInBoth_0 := by decide +kernel
theorem qsX11_isInBoth_0 : ∀ i, dqNth qtX11_isInBoth_0 (0 + i) = dqNth qtX11_isInBoth_0 i := fun i => by rw [Nat.zero_add]
theorem qsX11_isInBoth_1 : ∀ i, dqNth qtX11_isInBoth_0 (16 + i) = dqNth qtX11_isInBoth_1 i := dq_step qsX11_isInBoth_0 rfl rfl
theorem qsX11_isInBoth_2 : ∀ i, dqNth qtX11_isInBoth_0 (32 + i) = dqNth qtX11_isInBoth_2 i := dq_step qsX11_isInBoth_1 rfl rfl
theorem qsX11_isInBoth_3 : ∀ i, dqNth qtX11_isInBoth_0 (48 + i) = dqNth qtX11_isInBoth_3 i := dq_step qsX11_isInBoth_2 rfl rfl
theorem qX11_isInBoth_0 (i b : Nat) (h : dqNth qaX11_isInBoth_0 i = some b) : DqBy cX11_isInBoth (0 + i) b := dqBy_of qeX11_isInBoth ((qsX11_isInBoth_0 i).trans (dq_in h))
theorem qX11_isInBoth_1 (i b : Nat) (h : dqNth qaX11_isInBoth_1 i = some b) : DqBy cX11_isInBoth (16 + i) b := dqBy_of qeX11_isInBoth ((qsX11_isInBoth_1 i).trans (dq_in h))
theorem qX11_isInBoth_2 (i b : Nat) (h : dqNth qaX11_isInBoth_2 i = some b) : DqBy cX11_isInBoth (32 + i) b := dqBy_of qeX11_isInBoth ((qsX11_isInBoth_2 i).trans (dq_in h))
theorem qX11_isInBoth_3 (i b : Nat) (h : dqNth qaX11_isInBoth_3 i = some b) : DqBy cX11_isInBoth (48 + i) b := dqBy_of qeX11_isInBoth ((qsX11_isInBoth_3 i).trans (dq_in h))
theorem dX11_isInBoth_0 : decode cX11_isInBoth 0 = .ok (.iconst 1, 1) := @dq_o4 cX11_isInBoth 0 (qX11_isInBoth_0 0 4 rfl)
theorem dX11_isInBoth_1 : decode cX11_isInBoth 1 = .ok (.istore_n 3, 1) := @dq_o62 cX11_isInBoth 1 (qX11_isInBoth_0 1 62 rfl)
theorem dX11_isInBoth_2 : decode cX11_isInBoth 2 = .ok (.iload_n 3, 1) := @dq_o29 cX11_isInBoth 2 (qX11_isInBoth_0 2 29 rfl)
theorem dX11_isInBoth_3 : decode cX11_isInBoth 3 = .ok (.aload_n 0, 1) := @dq_o42 cX11_isInBoth 3 (qX11_isInBoth_0 3 42 rfl)
theorem dX11_isInBoth_4 : decode cX11_isInBoth 4 = .ok (.invokevirtual 88, 3) := @dq_o182 cX11_isInBoth 4 0 88 (qX11_isInBoth_0 4 182 rfl) (qX11_isInBoth_0 5 0 rfl) (qX11_isInBoth_0 6 88 rfl)
theorem dX11_isInBoth_7 : decode cX11_isInBoth 7 = .ok (.if_icmp .gt 52, 3) := @dq_o163 cX11_isInBoth 7 0 52 (qX11_isInBoth_0 7 163 rfl) (qX11_isInBoth_0 8 0 rfl) (qX11_isInBoth_0 9 52 rfl)
theorem dX11_isInBoth_10 : decode cX11_isInBoth 10 = .ok (.aload_n 0, 1) := @dq_o42 cX11_isInBoth 10 (qX11_isInBoth_0 10 42 rfl)
theorem dX11_isInBoth_11 : decode cX11_isInBoth 11 = .ok (.getfield 30, 3) := @dq_o180 cX11_isInBoth 11 0 30 (qX11_isInBoth_0 11 180 rfl) (qX11_isInBoth_0 12 0 rfl) (qX11_isInBoth_0 13 30 rfl)
theorem dX11_isInBoth_14 : decode cX11_isInBoth 14 = .ok (.aload_n 0, 1) := @dq_o42 cX11_isInBoth 14 (qX11_isInBoth_0 14 42 rfl)
theorem dX11_isInBoth_15 : decode cX11_isInBoth 15 = .ok (.iload_n 1, 1) := @dq_o27 cX11_isInBoth 15 (qX11_isInBoth_0 15 27 rfl)
theorem dX11_isInBoth_16 : decode cX11_isInBoth 16 = .ok (.iload_n 2, 1) := @dq_o28 cX11_isInBoth 16 (qX11_isInBoth_1 0 28 rfl)
theorem dX11_isInBoth_17 : decode cX11_isInBoth 17 = .ok (.invokevirtual 352, 3) := @dq_o182 cX11_isInBoth 17 1 96 (qX11_isInBoth_1 1 182 rfl) (qX11_isInBoth_1 2 1 rfl) (qX11_isInBoth_1 3 96 rfl)
theorem dX11_isInBoth_20 : decode cX11_isInBoth 20 = .ok (.iload_n 3, 1) := @dq_o29 cX11_isInBoth 20 (qX11_isInBoth_1 4 29 rfl)
theorem dX11_isInBoth_21 : decode cX11_isInBoth 21 = .ok (.iadd, 1) := @dq_o96 cX11_isInBoth 21 (qX11_isInBoth_1 5 96 rfl)
theorem dX11_isInBoth_22 : decode cX11_isInBoth 22 = .ok (.laload, 1) := @dq_o47 cX11_isInBoth 22 (qX11_isInBoth_1 6 47 rfl)
theorem dX11_isInBoth_23 : decode cX11_isInBoth 23 = .ok (.lconst 0, 1) := @dq_o9 cX11_isInBoth 23 (qX11_isInBoth_1 7 9 rfl)
theorem dX11_isInBoth_24 : decode cX11_isInBoth 24 = .ok (.lcmp, 1) := @dq_o148 cX11_isInBoth 24 (qX11_isInBoth_1 8 148 rfl)
theorem dX11_isInBoth_25 : decode cX11_isInBoth 25 = .ok (.ifCond .le 28, 3) := @dq_o158 cX11_isInBoth 25 0 28 (qX11_isInBoth_1 9 158 rfl) (qX11_isInBoth_1 10 0 rfl) (qX11_isInBoth_1 11 28 rfl)
theorem dX11_isInBoth_28 : decode cX11_isInBoth 28 = .ok (.aload_n 0, 1) := @dq_o42 cX11_isInBoth 28 (qX11_isInBoth_1 12 42 rfl)
theorem dX11_isInBoth_29 : decode cX11_isInBoth 29 = .ok (.getfield 30, 3) := @dq_o180 cX11_isInBoth 29 0 30 (qX11_isInBoth_1 13 180 rfl) (qX11_isInBoth_1 14 0 rfl) (qX11_isInBoth_1 15 30 rfl)
theorem dX11_isInBoth_32 : decode cX11_isInBoth 32 = .ok (.aload_n 0, 1) := @dq_o42 cX11_isInBoth 32 (qX11_isInBoth_2 0 42 rfl)
theorem dX11_isInBoth_33 : decode cX11_isInBoth 33 = .ok (.iload_n 1, 1) := @dq_o27 cX11_isInBoth 33 (qX11_isInBoth_2 1 27 rfl)
theorem dX11_isInBoth_34 : decode cX11_isInBoth 34 = .ok (.iload_n 2, 1) := @dq_o28 cX11_isInBoth 34 (qX11_isInBoth_2 2 28 rfl)
theorem dX11_isInBoth_35 : decode cX11_isInBoth 35 = .ok (.invokevirtual 352, 3) := @dq_o182 cX11_isInBoth 35 1 96 (qX11_isInBoth_2 3 182 rfl) (qX11_isInBoth_2 4 1 rfl) (qX11_isInBoth_2 5 96 rfl)
theorem dX11_isInBoth_38 : decode cX11_isInBoth 38 = .ok (.aload_n 0, 1) := @dq_o42 cX11_isInBoth 38 (qX11_isInBoth_2 6 42 rfl)
theorem dX11_isInBoth_39 : decode cX11_isInBoth 39 = .ok (.invokevirtual 88, 3) := @dq_o182 cX11_isInBoth 39 0 88 (qX11_isInBoth_2 7 182 rfl) (qX11_isInBoth_2 8 0 rfl) (qX11_isInBoth_2 9 88 rfl)
theorem dX11_isInBoth_42 : decode cX11_isInBoth 42 = .ok (.iadd, 1) := @dq_o96 cX11_isInBoth 42 (qX11_isInBoth_2 10 96 rfl)
theorem dX11_isInBoth_43 : decode cX11_isInBoth 43 = .ok (.iload_n 3, 1) := @dq_o29 cX11_isInBoth 43 (qX11_isInBoth_2 11 29 rfl)
theorem dX11_isInBoth_44 : decode cX11_isInBoth 44 = .ok (.iadd, 1) := @dq_o96 cX11_isInBoth 44 (qX11_isInBoth_2 12 96 rfl)
theorem dX11_isInBoth_45 : decode cX11_isInBoth 45 = .ok (.laload, 1) := @dq_o47 cX11_isInBoth 45 (qX11_isInBoth_2 13 47 rfl)
theorem dX11_isInBoth_46 : decode cX11_isInBoth 46 = .ok (.lconst 0, 1) := @dq_o9 cX11_isInBoth 46 (qX11_isInBoth_2 14 9 rfl)
theorem dX11_isInBoth_47 : decode cX11_isInBoth 47 = .ok (.lcmp, 1) := @dq_o148 cX11_isInBoth 47 (qX11_isInBoth_2 15 148 rfl)
theorem dX11_isInBoth_48 : decode cX11_isInBoth 48 = .ok (.ifCond .le 5, 3) := @dq_o158 cX11_isInBoth 48 0 5 (qX11_isInBoth_3 0 158 rfl) (qX11_isInBoth_3 1 0 rfl) (qX11_isInBoth_3 2 5 rfl)
theorem dX11_isInBoth_51 : decode cX11_isInBoth 51 = .ok (.iconst 1, 1) := @dq_o4 cX11_isInBoth 51 (qX11_isInBoth_3 3 4 rfl)
theorem dX11_isInBoth_52 : decode cX11_isInBoth 52 = .ok (.ireturn, 1) := @dq_o172 cX11_isInBoth 52 (qX11_isInBoth_3 4 172 rfl)
theorem dX11_isInBoth_53 : decode cX11_isInBoth 53 = .ok (.iinc 3 1, 3) := @dq_o132 cX11_isInBoth 53 3 1 (qX11_isInBoth_3 5 132 rfl) (qX11_isInBoth_3 6 3 rfl) (qX11_isInBoth_3 7 1 rfl)
theorem dX11_isInBoth_56 : decode cX11_isInBoth 56 = .ok (.goto (-54), 3) := @dq_o167 cX11_isInBoth 56 255 202 (qX11_isInBoth_3 8 167 rfl) (qX11_isInBoth_3 9 255 rfl) (qX11_isInBoth_3 10 202 rfl)
theorem dX11_isInBoth_59 : decode cX11_isInBoth 59 = .ok (.iconst 0, 1) := @dq_o3 cX11_isInBoth 59 (qX11_isInBoth_3 11 3 rfl)
theorem dX11_isInBoth_60 : decode cX11_isInBoth 60 = .ok (.ireturn, 1) := @dq_o172 cX11_isInBoth 60 (qX11_isInBoth_3 12 172 rfl)
abbrev qaX11_shape_0 : List Nat := [42, 3, 181, 0, 1, 42, 27, 182, 1, 93, 153, 0, 16, 42, 28, 133]
abbrev qaX11_shape_1 : List Nat := [9, 20, 0, 118, 182, 0, 101, 154, 0, 7, 17, 216, 240, 172, 3, 62]
abbrev qaX11_shape_2 : List Nat := [3, 54, 4, 21, 4, 42, 180, 0, 26, 27, 4, 100, 46, 162, 0, 82]
abbrev qaX11_shape_3 : List Nat := [28, 154, 0, 15, 29, 42, 27, 21, 4, 182, 1, 99, 184, 1, 102, 62]
abbrev qaX11_shape_4 : List Nat := [28, 4, 160, 0, 15, 29, 42, 27, 21, 4, 182, 1, 107, 184, 1, 102]
abbrev qaX11_shape_5 : List Nat := [62, 28, 5, 160, 0, 17, 42, 27, 21, 4, 182, 1, 110, 153, 0, 7]
abbrev qaX11_shape_6 : List Nat := [29, 4, 96, 62, 28, 6, 160, 0, 19, 29, 42, 180, 0, 30, 42, 27]
abbrev qaX11_shape_7 : List Nat := [21, 4, 182, 1, 96, 47, 136, 96, 62, 132, 4, 1, 167, 255, 167, 29]
abbrev qaX11_shape_8 : List Nat := [172]
def qtX11_shape_9 : List Nat := []
def qtX11_shape_8 : List Nat := qaX11_shape_8 ++ qtX11_shape_9
def qtX11_shape_7 : List Nat := qaX11_shape_7 ++ qtX11_shape_8
def qtX11_shape_6 : List Nat := qaX11_shape_6 ++ qtX11_shape_7
def qtX11_shape_5 : List Nat := qaX11_shape_5 ++ qtX11_shape_6
def qtX11_shape_4 : List Nat := qaX11_shape_4 ++ qtX11_shape_5
def qtX11_shape_3 : List Nat := qaX11_shape_3 ++ qtX11_shape_4
def qtX11_shape_2 : List Nat := qaX11_shape_2 ++ qtX11_shape_3
def qtX11_shape_1 : List Nat := qaX11_shape_1 ++ qtX11_shape_2
def qtX11_shape_0 : List Nat := qaX11_shape_0 ++ qtX11_shape_1
theorem qeX11_shape : cX11_shape.data.toList.map UInt8.toNat = qtX11_shape_0 := by decide +kernel
theorem qsX11_shape_0 : ∀ i, dqNth qtX11_shape_0 (0 + i) = dqNth qtX11_shape_0 i := fun i => by rw [Nat.zero_add]
theorem qsX11_shape_1 : ∀ i, dqNth qtX11_shape_0 (16 + i) = dqNth qtX11_shape_1 i := dq_step qsX11_shape_0 rfl rfl
theorem qsX11_shape_2 : ∀ i, dqNth qtX11_shape_0 (32 + i) = dqNth qtX11_shape_2 i := dq_step qsX11_shape_1 rfl rfl
theorem qsX11_shape_3 : ∀ i, dqNth qtX11_shape_0 (48 + i) = dqNth qtX11_shape_3 i := dq_step qsX11_shape_2 rfl rfl
theorem qsX11_shape_4 : ∀ i, dqNth qtX11_shape_0 (64 + i) = dqNth qtX11_shape_4 i := dq_step qsX11_shape_3 rfl rfl
theorem qsX11_shape_5 : ∀ i, dqNth qtX11_shape_0 (80 + i) = dqNth qtX11_shape_5 i := dq_step qsX11_shape_4 rfl rfl
theorem qsX11_shape_6 : ∀ i, dqNth qtX11_shape_0 (96 + i) = dqNth qtX11_shape_6 i := dq_step qsX11_shape_5 rfl rfl
theorem qsX11_shape_7 : ∀ i, dqNth qtX11_shape_0 (112 + i) = dqNth qtX11_shape_7 i := dq_step qsX11_shape_6 rfl rfl
theorem qsX11_shape_8 : ∀ i, dqNth qtX11_shape_0 (128 + i) = dqNth qtX11_shape_8 i := dq_step qsX11_shape_7 rfl rfl
theorem qX11_shape_0 (i b : Nat) (h : dqNth qaX11_shape_0 i = some b) : DqBy cX11_shape (0 + i) b := dqBy_of qeX11_shape ((qsX11_shape_0 i).trans (dq_in h))
theorem qX11_shape_1 (i b : Nat) (h : dqNth qaX11_shape_1 i = some b) : DqBy cX11_shape (16 + i) b := dqBy_of qeX11_shape ((qsX11_shape_1 i).trans (dq_in h))
theorem qX11_shape_2 (i b : Nat) (h : dqNth qaX11_shape_2 i = some b) : DqBy cX11_shape (32 + i) b := dqBy_of qeX11_shape ((qsX11_shape_2 i).trans (dq_in h))
theorem qX11_shape_3 (i b : Nat) (h : dqNth qaX11_shape_3 i = some b) : DqBy cX11_shape (48 + i) b := dqBy_of qeX11_shape ((qsX11_shape_3 i).trans (dq_in h))
theorem qX11_shape_4 (i b : Nat) (h : dqNth qaX11_shape_4 i = some b) : DqBy cX11_shape (64 + i) b := dqBy_of qeX11_shape ((qsX11_shape_4 i).trans (dq_in h))
theorem qX11_shape_5 (i b : Nat) (h : dqNth qaX11_shape_5 i = some b) : DqBy cX11_shape (80 + i) b := dqBy_of qeX11_shape ((qsX11_shape_5 i).trans (dq_in h))
theorem qX11_shape_6 (i b : Nat) (h : dqNth qaX11_shape_6 i = some b) : DqBy cX11_shape (96 + i) b := dqBy_of qeX11_shape ((qsX11_shape_6 i).trans (dq_in h))
theorem qX11_shape_7 (i b : Nat) (h : dqNth qaX11_shape_7 i = some b) : DqBy cX11_shape (112 + i) b := dqBy_of qeX11_shape ((qsX11_shape_7 i).trans (dq_in h))
theorem qX11_shape_8 (i b : Nat) (h : dqNth qaX11_shape_8 i = some b) : DqBy cX11_shape (128 + i) b := dqBy_of qeX11_shape ((qsX11_shape_8 i).trans (dq_in h))
theorem dX11_shape_0 : decode cX11_shape 0 = .ok (.aload_n 0, 1) := @dq_o42 cX11_shape 0 (qX11_shape_0 0 42 rfl)
theorem dX11_shape_1 : decode cX11_shape 1 = .ok (.iconst 0, 1) := @dq_o3 cX11_shape 1 (qX11_shape_0 1 3 rfl)
theorem dX11_shape_2 : decode cX11_shape 2 = .ok (.putfield 1, 3) := @dq_o181 cX11_shape 2 0 1 (qX11_shape_0 2 181 rfl) (qX11_shape_0 3 0 rfl) (qX11_shape_0 4 1 rfl)
theorem dX11_shape_5 : decode cX11_shape 5 = .ok (.aload_n 0, 1) := @dq_o42 cX11_shape 5 (qX11_shape_0 5 42 rfl)
theorem dX11_shape_6 : decode cX11_shape 6 = .ok (.iload_n 1, 1) := @dq_o27 cX11_shape 6 (qX11_shape_0 6 27 rfl)
theorem dX11_shape_7 : decode cX11_shape 7 = .ok (.invokevirtual 349, 3) := @dq_o182 cX11_shape 7 1 93 (qX11_shape_0 7 182 rfl) (qX11_shape_0 8 1 rfl) (qX11_shape_0 9 93 rfl)
theorem dX11_shape_10 : decode cX11_shape 10 = .ok (.ifCond .eq 16, 3) := @dq_o153 cX11_shape 10 0 16 (qX11_shape_0 10 153 rfl) (qX11_shape_0 11 0 rfl) (qX11_shape_0 12 16 rfl)
theorem dX11_shape_13 : decode cX11_shape 13 = .ok (.aload_n 0, 1) := @dq_o42 cX11_shape 13 (qX11_shape_0 13 42 rfl)
theorem dX11_shape_14 : decode cX11_shape 14 = .ok (.iload_n 2, 1) := @dq_o28 cX11_shape 14 (qX11_shape_0 14 28 rfl)
theorem dX11_shape_15 : decode cX11_shape 15 = .ok (.i2l, 1) := @dq_o133 cX11_shape 15 (qX11_shape_0 15 133 rfl)
theorem dX11_shape_16 : decode cX11_shape 16 = .ok (.lconst 0, 1) := @dq_o9 cX11_shape 16 (qX11_shape_1 0 9 rfl)
theorem dX11_shape_17 : decode cX11_shape 17 = .ok (.ldc2_w 118, 3) := @dq_o20 cX11_shape 17 0 118 (qX11_shape_1 1 20 rfl) (qX11_shape_1 2 0 rfl) (qX11_shape_1 3 118 rfl)
theorem dX11_shape_20 : decode cX11_shape 20 = .ok (.invokevirtual 101, 3) := @dq_o182 cX11_shape 20 0 101 (qX11_shape_1 4 182 rfl) (qX11_shape_1 5 0 rfl) (qX11_shape_1 6 101 rfl)
theorem dX11_shape_23 : decode cX11_shape 23 = .ok (.ifCond .ne 7, 3) := @dq_o154 cX11_shape 23 0 7 (qX11_shape_1 7 154 rfl) (qX11_shape_1 8 0 rfl) (qX11_shape_1 9 7 rfl)
theorem dX11_shape_26 : decode cX11_shape 26 = .ok (.sipush (-10000), 3) := @dq_o17 cX11_shape 26 216 240 (qX11_shape_1 10 17 rfl) (qX11_shape_1 11 216 rfl) (qX11_shape_1 12 240 rfl)
theorem dX11_shape_29 : decode cX11_shape 29 = .ok (.ireturn, 1) := @dq_o172 cX11_shape 29 (qX11_shape_1 13 172 rfl)
theorem dX11_shape_30 : decode cX11_shape 30 = .ok (.iconst 0, 1) := @dq_o3 cX11_shape 30 (qX11_shape_1 14 3 rfl)
theorem dX11_shape_31 : decode cX11_shape 31 = .ok (.istore_n 3, 1) := @dq_o62 cX11_shape 31 (qX11_shape_1 15 62 rfl)
theorem dX11_shape_32 : decode cX11_shape 32 = .ok (.iconst 0, 1) := @dq_o3 cX11_shape 32 (qX11_shape_2 0 3 rfl)
theorem dX11_shape_33 : decode cX11_shape 33 = .ok (.istore 4, 2) := @dq_o54 cX11_shape 33 4 (qX11_shape_2 1 54 rfl) (qX11_shape_2 2 4 rfl)
theorem dX11_shape_35 : decode cX11_shape 35 = .ok (.iload 4, 2) := @dq_o21 cX11_shape 35 4 (qX11_shape_2 3 21 rfl) (qX11_shape_2 4 4 rfl)
theorem dX11_shape_37 : decode cX11_shape 37 = .ok (.aload_n 0, 1) := @dq_o42 cX11_shape 37 (qX11_shape_2 5 42 rfl)
theorem dX11_shape_38 : decode cX11_shape 38 = .ok (.getfield 26, 3) := @dq_o180 cX11_shape 38 0 26 (qX11_shape_2 6 180 rfl) (qX11_shape_2 7 0 rfl) (qX11_shape_2 8 26 rfl)
theorem dX11_shape_41 : decode cX11_shape 41 = .ok (.iload_n 1, 1) := @dq_o27 cX11_shape 41 (qX11_shape_2 9 27 rfl)
theorem dX11_shape_42 : decode cX11_shape 42 = .ok (.iconst 1, 1) := @dq_o4 cX11_shape 42 (qX11_shape_2 10 4 rfl)
theorem dX11_shape_43 : decode cX11_shape 43 = .ok (.isub, 1) := @dq_o100 cX11_shape 43 (qX11_shape_2 11 100 rfl)
theorem dX11_shape_44 : decode cX11_shape 44 = .ok (.iaload, 1) := @dq_o46 cX11_shape 44 (qX11_shape_2 12 46 rfl)
theorem dX11_shape_45 : decode cX11_shape 45 = .ok (.if_icmp .ge 82, 3) := @dq_o162 cX11_shape 45 0 82 (qX11_shape_2 13 162 rfl) (qX11_shape_2 14 0 rfl) (qX11_shape_2 15 82 rfl)
theorem dX11_shape_48 : decode cX11_shape 48 = .ok (.iload_n 2, 1) := @dq_o28 cX11_shape 48 (qX11_shape_3 0 28 rfl)
theorem dX11_shape_49 : decode cX11_shape 49 = .ok (.ifCond .ne 15, 3) := @dq_o154 cX11_shape 49 0 15 (qX11_shape_3 1 154 rfl) (qX11_shape_3 2 0 rfl) (qX11_shape_3 3 15 rfl)
theorem dX11_shape_52 : decode cX11_shape 52 = .ok (.iload_n 3, 1) := @dq_o29 cX11_shape 52 (qX11_shape_3 4 29 rfl)
theorem dX11_shape_53 : decode cX11_shape 53 = .ok (.aload_n 0, 1) := @dq_o42 cX11_shape 53 (qX11_shape_3 5 42 rfl)
theorem dX11_shape_54 : decode cX11_shape 54 = .ok (.iload_n 1, 1) := @dq_o27 cX11_shape 54 (qX11_shape_3 6 27 rfl)
theorem dX11_shape_55 : decode cX11_shape 55 = .ok (.iload 4, 2) := @dq_o21 cX11_shape 55 4 (qX11_shape_3 7 21 rfl) (qX11_shape_3 8 4 rfl)
theorem dX11_shape_57 : decode cX11_shape 57 = .ok (.invokevirtual 355, 3) := @dq_o182 cX11_shape 57 1 99 (qX11_shape_3 9 182 rfl) (qX11_shape_3 10 1 rfl) (qX11_shape_3 11 99 rfl)
theorem dX11_shape_60 : decode cX11_shape 60 = .ok (.invokestatic 358, 3) := @dq_o184 cX11_shape 60 1 102 (qX11_shape_3 12 184 rfl) (qX11_shape_3 13 1 rfl) (qX11_shape_3 14 102 rfl)
theorem dX11_shape_63 : decode cX11_shape 63 = .ok (.istore_n 3, 1) := @dq_o62 cX11_shape 63 (qX11_shape_3 15 62 rfl)
theorem dX11_shape_64 : decode cX11_shape 64 = .ok (.iload_n 2, 1) := @dq_o28 cX11_shape 64 (qX11_shape_4 0 28 rfl)
theorem dX11_shape_65 : decode cX11_shape 65 = .ok (.iconst 1, 1) := @dq_o4 cX11_shape 65 (qX11_shape_4 1 4 rfl)
theorem dX11_shape_66 : decode cX11_shape 66 = .ok (.if_icmp .ne 15, 3) := @dq_o160 cX11_shape 66 0 15 (qX11_shape_4 2 160 rfl) (qX11_shape_4 3 0 rfl) (qX11_shape_4 4 15 rfl)
theorem dX11_shape_69 : decode cX11_shape 69 = .ok (.iload_n 3, 1) := @dq_o29 cX11_shape 69 (qX11_shape_4 5 29 rfl)
theorem dX11_shape_70 : decode cX11_shape 70 = .ok (.aload_n 0, 1) := @dq_o42 cX11_shape 70 (qX11_shape_4 6 42 rfl)
theorem dX11_shape_71 : decode cX11_shape 71 = .ok (.iload_n 1, 1) := @dq_o27 cX11_shape 71 (qX11_shape_4 7 27 rfl)
theorem dX11_shape_72 : decode cX11_shape 72 = .ok (.iload 4, 2) := @dq_o21 cX11_shape 72 4 (qX11_shape_4 8 21 rfl) (qX11_shape_4 9 4 rfl)
theorem dX11_shape_74 : decode cX11_shape 74 = .ok (.invokevirtual 363, 3) := @dq_o182 cX11_shape 74 1 107 (qX11_shape_4 10 182 rfl) (qX11_shape_4 11 1 rfl) (qX11_shape_4 12 107 rfl)
theorem dX11_shape_77 : decode cX11_shape 77 = .ok (.invokestatic 358, 3) := @dq_o184 cX11_shape 77 1 102 (qX11_shape_4 13 184 rfl) (qX11_shape_4 14 1 rfl) (qX11_shape_4 15 102 rfl)
theorem dX11_shape_80 : decode cX11_shape 80 = .ok (.istore_n 3, 1) := @dq_o62 cX11_shape 80 (qX11_shape_5 0 62 rfl)
theorem dX11_shape_81 : decode cX11_shape 81 = .ok (.iload_n 2, 1) := @dq_o28 cX11_shape 81 (qX11_shape_5 1 28 rfl)
theorem dX11_shape_82 : decode cX11_shape 82 = .ok (.iconst 2, 1) := @dq_o5 cX11_shape 82 (qX11_shape_5 2 5 rfl)
theorem dX11_shape_83 : decode cX11_shape 83 = .ok (.if_icmp .ne 17, 3) := @dq_o160 cX11_shape 83 0 17 (qX11_shape_5 3 160 rfl) (qX11_shape_5 4 0 rfl) (qX11_shape_5 5 17 rfl)
theorem dX11_shape_86 : decode cX11_shape 86 = .ok (.aload_n 0, 1) := @dq_o42 cX11_shape 86 (qX11_shape_5 6 42 rfl)
theorem dX11_shape_87 : decode cX11_shape 87 = .ok (.iload_n 1, 1) := @dq_o27 cX11_shape 87 (qX11_shape_5 7 27 rfl)
theorem dX11_shape_88 : decode cX11_shape 88 = .ok (.iload 4, 2) := @dq_o21 cX11_shape 88 4 (qX11_shape_5 8 21 rfl) (qX11_shape_5 9 4 rfl)
theorem dX11_shape_90 : decode cX11_shape 90 = .ok (.invokevirtual 366, 3) := @dq_o182 cX11_shape 90 1 110 (qX11_shape_5 10 182 rfl) (qX11_shape_5 11 1 rfl) (qX11_shape_5 12 110 rfl)
theorem dX11_shape_93 : decode cX11_shape 93 = .ok (.ifCond .eq 7, 3) := @dq_o153 cX11_shape 93 0 7 (qX11_shape_5 13 153 rfl) (qX11_shape_5 14 0 rfl) (qX11_shape_5 15 7 rfl)
theorem dX11_shape_96 : decode cX11_shape 96 = .ok (.iload_n 3, 1) := @dq_o29 cX11_shape 96 (qX11_shape_6 0 29 rfl)
theorem dX11_shape_97 : decode cX11_shape 97 = .ok (.iconst 1, 1) := @dq_o4 cX11_shape 97 (qX11_shape_6 1 4 rfl)
theorem dX11_shape_98 : decode cX11_shape 98 = .ok (.iadd, 1) := @dq_o96 cX11_shape 98 (qX11_shape_6 2 96 rfl)
theorem dX11_shape_99 : decode cX11_shape 99 = .ok (.istore_n 3, 1) := @dq_o62 cX11_shape 99 (qX11_shape_6 3 62 rfl)
theorem dX11_shape_100 : decode cX11_shape 100 = .ok (.iload_n 2, 1) := @dq_o28 cX11_shape 100 (qX11_shape_6 4 28 rfl)
theorem dX11_shape_101 : decode cX11_shape 101 = .ok (.iconst 3, 1) := @dq_o6 cX11_shape 101 (qX11_shape_6 5 6 rfl)
theorem dX11_shape_102 : decode cX11_shape 102 = .ok (.if_icmp .ne 19, 3) := @dq_o160 cX11_shape 102 0 19 (qX11_shape_6 6 160 rfl) (qX11_shape_6 7 0 rfl) (qX11_shape_6 8 19 rfl)
theorem dX11_shape_105 : decode cX11_shape 105 = .ok (.iload_n 3, 1) := @dq_o29 cX11_shape 105 (qX11_shape_6 9 29 rfl)
theorem dX11_shape_106 : decode cX11_shape 106 = .ok (.aload_n 0, 1) := @dq_o42 cX11_shape 106 (qX11_shape_6 10 42 rfl)
theorem dX11_shape_107 : decode cX11_shape 107 = .ok (.getfield 30, 3) := @dq_o180 cX11_shape 107 0 30 (qX11_shape_6 11 180 rfl) (qX11_shape_6 12 0 rfl) (qX11_shape_6 13 30 rfl)
theorem dX11_shape_110 : decode cX11_shape 110 = .ok (.aload_n 0, 1) := @dq_o42 cX11_shape 110 (qX11_shape_6 14 42 rfl)
theorem dX11_shape_111 : decode cX11_shape 111 = .ok (.iload_n 1, 1) := @dq_o27 cX11_shape 111 (qX11_shape_6 15 27 rfl)
theorem dX11_shape_112 : decode cX11_shape 112 = .ok (.iload 4, 2) := @dq_o21 cX11_shape 112 4 (qX11_shape_7 0 21 rfl) (qX11_shape_7 1 4 rfl)
theorem dX11_shape_114 : decode cX11_shape 114 = .ok (.invokevirtual 352, 3) := @dq_o182 cX11_shape 114 1 96 (qX11_shape_7 2 182 rfl) (qX11_shape_7 3 1 rfl) (qX11_shape_7 4 96 rfl)
theorem dX11_shape_117 : decode cX11_shape 117 = .ok (.laload, 1) := @dq_o47 cX11_shape 117 (qX11_shape_7 5 47 rfl)
theorem dX11_shape_118 : decode cX11_shape 118 = .ok (.l2i, 1) := @dq_o136 cX11_shape 118 (qX11_shape_7 6 136 rfl)
theorem dX11_shape_119 : decode cX11_shape 119 = .ok (.iadd, 1) := @dq_o96 cX11_shape 119 (qX11_shape_7 7 96 rfl)
theorem dX11_shape_120 : decode cX11_shape 120 = .ok (.istore_n 3, 1) := @dq_o62 cX11_shape 120 (qX11_shape_7 8 62 rfl)
theorem dX11_shape_121 : decode cX11_shape 121 = .ok (.iinc 4 1, 3) := @dq_o132 cX11_shape 121 4 1 (qX11_shape_7 9 132 rfl) (qX11_shape_7 10 4 rfl) (qX11_shape_7 11 1 rfl)
theorem dX11_shape_124 : decode cX11_shape 124 = .ok (.goto (-89), 3) := @dq_o167 cX11_shape 124 255 167 (qX11_shape_7 12 167 rfl) (qX11_shape_7 13 255 rfl) (qX11_shape_7 14 167 rfl)
theorem dX11_shape_127 : decode cX11_shape 127 = .ok (.iload_n 3, 1) := @dq_o29 cX11_shape 127 (qX11_shape_7 15 29 rfl)
theorem dX11_shape_128 : decode cX11_shape 128 = .ok (.ireturn, 1) := @dq_o172 cX11_shape 128 (qX11_shape_8 0 172 rfl)
abbrev qaX11_layer_0 : List Nat := [3, 61, 28, 42, 182, 0, 88, 162, 0, 26, 42, 27, 28, 182, 0, 166]
abbrev qaX11_layer_1 : List Nat := [9, 148, 153, 0, 9, 42, 28, 182, 0, 92, 172, 132, 2, 1, 167, 255]
abbrev qaX11_layer_2 : List Nat := [228, 42, 182, 1, 7, 4, 96, 172]
def qtX11_layer_3 : List Nat := []
def qtX11_layer_2 : List Nat := qaX11_layer_2 ++ qtX11_layer_3
def qtX11_layer_1 : List Nat := qaX11_layer_1 ++ qtX11_layer_2
def qtX11_layer_0 : List Nat := qaX11_layer_0 ++ qtX11_layer_1
theorem qeX11_layer : cX11_layer.data.toList.map UInt8.toNat = qtX11_layer_0 := by decide +kernel
theorem qsX11_layer_0 : ∀ i, dqNth qtX11_layer_0 (0 + i) = dqNth qtX11_layer_0 i := fun i => by rw [Nat.zero_add]
theorem qsX11_layer_1 : ∀ i, dqNth qtX11_layer_0 (16 + i) = dqNth qtX11_layer_1 i := dq_step qsX11_layer_0 rfl rfl
theorem qsX11_layer_2 : ∀ i, dqNth qtX11_layer_0 (32 + i) = dqNth qtX11_layer_2 i := dq_step qsX11_layer_1 rfl rfl
theorem qX11_layer_0 (i b : Nat) (h : dqNth qaX11_layer_0 i = some b) : DqBy cX11_layer (0 + i) b := dqBy_of qeX11_layer ((qsX11_layer_0 i).trans (dq_in h))
theorem qX11_layer_1 (i b : Nat) (h : dqNth qaX11_layer_1 i = some b) : DqBy cX11_layer (16 + i) b := dqBy_of qeX11_layer ((qsX11_layer_1 i).trans (dq_in h))
theorem qX11_layer_2 (i b : Nat) (h : dqNth qaX11_layer_2 i = some b) : DqBy cX11_layer (32 + i) b := dqBy_of qeX11_layer ((qsX11_layer_2 i).trans (dq_in h))
theorem dX11_layer_0 : decode cX11_layer 0 = .ok (.iconst 0, 1) := @dq_o3 cX11_layer 0 (qX11_layer_0 0 3 rfl)
theorem dX11_layer_1 : decode cX11_layer 1 = .ok (.istore_n 2, 1) := @dq_o61 cX11_layer 1 (qX11_layer_0 1 61 rfl)
theorem dX11_layer_2 : decode cX11_layer 2 = .ok (.iload_n 2, 1) := @dq_o28 cX11_layer 2 (qX11_layer_0 2 28 rfl)
theorem dX11_layer_3 : decode cX11_layer 3 = .ok (.aload_n 0, 1) := @dq_o42 cX11_layer 3 (qX11_layer_0 3 42 rfl)
theorem dX11_layer_4 : decode cX11_layer 4 = .ok (.invokevirtual 88, 3) := @dq_o182 cX11_layer 4 0 88 (qX11_layer_0 4 182 rfl) (qX11_layer_0 5 0 rfl) (qX11_layer_0 6 88 rfl)
theorem dX11_layer_7 : decode cX11_layer 7 = .ok (.if_icmp .ge 26, 3) := @dq_o162 cX11_layer 7 0 26 (qX11_layer_0 7 162 rfl) (qX11_layer_0 8 0 rfl) (qX11_layer_0 9 26 rfl)
theorem dX11_layer_10 : decode cX11_layer 10 = .ok (.aload_n 0, 1) := @dq_o42 cX11_layer 10 (qX11_layer_0 10 42 rfl)
theorem dX11_layer_11 : decode cX11_layer 11 = .ok (.iload_n 1, 1) := @dq_o27 cX11_layer 11 (qX11_layer_0 11 27 rfl)
theorem dX11_layer_12 : decode cX11_layer 12 = .ok (.iload_n 2, 1) := @dq_o28 cX11_layer 12 (qX11_layer_0 12 28 rfl)
theorem dX11_layer_13 : decode cX11_layer 13 = .ok (.invokevirtual 166, 3) := @dq_o182 cX11_layer 13 0 166 (qX11_layer_0 13 182 rfl) (qX11_layer_0 14 0 rfl) (qX11_layer_0 15 166 rfl)
theorem dX11_layer_16 : decode cX11_layer 16 = .ok (.lconst 0, 1) := @dq_o9 cX11_layer 16 (qX11_layer_1 0 9 rfl)
theorem dX11_layer_17 : decode cX11_layer 17 = .ok (.lcmp, 1) := @dq_o148 cX11_layer 17 (qX11_layer_1 1 148 rfl)
theorem dX11_layer_18 : decode cX11_layer 18 = .ok (.ifCond .eq 9, 3) := @dq_o153 cX11_layer 18 0 9 (qX11_layer_1 2 153 rfl) (qX11_layer_1 3 0 rfl) (qX11_layer_1 4 9 rfl)
theorem dX11_layer_21 : decode cX11_layer 21 = .ok (.aload_n 0, 1) := @dq_o42 cX11_layer 21 (qX11_layer_1 5 42 rfl)
theorem dX11_layer_22 : decode cX11_layer 22 = .ok (.iload_n 2, 1) := @dq_o28 cX11_layer 22 (qX11_layer_1 6 28 rfl)
theorem dX11_layer_23 : decode cX11_layer 23 = .ok (.invokevirtual 92, 3) := @dq_o182 cX11_layer 23 0 92 (qX11_layer_1 7 182 rfl) (qX11_layer_1 8 0 rfl) (qX11_layer_1 9 92 rfl)
theorem dX11_layer_26 : decode cX11_layer 26 = .ok (.ireturn, 1) := @dq_o172 cX11_layer 26 (qX11_layer_1 10 172 rfl)
theorem dX11_layer_27 : decode cX11_layer 27 = .ok (.iinc 2 1, 3) := @dq_o132 cX11_layer 27 2 1 (qX11_layer_1 11 132 rfl) (qX11_layer_1 12 2 rfl) (qX11_layer_1 13 1 rfl)
theorem dX11_layer_30 : decode cX11_layer 30 = .ok (.goto (-28), 3) := @dq_o167 cX11_layer 30 255 228 (qX11_layer_1 14 167 rfl) (qX11_layer_1 15 255 rfl) (qX11_layer_2 0 228 rfl)
theorem dX11_layer_33 : decode cX11_layer 33 = .ok (.aload_n 0, 1) := @dq_o42 cX11_layer 33 (qX11_layer_2 1 42 rfl)
theorem dX11_layer_34 : decode cX11_layer 34 = .ok (.invokevirtual 263, 3) := @dq_o182 cX11_layer 34 1 7 (qX11_layer_2 2 182 rfl) (qX11_layer_2 3 1 rfl) (qX11_layer_2 4 7 rfl)
theorem dX11_layer_37 : decode cX11_layer 37 = .ok (.iconst 1, 1) := @dq_o4 cX11_layer 37 (qX11_layer_2 5 4 rfl)
theorem dX11_layer_38 : decode cX11_layer 38 = .ok (.iadd, 1) := @dq_o96 cX11_layer 38 (qX11_layer_2 6 96 rfl)
theorem dX11_layer_39 : decode cX11_layer 39 = .ok (.ireturn, 1) := @dq_o172 cX11_layer 39 (qX11_layer_2 7 172 rfl)
abbrev qaX11_place_0 : List Nat := [3, 61, 28, 42, 180, 1, 113, 162, 0, 68, 4, 62, 3, 54, 4, 21]
abbrev qaX11_place_1 : List Nat := [4, 42, 182, 0, 88, 162, 0, 42, 29, 153, 0, 38, 42, 180, 0, 58]
abbrev qaX11_place_2 : List Nat := [16, 6, 28, 104, 21, 4, 96, 47, 42, 27, 21, 4, 182, 0, 166, 148]
abbrev qaX11_place_3 : List Nat := [154, 0, 7, 4, 167, 0, 4, 3, 62, 132, 4, 1, 167, 255, 211, 29]
abbrev qaX11_place_4 : List Nat := [153, 0, 5, 28, 172, 132, 2, 1, 167, 255, 186, 42, 180, 1, 113, 172]
def qtX11_place_5 : List Nat := []
def qtX11_place_4 : List Nat := qaX11_place_4 ++ qtX11_place_5
def qtX11_place_3 : List Nat := qaX11_place_3 ++ qtX11_place_4
def qtX11_place_2 : List Nat := qaX11_place_2 ++ qtX11_place_3
def qtX11_place_1 : List Nat := qaX11_place_1 ++ qtX11_place_2
def qtX11_place_0 : List Nat := qaX11_place_0 ++ qtX11_place_1
theorem qeX11_place : cX11_place.data.toList.map UInt8.toNat = qtX11_place_0 := by decide +kernel
theorem qsX11_place_0 : ∀ i, dqNth qtX11_place_0 (0 + i) = dqNth qtX11_place_0 i := fun i => by rw [Nat.zero_add]
theorem qsX11_place_1 : ∀ i, dqNth qtX11_place_0 (16 + i) = dqNth qtX11_place_1 i := dq_step qsX11_place_0 rfl rfl
theorem qsX11_place_2 : ∀ i, dqNth qtX11_place_0 (32 + i) = dqNth qtX11_place_2 i := dq_step qsX11_place_1 rfl rfl
theorem qsX11_place_3 : ∀ i, dqNth qtX11_place_0 (48 + i) = dqNth qtX11_place_3 i := dq_step qsX11_place_2 rfl rfl
theorem qsX11_place_4 : ∀ i, dqNth qtX11_place_0 (64 + i) = dqNth qtX11_place_4 i := dq_step qsX11_place_3 rfl rfl
theorem qX11_place_0 (i b : Nat) (h : dqNth qaX11_place_0 i = some b) : DqBy cX11_place (0 + i) b := dqBy_of qeX11_place ((qsX11_place_0 i).trans (dq_in h))
theorem qX11_place_1 (i b : Nat) (h : dqNth qaX11_place_1 i = some b) : DqBy cX11_place (16 + i) b := dqBy_of qeX11_place ((qsX11_place_1 i).trans (dq_in h))
theorem qX11_place_2 (i b : Nat) (h : dqNth qaX11_place_2 i = some b) : DqBy cX11_place (32 + i) b := dqBy_of qeX11_place ((qsX11_place_2 i).trans (dq_in h))
theorem qX11_place_3 (i b : Nat) (h : dqNth qaX11_place_3 i = some b) : DqBy cX11_place (48 + i) b := dqBy_of qeX11_place ((qsX11_place_3 i).trans (dq_in h))
theorem qX11_place_4 (i b : Nat) (h : dqNth qaX11_place_4 i = some b) : DqBy cX11_place (64 + i) b := dqBy_of qeX11_place ((qsX11_place_4 i).trans (dq_in h))
theorem dX11_place_0 : decode cX11_place 0 = .ok (.iconst 0, 1) := @dq_o3 cX11_place 0 (qX11_place_0 0 3 rfl)
theorem dX11_place_1 : decode cX11_place 1 = .ok (.istore_n 2, 1) := @dq_o61 cX11_place 1 (qX11_place_0 1 61 rfl)
theorem dX11_place_2 : decode cX11_place 2 = .ok (.iload_n 2, 1) := @dq_o28 cX11_place 2 (qX11_place_0 2 28 rfl)
theorem dX11_place_3 : decode cX11_place 3 = .ok (.aload_n 0, 1) := @dq_o42 cX11_place 3 (qX11_place_0 3 42 rfl)
theorem dX11_place_4 : decode cX11_place 4 = .ok (.getfield 369, 3) := @dq_o180 cX11_place 4 1 113 (qX11_place_0 4 180 rfl) (qX11_place_0 5 1 rfl) (qX11_place_0 6 113 rfl)
theorem dX11_place_7 : decode cX11_place 7 = .ok (.if_icmp .ge 68, 3) := @dq_o162 cX11_place 7 0 68 (qX11_place_0 7 162 rfl) (qX11_place_0 8 0 rfl) (qX11_place_0 9 68 rfl)
theorem dX11_place_10 : decode cX11_place 10 = .ok (.iconst 1, 1) := @dq_o4 cX11_place 10 (qX11_place_0 10 4 rfl)
theorem dX11_place_11 : decode cX11_place 11 = .ok (.istore_n 3, 1) := @dq_o62 cX11_place 11 (qX11_place_0 11 62 rfl)
theorem dX11_place_12 : decode cX11_place 12 = .ok (.iconst 0, 1) := @dq_o3 cX11_place 12 (qX11_place_0 12 3 rfl)
theorem dX11_place_13 : decode cX11_place 13 = .ok (.istore 4, 2) := @dq_o54 cX11_place 13 4 (qX11_place_0 13 54 rfl) (qX11_place_0 14 4 rfl)
theorem dX11_place_15 : decode cX11_place 15 = .ok (.iload 4, 2) := @dq_o21 cX11_place 15 4 (qX11_place_0 15 21 rfl) (qX11_place_1 0 4 rfl)
theorem dX11_place_17 : decode cX11_place 17 = .ok (.aload_n 0, 1) := @dq_o42 cX11_place 17 (qX11_place_1 1 42 rfl)
theorem dX11_place_18 : decode cX11_place 18 = .ok (.invokevirtual 88, 3) := @dq_o182 cX11_place 18 0 88 (qX11_place_1 2 182 rfl) (qX11_place_1 3 0 rfl) (qX11_place_1 4 88 rfl)
theorem dX11_place_21 : decode cX11_place 21 = .ok (.if_icmp .ge 42, 3) := @dq_o162 cX11_place 21 0 42 (qX11_place_1 5 162 rfl) (qX11_place_1 6 0 rfl) (qX11_place_1 7 42 rfl)
theorem dX11_place_24 : decode cX11_place 24 = .ok (.iload_n 3, 1) := @dq_o29 cX11_place 24 (qX11_place_1 8 29 rfl)
theorem dX11_place_25 : decode cX11_place 25 = .ok (.ifCond .eq 38, 3) := @dq_o153 cX11_place 25 0 38 (qX11_place_1 9 153 rfl) (qX11_place_1 10 0 rfl) (qX11_place_1 11 38 rfl)
theorem dX11_place_28 : decode cX11_place 28 = .ok (.aload_n 0, 1) := @dq_o42 cX11_place 28 (qX11_place_1 12 42 rfl)
theorem dX11_place_29 : decode cX11_place 29 = .ok (.getfield 58, 3) := @dq_o180 cX11_place 29 0 58 (qX11_place_1 13 180 rfl) (qX11_place_1 14 0 rfl) (qX11_place_1 15 58 rfl)
theorem dX11_place_32 : decode cX11_place 32 = .ok (.bipush 6, 2) := @dq_o16 cX11_place 32 6 (qX11_place_2 0 16 rfl) (qX11_place_2 1 6 rfl)
theorem dX11_place_34 : decode cX11_place 34 = .ok (.iload_n 2, 1) := @dq_o28 cX11_place 34 (qX11_place_2 2 28 rfl)
theorem dX11_place_35 : decode cX11_place 35 = .ok (.imul, 1) := @dq_o104 cX11_place 35 (qX11_place_2 3 104 rfl)
theorem dX11_place_36 : decode cX11_place 36 = .ok (.iload 4, 2) := @dq_o21 cX11_place 36 4 (qX11_place_2 4 21 rfl) (qX11_place_2 5 4 rfl)
theorem dX11_place_38 : decode cX11_place 38 = .ok (.iadd, 1) := @dq_o96 cX11_place 38 (qX11_place_2 6 96 rfl)
theorem dX11_place_39 : decode cX11_place 39 = .ok (.laload, 1) := @dq_o47 cX11_place 39 (qX11_place_2 7 47 rfl)
theorem dX11_place_40 : decode cX11_place 40 = .ok (.aload_n 0, 1) := @dq_o42 cX11_place 40 (qX11_place_2 8 42 rfl)
theorem dX11_place_41 : decode cX11_place 41 = .ok (.iload_n 1, 1) := @dq_o27 cX11_place 41 (qX11_place_2 9 27 rfl)
theorem dX11_place_42 : decode cX11_place 42 = .ok (.iload 4, 2) := @dq_o21 cX11_place 42 4 (qX11_place_2 10 21 rfl) (qX11_place_2 11 4 rfl)
theorem dX11_place_44 : decode cX11_place 44 = .ok (.invokevirtual 166, 3) := @dq_o182 cX11_place 44 0 166 (qX11_place_2 12 182 rfl) (qX11_place_2 13 0 rfl) (qX11_place_2 14 166 rfl)
theorem dX11_place_47 : decode cX11_place 47 = .ok (.lcmp, 1) := @dq_o148 cX11_place 47 (qX11_place_2 15 148 rfl)
theorem dX11_place_48 : decode cX11_place 48 = .ok (.ifCond .ne 7, 3) := @dq_o154 cX11_place 48 0 7 (qX11_place_3 0 154 rfl) (qX11_place_3 1 0 rfl) (qX11_place_3 2 7 rfl)
theorem dX11_place_51 : decode cX11_place 51 = .ok (.iconst 1, 1) := @dq_o4 cX11_place 51 (qX11_place_3 3 4 rfl)
theorem dX11_place_52 : decode cX11_place 52 = .ok (.goto 4, 3) := @dq_o167 cX11_place 52 0 4 (qX11_place_3 4 167 rfl) (qX11_place_3 5 0 rfl) (qX11_place_3 6 4 rfl)
theorem dX11_place_55 : decode cX11_place 55 = .ok (.iconst 0, 1) := @dq_o3 cX11_place 55 (qX11_place_3 7 3 rfl)
theorem dX11_place_56 : decode cX11_place 56 = .ok (.istore_n 3, 1) := @dq_o62 cX11_place 56 (qX11_place_3 8 62 rfl)
theorem dX11_place_57 : decode cX11_place 57 = .ok (.iinc 4 1, 3) := @dq_o132 cX11_place 57 4 1 (qX11_place_3 9 132 rfl) (qX11_place_3 10 4 rfl) (qX11_place_3 11 1 rfl)
theorem dX11_place_60 : decode cX11_place 60 = .ok (.goto (-45), 3) := @dq_o167 cX11_place 60 255 211 (qX11_place_3 12 167 rfl) (qX11_place_3 13 255 rfl) (qX11_place_3 14 211 rfl)
theorem dX11_place_63 : decode cX11_place 63 = .ok (.iload_n 3, 1) := @dq_o29 cX11_place 63 (qX11_place_3 15 29 rfl)
theorem dX11_place_64 : decode cX11_place 64 = .ok (.ifCond .eq 5, 3) := @dq_o153 cX11_place 64 0 5 (qX11_place_4 0 153 rfl) (qX11_place_4 1 0 rfl) (qX11_place_4 2 5 rfl)
theorem dX11_place_67 : decode cX11_place 67 = .ok (.iload_n 2, 1) := @dq_o28 cX11_place 67 (qX11_place_4 3 28 rfl)
theorem dX11_place_68 : decode cX11_place 68 = .ok (.ireturn, 1) := @dq_o172 cX11_place 68 (qX11_place_4 4 172 rfl)
theorem dX11_place_69 : decode cX11_place 69 = .ok (.iinc 2 1, 3) := @dq_o132 cX11_place 69 2 1 (qX11_place_4 5 132 rfl) (qX11_place_4 6 2 rfl) (qX11_place_4 7 1 rfl)
theorem dX11_place_72 : decode cX11_place 72 = .ok (.goto (-70), 3) := @dq_o167 cX11_place 72 255 186 (qX11_place_4 8 167 rfl) (qX11_place_4 9 255 rfl) (qX11_place_4 10 186 rfl)
theorem dX11_place_75 : decode cX11_place 75 = .ok (.aload_n 0, 1) := @dq_o42 cX11_place 75 (qX11_place_4 11 42 rfl)
theorem dX11_place_76 : decode cX11_place 76 = .ok (.getfield 369, 3) := @dq_o180 cX11_place 76 1 113 (qX11_place_4 12 180 rfl) (qX11_place_4 13 1 rfl) (qX11_place_4 14 113 rfl)
theorem dX11_place_79 : decode cX11_place 79 = .ok (.ireturn, 1) := @dq_o172 cX11_place 79 (qX11_place_4 15 172 rfl)
abbrev qaX11_meets_0 : List Nat := [42, 27, 182, 1, 116, 61, 28, 42, 180, 1, 113, 162, 0, 4, 177, 3]
abbrev qaX11_meets_1 : List Nat := [62, 29, 16, 6, 162, 0, 26, 42, 180, 0, 58, 16, 6, 28, 104, 29]
abbrev qaX11_meets_2 : List Nat := [96, 42, 27, 29, 182, 0, 166, 80, 132, 3, 1, 167, 255, 230, 42, 42]
abbrev qaX11_meets_3 : List Nat := [180, 1, 113, 4, 96, 181, 1, 113, 177]
def qtX11_meets_4 : List Nat := []
def qtX11_meets_3 : List Nat := qaX11_meets_3 ++ qtX11_meets_4
def qtX11_meets_2 : List Nat := qaX11_meets_2 ++ qtX11_meets_3
def qtX11_meets_1 : List Nat := qaX11_meets_1 ++ qtX11_meets_2
def qtX11_meets_0 : List Nat := qaX11_meets_0 ++ qtX11_meets_1
theorem qeX11_meets : cX11_meets.data.toList.map UInt8.toNat = qtX11_meets_0 := by decide +kernel
theorem qsX11_meets_0 : ∀ i, dqNth qtX11_meets_0 (0 + i) = dqNth qtX11_meets_0 i := fun i => by rw [Nat.zero_add]
theorem qsX11_meets_1 : ∀ i, dqNth qtX11_meets_0 (16 + i) = dqNth qtX11_meets_1 i := dq_step qsX11_meets_0 rfl rfl
theorem qsX11_meets_2 : ∀ i, dqNth qtX11_meets_0 (32 + i) = dqNth qtX11_meets_2 i := dq_step qsX11_meets_1 rfl rfl
theorem qsX11_meets_3 : ∀ i, dqNth qtX11_meets_0 (48 + i) = dqNth qtX11_meets_3 i := dq_step qsX11_meets_2 rfl rfl
theorem qX11_meets_0 (i b : Nat) (h : dqNth qaX11_meets_0 i = some b) : DqBy cX11_meets (0 + i) b := dqBy_of qeX11_meets ((qsX11_meets_0 i).trans (dq_in h))
theorem qX11_meets_1 (i b : Nat) (h : dqNth qaX11_meets_1 i = some b) : DqBy cX11_meets (16 + i) b := dqBy_of qeX11_meets ((qsX11_meets_1 i).trans (dq_in h))
theorem qX11_meets_2 (i b : Nat) (h : dqNth qaX11_meets_2 i = some b) : DqBy cX11_meets (32 + i) b := dqBy_of qeX11_meets ((qsX11_meets_2 i).trans (dq_in h))
theorem qX11_meets_3 (i b : Nat) (h : dqNth qaX11_meets_3 i = some b) : DqBy cX11_meets (48 + i) b := dqBy_of qeX11_meets ((qsX11_meets_3 i).trans (dq_in h))
theorem dX11_meets_0 : decode cX11_meets 0 = .ok (.aload_n 0, 1) := @dq_o42 cX11_meets 0 (qX11_meets_0 0 42 rfl)
theorem dX11_meets_1 : decode cX11_meets 1 = .ok (.iload_n 1, 1) := @dq_o27 cX11_meets 1 (qX11_meets_0 1 27 rfl)
theorem dX11_meets_2 : decode cX11_meets 2 = .ok (.invokevirtual 372, 3) := @dq_o182 cX11_meets 2 1 116 (qX11_meets_0 2 182 rfl) (qX11_meets_0 3 1 rfl) (qX11_meets_0 4 116 rfl)
theorem dX11_meets_5 : decode cX11_meets 5 = .ok (.istore_n 2, 1) := @dq_o61 cX11_meets 5 (qX11_meets_0 5 61 rfl)
theorem dX11_meets_6 : decode cX11_meets 6 = .ok (.iload_n 2, 1) := @dq_o28 cX11_meets 6 (qX11_meets_0 6 28 rfl)
theorem dX11_meets_7 : decode cX11_meets 7 = .ok (.aload_n 0, 1) := @dq_o42 cX11_meets 7 (qX11_meets_0 7 42 rfl)
theorem dX11_meets_8 : decode cX11_meets 8 = .ok (.getfield 369, 3) := @dq_o180 cX11_meets 8 1 113 (qX11_meets_0 8 180 rfl) (qX11_meets_0 9 1 rfl) (qX11_meets_0 10 113 rfl)
theorem dX11_meets_11 : decode cX11_meets 11 = .ok (.if_icmp .ge 4, 3) := @dq_o162 cX11_meets 11 0 4 (qX11_meets_0 11 162 rfl) (qX11_meets_0 12 0 rfl) (qX11_meets_0 13 4 rfl)
theorem dX11_meets_14 : decode cX11_meets 14 = .ok (.return_, 1) := @dq_o177 cX11_meets 14 (qX11_meets_0 14 177 rfl)
theorem dX11_meets_15 : decode cX11_meets 15 = .ok (.iconst 0, 1) := @dq_o3 cX11_meets 15 (qX11_meets_0 15 3 rfl)
theorem dX11_meets_16 : decode cX11_meets 16 = .ok (.istore_n 3, 1) := @dq_o62 cX11_meets 16 (qX11_meets_1 0 62 rfl)
theorem dX11_meets_17 : decode cX11_meets 17 = .ok (.iload_n 3, 1) := @dq_o29 cX11_meets 17 (qX11_meets_1 1 29 rfl)
theorem dX11_meets_18 : decode cX11_meets 18 = .ok (.bipush 6, 2) := @dq_o16 cX11_meets 18 6 (qX11_meets_1 2 16 rfl) (qX11_meets_1 3 6 rfl)
theorem dX11_meets_20 : decode cX11_meets 20 = .ok (.if_icmp .ge 26, 3) := @dq_o162 cX11_meets 20 0 26 (qX11_meets_1 4 162 rfl) (qX11_meets_1 5 0 rfl) (qX11_meets_1 6 26 rfl)
theorem dX11_meets_23 : decode cX11_meets 23 = .ok (.aload_n 0, 1) := @dq_o42 cX11_meets 23 (qX11_meets_1 7 42 rfl)
theorem dX11_meets_24 : decode cX11_meets 24 = .ok (.getfield 58, 3) := @dq_o180 cX11_meets 24 0 58 (qX11_meets_1 8 180 rfl) (qX11_meets_1 9 0 rfl) (qX11_meets_1 10 58 rfl)
theorem dX11_meets_27 : decode cX11_meets 27 = .ok (.bipush 6, 2) := @dq_o16 cX11_meets 27 6 (qX11_meets_1 11 16 rfl) (qX11_meets_1 12 6 rfl)
theorem dX11_meets_29 : decode cX11_meets 29 = .ok (.iload_n 2, 1) := @dq_o28 cX11_meets 29 (qX11_meets_1 13 28 rfl)
theorem dX11_meets_30 : decode cX11_meets 30 = .ok (.imul, 1) := @dq_o104 cX11_meets 30 (qX11_meets_1 14 104 rfl)
theorem dX11_meets_31 : decode cX11_meets 31 = .ok (.iload_n 3, 1) := @dq_o29 cX11_meets 31 (qX11_meets_1 15 29 rfl)
theorem dX11_meets_32 : decode cX11_meets 32 = .ok (.iadd, 1) := @dq_o96 cX11_meets 32 (qX11_meets_2 0 96 rfl)
theorem dX11_meets_33 : decode cX11_meets 33 = .ok (.aload_n 0, 1) := @dq_o42 cX11_meets 33 (qX11_meets_2 1 42 rfl)
theorem dX11_meets_34 : decode cX11_meets 34 = .ok (.iload_n 1, 1) := @dq_o27 cX11_meets 34 (qX11_meets_2 2 27 rfl)
theorem dX11_meets_35 : decode cX11_meets 35 = .ok (.iload_n 3, 1) := @dq_o29 cX11_meets 35 (qX11_meets_2 3 29 rfl)
theorem dX11_meets_36 : decode cX11_meets 36 = .ok (.invokevirtual 166, 3) := @dq_o182 cX11_meets 36 0 166 (qX11_meets_2 4 182 rfl) (qX11_meets_2 5 0 rfl) (qX11_meets_2 6 166 rfl)
theorem dX11_meets_39 : decode cX11_meets 39 = .ok (.lastore, 1) := @dq_o80 cX11_meets 39 (qX11_meets_2 7 80 rfl)
theorem dX11_meets_40 : decode cX11_meets 40 = .ok (.iinc 3 1, 3) := @dq_o132 cX11_meets 40 3 1 (qX11_meets_2 8 132 rfl) (qX11_meets_2 9 3 rfl) (qX11_meets_2 10 1 rfl)
theorem dX11_meets_43 : decode cX11_meets 43 = .ok (.goto (-26), 3) := @dq_o167 cX11_meets 43 255 230 (qX11_meets_2 11 167 rfl) (qX11_meets_2 12 255 rfl) (qX11_meets_2 13 230 rfl)
theorem dX11_meets_46 : decode cX11_meets 46 = .ok (.aload_n 0, 1) := @dq_o42 cX11_meets 46 (qX11_meets_2 14 42 rfl)
theorem dX11_meets_47 : decode cX11_meets 47 = .ok (.aload_n 0, 1) := @dq_o42 cX11_meets 47 (qX11_meets_2 15 42 rfl)
theorem dX11_meets_48 : decode cX11_meets 48 = .ok (.getfield 369, 3) := @dq_o180 cX11_meets 48 1 113 (qX11_meets_3 0 180 rfl) (qX11_meets_3 1 1 rfl) (qX11_meets_3 2 113 rfl)
theorem dX11_meets_51 : decode cX11_meets 51 = .ok (.iconst 1, 1) := @dq_o4 cX11_meets 51 (qX11_meets_3 3 4 rfl)
theorem dX11_meets_52 : decode cX11_meets 52 = .ok (.iadd, 1) := @dq_o96 cX11_meets 52 (qX11_meets_3 4 96 rfl)
theorem dX11_meets_53 : decode cX11_meets 53 = .ok (.putfield 369, 3) := @dq_o181 cX11_meets 53 1 113 (qX11_meets_3 5 181 rfl) (qX11_meets_3 6 1 rfl) (qX11_meets_3 7 113 rfl)
theorem dX11_meets_56 : decode cX11_meets 56 = .ok (.return_, 1) := @dq_o177 cX11_meets 56 (qX11_meets_3 8 177 rfl)
abbrev qaX11_laysBall_0 : List Nat := [42, 3, 181, 1, 113, 42, 16, 20, 182, 0, 190, 42, 16, 20, 182, 1]
abbrev qaX11_laysBall_1 : List Nat := [119, 3, 61, 3, 62, 29, 27, 162, 0, 151, 42, 180, 1, 113, 54, 4]
abbrev qaX11_laysBall_2 : List Nat := [28, 54, 5, 21, 5, 21, 4, 162, 0, 126, 3, 54, 6, 21, 6, 5]
abbrev qaX11_laysBall_3 : List Nat := [42, 182, 0, 88, 104, 162, 0, 106, 42, 21, 6, 5, 108, 182, 0, 92]
abbrev qaX11_laysBall_4 : List Nat := [4, 164, 0, 6, 167, 0, 85, 3, 54, 7, 21, 7, 16, 6, 162, 0]
abbrev qaX11_laysBall_5 : List Nat := [30, 42, 16, 20, 21, 7, 42, 180, 0, 58, 16, 6, 21, 5, 104, 21]
abbrev qaX11_laysBall_6 : List Nat := [7, 96, 47, 182, 0, 162, 132, 7, 1, 167, 255, 225, 42, 16, 20, 21]
abbrev qaX11_laysBall_7 : List Nat := [6, 5, 108, 21, 6, 5, 112, 154, 0, 7, 10, 167, 0, 6, 20, 0]
abbrev qaX11_laysBall_8 : List Nat := [221, 182, 0, 187, 42, 16, 20, 182, 1, 119, 42, 180, 1, 113, 17, 3]
abbrev qaX11_laysBall_9 : List Nat := [232, 164, 0, 8, 42, 180, 1, 113, 172, 132, 6, 1, 167, 255, 145, 132]
abbrev qaX11_laysBall_10 : List Nat := [5, 1, 167, 255, 129, 21, 4, 61, 132, 3, 1, 167, 255, 106, 42, 180]
abbrev qaX11_laysBall_11 : List Nat := [1, 113, 172]
def qtX11_laysBall_12 : List Nat := []
def qtX11_laysBall_11 : List Nat := qaX11_laysBall_11 ++ qtX11_laysBall_12
def qtX11_laysBall_10 : List Nat := qaX11_laysBall_10 ++ qtX11_laysBall_11
def qtX11_laysBall_9 : List Nat := qaX11_laysBall_9 ++ qtX11_laysBall_10
def qtX11_laysBall_8 : List Nat := qaX11_laysBall_8 ++ qtX11_laysBall_9
def qtX11_laysBall_7 : List Nat := qaX11_laysBall_7 ++ qtX11_laysBall_8
def qtX11_laysBall_6 : List Nat := qaX11_laysBall_6 ++ qtX11_laysBall_7
def qtX11_laysBall_5 : List Nat := qaX11_laysBall_5 ++ qtX11_laysBall_6
def qtX11_laysBall_4 : List Nat := qaX11_laysBall_4 ++ qtX11_laysBall_5
def qtX11_laysBall_3 : List Nat := qaX11_laysBall_3 ++ qtX11_laysBall_4
def qtX11_laysBall_2 : List Nat := qaX11_laysBall_2 ++ qtX11_laysBall_3
def qtX11_laysBall_1 : List Nat := qaX11_laysBall_1 ++ qtX11_laysBall_2
def qtX11_laysBall_0 : List Nat := qaX11_laysBall_0 ++ qtX11_laysBall_1
theorem qeX11_laysBall : cX11_laysBall.data.toList.map UInt8.toNat = qtX11_laysBall_0 := by decide +kernel
theorem qsX11_laysBall_0 : ∀ i, dqNth qtX11_laysBall_0 (0 + i) = dqNth qtX11_laysBall_0 i := fun i => by rw [Nat.zero_add]
theorem qsX11_laysBall_1 : ∀ i, dqNth qtX11_laysBall_0 (16 + i) = dqNth qtX11_laysBall_1 i := dq_step qsX11_laysBall_0 rfl rfl
theorem qsX11_laysBall_2 : ∀ i, dqNth qtX11_laysBall_0 (32 + i) = dqNth qtX11_laysBall_2 i := dq_step qsX11_laysBall_1 rfl rfl
theorem qsX11_laysBall_3 : ∀ i, dqNth qtX11_laysBall_0 (48 + i) = dqNth qtX11_laysBall_3 i := dq_step qsX11_laysBall_2 rfl rfl
theorem qsX11_laysBall_4 : ∀ i, dqNth qtX11_laysBall_0 (64 + i) = dqNth qtX11_laysBall_4 i := dq_step qsX11_laysBall_3 rfl rfl
theorem qsX11_laysBall_5 : ∀ i, dqNth qtX11_laysBall_0 (80 + i) = dqNth qtX11_laysBall_5 i := dq_step qsX11_laysBall_4 rfl rfl
theorem qsX11_laysBall_6 : ∀ i, dqNth qtX11_laysBall_0 (96 + i) = dqNth qtX11_laysBall_6 i := dq_step qsX11_laysBall_5 rfl rfl
theorem qsX11_laysBall_7 : ∀ i, dqNth qtX11_laysBall_0 (112 + i) = dqNth qtX11_laysBall_7 i := dq_step qsX11_laysBall_6 rfl rfl
theorem qsX11_laysBall_8 : ∀ i, dqNth qtX11_laysBall_0 (128 + i) = dqNth qtX11_laysBall_8 i := dq_step qsX11_laysBall_7 rfl rfl
theorem qsX11_laysBall_9 : ∀ i, dqNth qtX11_laysBall_0 (144 + i) = dqNth qtX11_laysBall_9 i := dq_step qsX11_laysBall_8 rfl rfl
theorem qsX11_laysBall_10 : ∀ i, dqNth qtX11_laysBall_0 (160 + i) = dqNth qtX11_laysBall_10 i := dq_step qsX11_laysBall_9 rfl rfl
theorem qsX11_laysBall_11 : ∀ i, dqNth qtX11_laysBall_0 (176 + i) = dqNth qtX11_laysBall_11 i := dq_step qsX11_laysBall_10 rfl rfl
theorem qX11_laysBall_0 (i b : Nat) (h : dqNth qaX11_laysBall_0 i = some b) : DqBy cX11_laysBall (0 + i) b := dqBy_of qeX11_laysBall ((qsX11_laysBall_0 i).trans (dq_in h))
theorem qX11_laysBall_1 (i b : Nat) (h : dqNth qaX11_laysBall_1 i = some b) : DqBy cX11_laysBall (16 + i) b := dqBy_of qeX11_laysBall ((qsX11_laysBall_1 i).trans (dq_in h))
theorem qX11_laysBall_2 (i b : Nat) (h : dqNth qaX11_laysBall_2 i = some b) : DqBy cX11_laysBall (32 + i) b := dqBy_of qeX11_laysBall ((qsX11_laysBall_2 i).trans (dq_in h))
theorem qX11_laysBall_3 (i b : Nat) (h : dqNth qaX11_laysBall_3 i = some b) : DqBy cX11_laysBall (48 + i) b := dqBy_of qeX11_laysBall ((qsX11_laysBall_3 i).trans (dq_in h))
theorem qX11_laysBall_4 (i b : Nat) (h : dqNth qaX11_laysBall_4 i = some b) : DqBy cX11_laysBall (64 + i) b := dqBy_of qeX11_laysBall ((qsX11_laysBall_4 i).trans (dq_in h))
theorem qX11_laysBall_5 (i b : Nat) (h : dqNth qaX11_laysBall_5 i = some b) : DqBy cX11_laysBall (80 + i) b := dqBy_of qeX11_laysBall ((qsX11_laysBall_5 i).trans (dq_in h))
theorem qX11_laysBall_6 (i b : Nat) (h : dqNth qaX11_laysBall_6 i = some b) : DqBy cX11_laysBall (96 + i) b := dqBy_of qeX11_laysBall ((qsX11_laysBall_6 i).trans (dq_in h))
theorem qX11_laysBall_7 (i b : Nat) (h : dqNth qaX11_laysBall_7 i = some b) : DqBy cX11_laysBall (112 + i) b := dqBy_of qeX11_laysBall ((qsX11_laysBall_7 i).trans (dq_in h))
theorem qX11_laysBall_8 (i b : Nat) (h : dqNth qaX11_laysBall_8 i = some b) : DqBy cX11_laysBall (128 + i) b := dqBy_of qeX11_laysBall ((qsX11_laysBall_8 i).trans (dq_in h))
theorem qX11_laysBall_9 (i b : Nat) (h : dqNth qaX11_laysBall_9 i = some b) : DqBy cX11_laysBall (144 + i) b := dqBy_of qeX11_laysBall ((qsX11_laysBall_9 i).trans (dq_in h))
theorem qX11_laysBall_10 (i b : Nat) (h : dqNth qaX11_laysBall_10 i = some b) : DqBy cX11_laysBall (160 + i) b := dqBy_of qeX11_laysBall ((qsX11_laysBall_10 i).trans (dq_in h))
theorem qX11_laysBall_11 (i b : Nat) (h : dqNth qaX11_laysBall_11 i = some b) : DqBy cX11_laysBall (176 + i) b := dqBy_of qeX11_laysBall ((qsX11_laysBall_11 i).trans (dq_in h))
theorem dX11_laysBall_0 : decode cX11_laysBall 0 = .ok (.aload_n 0, 1) := @dq_o42 cX11_laysBall 0 (qX11_laysBall_0 0 42 rfl)
theorem dX11_laysBall_1 : decode cX11_laysBall 1 = .ok (.iconst 0, 1) := @dq_o3 cX11_laysBall 1 (qX11_laysBall_0 1 3 rfl)
theorem dX11_laysBall_2 : decode cX11_laysBall 2 = .ok (.putfield 369, 3) := @dq_o181 cX11_laysBall 2 1 113 (qX11_laysBall_0 2 181 rfl) (qX11_laysBall_0 3 1 rfl) (qX11_laysBall_0 4 113 rfl)
theorem dX11_laysBall_5 : decode cX11_laysBall 5 = .ok (.aload_n 0, 1) := @dq_o42 cX11_laysBall 5 (qX11_laysBall_0 5 42 rfl)
theorem dX11_laysBall_6 : decode cX11_laysBall 6 = .ok (.bipush 20, 2) := @dq_o16 cX11_laysBall 6 20 (qX11_laysBall_0 6 16 rfl) (qX11_laysBall_0 7 20 rfl)
theorem dX11_laysBall_8 : decode cX11_laysBall 8 = .ok (.invokevirtual 190, 3) := @dq_o182 cX11_laysBall 8 0 190 (qX11_laysBall_0 8 182 rfl) (qX11_laysBall_0 9 0 rfl) (qX11_laysBall_0 10 190 rfl)
theorem dX11_laysBall_11 : decode cX11_laysBall 11 = .ok (.aload_n 0, 1) := @dq_o42 cX11_laysBall 11 (qX11_laysBall_0 11 42 rfl)
theorem dX11_laysBall_12 : decode cX11_laysBall 12 = .ok (.bipush 20, 2) := @dq_o16 cX11_laysBall 12 20 (qX11_laysBall_0 12 16 rfl) (qX11_laysBall_0 13 20 rfl)
theorem dX11_laysBall_14 : decode cX11_laysBall 14 = .ok (.invokevirtual 375, 3) := @dq_o182 cX11_laysBall 14 1 119 (qX11_laysBall_0 14 182 rfl) (qX11_laysBall_0 15 1 rfl) (qX11_laysBall_1 0 119 rfl)
theorem dX11_laysBall_17 : decode cX11_laysBall 17 = .ok (.iconst 0, 1) := @dq_o3 cX11_laysBall 17 (qX11_laysBall_1 1 3 rfl)
theorem dX11_laysBall_18 : decode cX11_laysBall 18 = .ok (.istore_n 2, 1) := @dq_o61 cX11_laysBall 18 (qX11_laysBall_1 2 61 rfl)
theorem dX11_laysBall_19 : decode cX11_laysBall 19 = .ok (.iconst 0, 1) := @dq_o3 cX11_laysBall 19 (qX11_laysBall_1 3 3 rfl)
theorem dX11_laysBall_20 : decode cX11_laysBall 20 = .ok (.istore_n 3, 1) := @dq_o62 cX11_laysBall 20 (qX11_laysBall_1 4 62 rfl)
theorem dX11_laysBall_21 : decode cX11_laysBall 21 = .ok (.iload_n 3, 1) := @dq_o29 cX11_laysBall 21 (qX11_laysBall_1 5 29 rfl)
theorem dX11_laysBall_22 : decode cX11_laysBall 22 = .ok (.iload_n 1, 1) := @dq_o27 cX11_laysBall 22 (qX11_laysBall_1 6 27 rfl)
theorem dX11_laysBall_23 : decode cX11_laysBall 23 = .ok (.if_icmp .ge 151, 3) := @dq_o162 cX11_laysBall 23 0 151 (qX11_laysBall_1 7 162 rfl) (qX11_laysBall_1 8 0 rfl) (qX11_laysBall_1 9 151 rfl)
theorem dX11_laysBall_26 : decode cX11_laysBall 26 = .ok (.aload_n 0, 1) := @dq_o42 cX11_laysBall 26 (qX11_laysBall_1 10 42 rfl)
theorem dX11_laysBall_27 : decode cX11_laysBall 27 = .ok (.getfield 369, 3) := @dq_o180 cX11_laysBall 27 1 113 (qX11_laysBall_1 11 180 rfl) (qX11_laysBall_1 12 1 rfl) (qX11_laysBall_1 13 113 rfl)
theorem dX11_laysBall_30 : decode cX11_laysBall 30 = .ok (.istore 4, 2) := @dq_o54 cX11_laysBall 30 4 (qX11_laysBall_1 14 54 rfl) (qX11_laysBall_1 15 4 rfl)
theorem dX11_laysBall_32 : decode cX11_laysBall 32 = .ok (.iload_n 2, 1) := @dq_o28 cX11_laysBall 32 (qX11_laysBall_2 0 28 rfl)
theorem dX11_laysBall_33 : decode cX11_laysBall 33 = .ok (.istore 5, 2) := @dq_o54 cX11_laysBall 33 5 (qX11_laysBall_2 1 54 rfl) (qX11_laysBall_2 2 5 rfl)
theorem dX11_laysBall_35 : decode cX11_laysBall 35 = .ok (.iload 5, 2) := @dq_o21 cX11_laysBall 35 5 (qX11_laysBall_2 3 21 rfl) (qX11_laysBall_2 4 5 rfl)
theorem dX11_laysBall_37 : decode cX11_laysBall 37 = .ok (.iload 4, 2) := @dq_o21 cX11_laysBall 37 4 (qX11_laysBall_2 5 21 rfl) (qX11_laysBall_2 6 4 rfl)
theorem dX11_laysBall_39 : decode cX11_laysBall 39 = .ok (.if_icmp .ge 126, 3) := @dq_o162 cX11_laysBall 39 0 126 (qX11_laysBall_2 7 162 rfl) (qX11_laysBall_2 8 0 rfl) (qX11_laysBall_2 9 126 rfl)
theorem dX11_laysBall_42 : decode cX11_laysBall 42 = .ok (.iconst 0, 1) := @dq_o3 cX11_laysBall 42 (qX11_laysBall_2 10 3 rfl)
theorem dX11_laysBall_43 : decode cX11_laysBall 43 = .ok (.istore 6, 2) := @dq_o54 cX11_laysBall 43 6 (qX11_laysBall_2 11 54 rfl) (qX11_laysBall_2 12 6 rfl)
theorem dX11_laysBall_45 : decode cX11_laysBall 45 = .ok (.iload 6, 2) := @dq_o21 cX11_laysBall 45 6 (qX11_laysBall_2 13 21 rfl) (qX11_laysBall_2 14 6 rfl)
theorem dX11_laysBall_47 : decode cX11_laysBall 47 = .ok (.iconst 2, 1) := @dq_o5 cX11_laysBall 47 (qX11_laysBall_2 15 5 rfl)
theorem dX11_laysBall_48 : decode cX11_laysBall 48 = .ok (.aload_n 0, 1) := @dq_o42 cX11_laysBall 48 (qX11_laysBall_3 0 42 rfl)
theorem dX11_laysBall_49 : decode cX11_laysBall 49 = .ok (.invokevirtual 88, 3) := @dq_o182 cX11_laysBall 49 0 88 (qX11_laysBall_3 1 182 rfl) (qX11_laysBall_3 2 0 rfl) (qX11_laysBall_3 3 88 rfl)
theorem dX11_laysBall_52 : decode cX11_laysBall 52 = .ok (.imul, 1) := @dq_o104 cX11_laysBall 52 (qX11_laysBall_3 4 104 rfl)
theorem dX11_laysBall_53 : decode cX11_laysBall 53 = .ok (.if_icmp .ge 106, 3) := @dq_o162 cX11_laysBall 53 0 106 (qX11_laysBall_3 5 162 rfl) (qX11_laysBall_3 6 0 rfl) (qX11_laysBall_3 7 106 rfl)
theorem dX11_laysBall_56 : decode cX11_laysBall 56 = .ok (.aload_n 0, 1) := @dq_o42 cX11_laysBall 56 (qX11_laysBall_3 8 42 rfl)
theorem dX11_laysBall_57 : decode cX11_laysBall 57 = .ok (.iload 6, 2) := @dq_o21 cX11_laysBall 57 6 (qX11_laysBall_3 9 21 rfl) (qX11_laysBall_3 10 6 rfl)
theorem dX11_laysBall_59 : decode cX11_laysBall 59 = .ok (.iconst 2, 1) := @dq_o5 cX11_laysBall 59 (qX11_laysBall_3 11 5 rfl)
theorem dX11_laysBall_60 : decode cX11_laysBall 60 = .ok (.idiv, 1) := @dq_o108 cX11_laysBall 60 (qX11_laysBall_3 12 108 rfl)
theorem dX11_laysBall_61 : decode cX11_laysBall 61 = .ok (.invokevirtual 92, 3) := @dq_o182 cX11_laysBall 61 0 92 (qX11_laysBall_3 13 182 rfl) (qX11_laysBall_3 14 0 rfl) (qX11_laysBall_3 15 92 rfl)
theorem dX11_laysBall_64 : decode cX11_laysBall 64 = .ok (.iconst 1, 1) := @dq_o4 cX11_laysBall 64 (qX11_laysBall_4 0 4 rfl)
theorem dX11_laysBall_65 : decode cX11_laysBall 65 = .ok (.if_icmp .le 6, 3) := @dq_o164 cX11_laysBall 65 0 6 (qX11_laysBall_4 1 164 rfl) (qX11_laysBall_4 2 0 rfl) (qX11_laysBall_4 3 6 rfl)
theorem dX11_laysBall_68 : decode cX11_laysBall 68 = .ok (.goto 85, 3) := @dq_o167 cX11_laysBall 68 0 85 (qX11_laysBall_4 4 167 rfl) (qX11_laysBall_4 5 0 rfl) (qX11_laysBall_4 6 85 rfl)
theorem dX11_laysBall_71 : decode cX11_laysBall 71 = .ok (.iconst 0, 1) := @dq_o3 cX11_laysBall 71 (qX11_laysBall_4 7 3 rfl)
theorem dX11_laysBall_72 : decode cX11_laysBall 72 = .ok (.istore 7, 2) := @dq_o54 cX11_laysBall 72 7 (qX11_laysBall_4 8 54 rfl) (qX11_laysBall_4 9 7 rfl)
theorem dX11_laysBall_74 : decode cX11_laysBall 74 = .ok (.iload 7, 2) := @dq_o21 cX11_laysBall 74 7 (qX11_laysBall_4 10 21 rfl) (qX11_laysBall_4 11 7 rfl)
theorem dX11_laysBall_76 : decode cX11_laysBall 76 = .ok (.bipush 6, 2) := @dq_o16 cX11_laysBall 76 6 (qX11_laysBall_4 12 16 rfl) (qX11_laysBall_4 13 6 rfl)
theorem dX11_laysBall_78 : decode cX11_laysBall 78 = .ok (.if_icmp .ge 30, 3) := @dq_o162 cX11_laysBall 78 0 30 (qX11_laysBall_4 14 162 rfl) (qX11_laysBall_4 15 0 rfl) (qX11_laysBall_5 0 30 rfl)
theorem dX11_laysBall_81 : decode cX11_laysBall 81 = .ok (.aload_n 0, 1) := @dq_o42 cX11_laysBall 81 (qX11_laysBall_5 1 42 rfl)
theorem dX11_laysBall_82 : decode cX11_laysBall 82 = .ok (.bipush 20, 2) := @dq_o16 cX11_laysBall 82 20 (qX11_laysBall_5 2 16 rfl) (qX11_laysBall_5 3 20 rfl)
theorem dX11_laysBall_84 : decode cX11_laysBall 84 = .ok (.iload 7, 2) := @dq_o21 cX11_laysBall 84 7 (qX11_laysBall_5 4 21 rfl) (qX11_laysBall_5 5 7 rfl)
theorem dX11_laysBall_86 : decode cX11_laysBall 86 = .ok (.aload_n 0, 1) := @dq_o42 cX11_laysBall 86 (qX11_laysBall_5 6 42 rfl)
theorem dX11_laysBall_87 : decode cX11_laysBall 87 = .ok (.getfield 58, 3) := @dq_o180 cX11_laysBall 87 0 58 (qX11_laysBall_5 7 180 rfl) (qX11_laysBall_5 8 0 rfl) (qX11_laysBall_5 9 58 rfl)
theorem dX11_laysBall_90 : decode cX11_laysBall 90 = .ok (.bipush 6, 2) := @dq_o16 cX11_laysBall 90 6 (qX11_laysBall_5 10 16 rfl) (qX11_laysBall_5 11 6 rfl)
theorem dX11_laysBall_92 : decode cX11_laysBall 92 = .ok (.iload 5, 2) := @dq_o21 cX11_laysBall 92 5 (qX11_laysBall_5 12 21 rfl) (qX11_laysBall_5 13 5 rfl)
theorem dX11_laysBall_94 : decode cX11_laysBall 94 = .ok (.imul, 1) := @dq_o104 cX11_laysBall 94 (qX11_laysBall_5 14 104 rfl)
theorem dX11_laysBall_95 : decode cX11_laysBall 95 = .ok (.iload 7, 2) := @dq_o21 cX11_laysBall 95 7 (qX11_laysBall_5 15 21 rfl) (qX11_laysBall_6 0 7 rfl)
theorem dX11_laysBall_97 : decode cX11_laysBall 97 = .ok (.iadd, 1) := @dq_o96 cX11_laysBall 97 (qX11_laysBall_6 1 96 rfl)
theorem dX11_laysBall_98 : decode cX11_laysBall 98 = .ok (.laload, 1) := @dq_o47 cX11_laysBall 98 (qX11_laysBall_6 2 47 rfl)
theorem dX11_laysBall_99 : decode cX11_laysBall 99 = .ok (.invokevirtual 162, 3) := @dq_o182 cX11_laysBall 99 0 162 (qX11_laysBall_6 3 182 rfl) (qX11_laysBall_6 4 0 rfl) (qX11_laysBall_6 5 162 rfl)
theorem dX11_laysBall_102 : decode cX11_laysBall 102 = .ok (.iinc 7 1, 3) := @dq_o132 cX11_laysBall 102 7 1 (qX11_laysBall_6 6 132 rfl) (qX11_laysBall_6 7 7 rfl) (qX11_laysBall_6 8 1 rfl)
theorem dX11_laysBall_105 : decode cX11_laysBall 105 = .ok (.goto (-31), 3) := @dq_o167 cX11_laysBall 105 255 225 (qX11_laysBall_6 9 167 rfl) (qX11_laysBall_6 10 255 rfl) (qX11_laysBall_6 11 225 rfl)
theorem dX11_laysBall_108 : decode cX11_laysBall 108 = .ok (.aload_n 0, 1) := @dq_o42 cX11_laysBall 108 (qX11_laysBall_6 12 42 rfl)
theorem dX11_laysBall_109 : decode cX11_laysBall 109 = .ok (.bipush 20, 2) := @dq_o16 cX11_laysBall 109 20 (qX11_laysBall_6 13 16 rfl) (qX11_laysBall_6 14 20 rfl)
theorem dX11_laysBall_111 : decode cX11_laysBall 111 = .ok (.iload 6, 2) := @dq_o21 cX11_laysBall 111 6 (qX11_laysBall_6 15 21 rfl) (qX11_laysBall_7 0 6 rfl)
theorem dX11_laysBall_113 : decode cX11_laysBall 113 = .ok (.iconst 2, 1) := @dq_o5 cX11_laysBall 113 (qX11_laysBall_7 1 5 rfl)
theorem dX11_laysBall_114 : decode cX11_laysBall 114 = .ok (.idiv, 1) := @dq_o108 cX11_laysBall 114 (qX11_laysBall_7 2 108 rfl)
theorem dX11_laysBall_115 : decode cX11_laysBall 115 = .ok (.iload 6, 2) := @dq_o21 cX11_laysBall 115 6 (qX11_laysBall_7 3 21 rfl) (qX11_laysBall_7 4 6 rfl)
theorem dX11_laysBall_117 : decode cX11_laysBall 117 = .ok (.iconst 2, 1) := @dq_o5 cX11_laysBall 117 (qX11_laysBall_7 5 5 rfl)
theorem dX11_laysBall_118 : decode cX11_laysBall 118 = .ok (.irem, 1) := @dq_o112 cX11_laysBall 118 (qX11_laysBall_7 6 112 rfl)
theorem dX11_laysBall_119 : decode cX11_laysBall 119 = .ok (.ifCond .ne 7, 3) := @dq_o154 cX11_laysBall 119 0 7 (qX11_laysBall_7 7 154 rfl) (qX11_laysBall_7 8 0 rfl) (qX11_laysBall_7 9 7 rfl)
theorem dX11_laysBall_122 : decode cX11_laysBall 122 = .ok (.lconst 1, 1) := @dq_o10 cX11_laysBall 122 (qX11_laysBall_7 10 10 rfl)
theorem dX11_laysBall_123 : decode cX11_laysBall 123 = .ok (.goto 6, 3) := @dq_o167 cX11_laysBall 123 0 6 (qX11_laysBall_7 11 167 rfl) (qX11_laysBall_7 12 0 rfl) (qX11_laysBall_7 13 6 rfl)
theorem dX11_laysBall_126 : decode cX11_laysBall 126 = .ok (.ldc2_w 221, 3) := @dq_o20 cX11_laysBall 126 0 221 (qX11_laysBall_7 14 20 rfl) (qX11_laysBall_7 15 0 rfl) (qX11_laysBall_8 0 221 rfl)
theorem dX11_laysBall_129 : decode cX11_laysBall 129 = .ok (.invokevirtual 187, 3) := @dq_o182 cX11_laysBall 129 0 187 (qX11_laysBall_8 1 182 rfl) (qX11_laysBall_8 2 0 rfl) (qX11_laysBall_8 3 187 rfl)
theorem dX11_laysBall_132 : decode cX11_laysBall 132 = .ok (.aload_n 0, 1) := @dq_o42 cX11_laysBall 132 (qX11_laysBall_8 4 42 rfl)
theorem dX11_laysBall_133 : decode cX11_laysBall 133 = .ok (.bipush 20, 2) := @dq_o16 cX11_laysBall 133 20 (qX11_laysBall_8 5 16 rfl) (qX11_laysBall_8 6 20 rfl)
theorem dX11_laysBall_135 : decode cX11_laysBall 135 = .ok (.invokevirtual 375, 3) := @dq_o182 cX11_laysBall 135 1 119 (qX11_laysBall_8 7 182 rfl) (qX11_laysBall_8 8 1 rfl) (qX11_laysBall_8 9 119 rfl)
theorem dX11_laysBall_138 : decode cX11_laysBall 138 = .ok (.aload_n 0, 1) := @dq_o42 cX11_laysBall 138 (qX11_laysBall_8 10 42 rfl)
theorem dX11_laysBall_139 : decode cX11_laysBall 139 = .ok (.getfield 369, 3) := @dq_o180 cX11_laysBall 139 1 113 (qX11_laysBall_8 11 180 rfl) (qX11_laysBall_8 12 1 rfl) (qX11_laysBall_8 13 113 rfl)
theorem dX11_laysBall_142 : decode cX11_laysBall 142 = .ok (.sipush 1000, 3) := @dq_o17 cX11_laysBall 142 3 232 (qX11_laysBall_8 14 17 rfl) (qX11_laysBall_8 15 3 rfl) (qX11_laysBall_9 0 232 rfl)
theorem dX11_laysBall_145 : decode cX11_laysBall 145 = .ok (.if_icmp .le 8, 3) := @dq_o164 cX11_laysBall 145 0 8 (qX11_laysBall_9 1 164 rfl) (qX11_laysBall_9 2 0 rfl) (qX11_laysBall_9 3 8 rfl)
theorem dX11_laysBall_148 : decode cX11_laysBall 148 = .ok (.aload_n 0, 1) := @dq_o42 cX11_laysBall 148 (qX11_laysBall_9 4 42 rfl)
theorem dX11_laysBall_149 : decode cX11_laysBall 149 = .ok (.getfield 369, 3) := @dq_o180 cX11_laysBall 149 1 113 (qX11_laysBall_9 5 180 rfl) (qX11_laysBall_9 6 1 rfl) (qX11_laysBall_9 7 113 rfl)
theorem dX11_laysBall_152 : decode cX11_laysBall 152 = .ok (.ireturn, 1) := @dq_o172 cX11_laysBall 152 (qX11_laysBall_9 8 172 rfl)
theorem dX11_laysBall_153 : decode cX11_laysBall 153 = .ok (.iinc 6 1, 3) := @dq_o132 cX11_laysBall 153 6 1 (qX11_laysBall_9 9 132 rfl) (qX11_laysBall_9 10 6 rfl) (qX11_laysBall_9 11 1 rfl)
theorem dX11_laysBall_156 : decode cX11_laysBall 156 = .ok (.goto (-111), 3) := @dq_o167 cX11_laysBall 156 255 145 (qX11_laysBall_9 12 167 rfl) (qX11_laysBall_9 13 255 rfl) (qX11_laysBall_9 14 145 rfl)
theorem dX11_laysBall_159 : decode cX11_laysBall 159 = .ok (.iinc 5 1, 3) := @dq_o132 cX11_laysBall 159 5 1 (qX11_laysBall_9 15 132 rfl) (qX11_laysBall_10 0 5 rfl) (qX11_laysBall_10 1 1 rfl)
theorem dX11_laysBall_162 : decode cX11_laysBall 162 = .ok (.goto (-127), 3) := @dq_o167 cX11_laysBall 162 255 129 (qX11_laysBall_10 2 167 rfl) (qX11_laysBall_10 3 255 rfl) (qX11_laysBall_10 4 129 rfl)
theorem dX11_laysBall_165 : decode cX11_laysBall 165 = .ok (.iload 4, 2) := @dq_o21 cX11_laysBall 165 4 (qX11_laysBall_10 5 21 rfl) (qX11_laysBall_10 6 4 rfl)
theorem dX11_laysBall_167 : decode cX11_laysBall 167 = .ok (.istore_n 2, 1) := @dq_o61 cX11_laysBall 167 (qX11_laysBall_10 7 61 rfl)
theorem dX11_laysBall_168 : decode cX11_laysBall 168 = .ok (.iinc 3 1, 3) := @dq_o132 cX11_laysBall 168 3 1 (qX11_laysBall_10 8 132 rfl) (qX11_laysBall_10 9 3 rfl) (qX11_laysBall_10 10 1 rfl)
theorem dX11_laysBall_171 : decode cX11_laysBall 171 = .ok (.goto (-150), 3) := @dq_o167 cX11_laysBall 171 255 106 (qX11_laysBall_10 11 167 rfl) (qX11_laysBall_10 12 255 rfl) (qX11_laysBall_10 13 106 rfl)
theorem dX11_laysBall_174 : decode cX11_laysBall 174 = .ok (.aload_n 0, 1) := @dq_o42 cX11_laysBall 174 (qX11_laysBall_10 14 42 rfl)
theorem dX11_laysBall_175 : decode cX11_laysBall 175 = .ok (.getfield 369, 3) := @dq_o180 cX11_laysBall 175 1 113 (qX11_laysBall_10 15 180 rfl) (qX11_laysBall_11 0 1 rfl) (qX11_laysBall_11 1 113 rfl)
theorem dX11_laysBall_178 : decode cX11_laysBall 178 = .ok (.ireturn, 1) := @dq_o172 cX11_laysBall 178 (qX11_laysBall_11 2 172 rfl)
abbrev qaX11_ball_0 : List Nat := [42, 3, 181, 0, 1, 42, 27, 133, 9, 20, 1, 122, 182, 0, 101, 153]
abbrev qaX11_ball_1 : List Nat := [0, 10, 42, 182, 0, 235, 154, 0, 5, 2, 172, 42, 27, 182, 1, 124]
abbrev qaX11_ball_2 : List Nat := [61, 28, 17, 3, 232, 164, 0, 7, 2, 167, 0, 4, 28, 172]
def qtX11_ball_3 : List Nat := []
def qtX11_ball_2 : List Nat := qaX11_ball_2 ++ qtX11_ball_3
def qtX11_ball_1 : List Nat := qaX11_ball_1 ++ qtX11_ball_2
def qtX11_ball_0 : List Nat := qaX11_ball_0 ++ qtX11_ball_1
theorem qeX11_ball : cX11_ball.data.toList.map UInt8.toNat = qtX11_ball_0 := by decide +kernel
theorem qsX11_ball_0 : ∀ i, dqNth qtX11_ball_0 (0 + i) = dqNth qtX11_ball_0 i := fun i => by rw [Nat.zero_add]
theorem qsX11_ball_1 : ∀ i, dqNth qtX11_ball_0 (16 + i) = dqNth qtX11_ball_1 i := dq_step qsX11_ball_0 rfl rfl
theorem qsX11_ball_2 : ∀ i, dqNth qtX11_ball_0 (32 + i) = dqNth qtX11_ball_2 i := dq_step qsX11_ball_1 rfl rfl
theorem qX11_ball_0 (i b : Nat) (h : dqNth qaX11_ball_0 i = some b) : DqBy cX11_ball (0 + i) b := dqBy_of qeX11_ball ((qsX11_ball_0 i).trans (dq_in h))
theorem qX11_ball_1 (i b : Nat) (h : dqNth qaX11_ball_1 i = some b) : DqBy cX11_ball (16 + i) b := dqBy_of qeX11_ball ((qsX11_ball_1 i).trans (dq_in h))
theorem qX11_ball_2 (i b : Nat) (h : dqNth qaX11_ball_2 i = some b) : DqBy cX11_ball (32 + i) b := dqBy_of qeX11_ball ((qsX11_ball_2 i).trans (dq_in h))
theorem dX11_ball_0 : decode cX11_ball 0 = .ok (.aload_n 0, 1) := @dq_o42 cX11_ball 0 (qX11_ball_0 0 42 rfl)
theorem dX11_ball_1 : decode cX11_ball 1 = .ok (.iconst 0, 1) := @dq_o3 cX11_ball 1 (qX11_ball_0 1 3 rfl)
theorem dX11_ball_2 : decode cX11_ball 2 = .ok (.putfield 1, 3) := @dq_o181 cX11_ball 2 0 1 (qX11_ball_0 2 181 rfl) (qX11_ball_0 3 0 rfl) (qX11_ball_0 4 1 rfl)
theorem dX11_ball_5 : decode cX11_ball 5 = .ok (.aload_n 0, 1) := @dq_o42 cX11_ball 5 (qX11_ball_0 5 42 rfl)
theorem dX11_ball_6 : decode cX11_ball 6 = .ok (.iload_n 1, 1) := @dq_o27 cX11_ball 6 (qX11_ball_0 6 27 rfl)
theorem dX11_ball_7 : decode cX11_ball 7 = .ok (.i2l, 1) := @dq_o133 cX11_ball 7 (qX11_ball_0 7 133 rfl)
theorem dX11_ball_8 : decode cX11_ball 8 = .ok (.lconst 0, 1) := @dq_o9 cX11_ball 8 (qX11_ball_0 8 9 rfl)
theorem dX11_ball_9 : decode cX11_ball 9 = .ok (.ldc2_w 378, 3) := @dq_o20 cX11_ball 9 1 122 (qX11_ball_0 9 20 rfl) (qX11_ball_0 10 1 rfl) (qX11_ball_0 11 122 rfl)
theorem dX11_ball_12 : decode cX11_ball 12 = .ok (.invokevirtual 101, 3) := @dq_o182 cX11_ball 12 0 101 (qX11_ball_0 12 182 rfl) (qX11_ball_0 13 0 rfl) (qX11_ball_0 14 101 rfl)
theorem dX11_ball_15 : decode cX11_ball 15 = .ok (.ifCond .eq 10, 3) := @dq_o153 cX11_ball 15 0 10 (qX11_ball_0 15 153 rfl) (qX11_ball_1 0 0 rfl) (qX11_ball_1 1 10 rfl)
theorem dX11_ball_18 : decode cX11_ball 18 = .ok (.aload_n 0, 1) := @dq_o42 cX11_ball 18 (qX11_ball_1 2 42 rfl)
theorem dX11_ball_19 : decode cX11_ball 19 = .ok (.invokevirtual 235, 3) := @dq_o182 cX11_ball 19 0 235 (qX11_ball_1 3 182 rfl) (qX11_ball_1 4 0 rfl) (qX11_ball_1 5 235 rfl)
theorem dX11_ball_22 : decode cX11_ball 22 = .ok (.ifCond .ne 5, 3) := @dq_o154 cX11_ball 22 0 5 (qX11_ball_1 6 154 rfl) (qX11_ball_1 7 0 rfl) (qX11_ball_1 8 5 rfl)
theorem dX11_ball_25 : decode cX11_ball 25 = .ok (.iconst (-1), 1) := @dq_o2 cX11_ball 25 (qX11_ball_1 9 2 rfl)
theorem dX11_ball_26 : decode cX11_ball 26 = .ok (.ireturn, 1) := @dq_o172 cX11_ball 26 (qX11_ball_1 10 172 rfl)
theorem dX11_ball_27 : decode cX11_ball 27 = .ok (.aload_n 0, 1) := @dq_o42 cX11_ball 27 (qX11_ball_1 11 42 rfl)
theorem dX11_ball_28 : decode cX11_ball 28 = .ok (.iload_n 1, 1) := @dq_o27 cX11_ball 28 (qX11_ball_1 12 27 rfl)
theorem dX11_ball_29 : decode cX11_ball 29 = .ok (.invokevirtual 380, 3) := @dq_o182 cX11_ball 29 1 124 (qX11_ball_1 13 182 rfl) (qX11_ball_1 14 1 rfl) (qX11_ball_1 15 124 rfl)
theorem dX11_ball_32 : decode cX11_ball 32 = .ok (.istore_n 2, 1) := @dq_o61 cX11_ball 32 (qX11_ball_2 0 61 rfl)
theorem dX11_ball_33 : decode cX11_ball 33 = .ok (.iload_n 2, 1) := @dq_o28 cX11_ball 33 (qX11_ball_2 1 28 rfl)
theorem dX11_ball_34 : decode cX11_ball 34 = .ok (.sipush 1000, 3) := @dq_o17 cX11_ball 34 3 232 (qX11_ball_2 2 17 rfl) (qX11_ball_2 3 3 rfl) (qX11_ball_2 4 232 rfl)
theorem dX11_ball_37 : decode cX11_ball 37 = .ok (.if_icmp .le 7, 3) := @dq_o164 cX11_ball 37 0 7 (qX11_ball_2 5 164 rfl) (qX11_ball_2 6 0 rfl) (qX11_ball_2 7 7 rfl)
theorem dX11_ball_40 : decode cX11_ball 40 = .ok (.iconst (-1), 1) := @dq_o2 cX11_ball 40 (qX11_ball_2 8 2 rfl)
theorem dX11_ball_41 : decode cX11_ball 41 = .ok (.goto 4, 3) := @dq_o167 cX11_ball 41 0 4 (qX11_ball_2 9 167 rfl) (qX11_ball_2 10 0 rfl) (qX11_ball_2 11 4 rfl)
theorem dX11_ball_44 : decode cX11_ball 44 = .ok (.iload_n 2, 1) := @dq_o28 cX11_ball 44 (qX11_ball_2 12 28 rfl)
theorem dX11_ball_45 : decode cX11_ball 45 = .ok (.ireturn, 1) := @dq_o172 cX11_ball 45 (qX11_ball_2 13 172 rfl)
abbrev qaX11_shortOf_0 : List Nat := [3, 61, 28, 7, 163, 0, 36, 42, 28, 182, 1, 124, 17, 3, 232, 164]
abbrev qaX11_shortOf_1 : List Nat := [0, 5, 2, 172, 42, 27, 182, 1, 116, 42, 180, 1, 113, 162, 0, 5]
abbrev qaX11_shortOf_2 : List Nat := [28, 172, 132, 2, 1, 167, 255, 221, 2, 172]
def qtX11_shortOf_3 : List Nat := []
def qtX11_shortOf_2 : List Nat := qaX11_shortOf_2 ++ qtX11_shortOf_3
def qtX11_shortOf_1 : List Nat := qaX11_shortOf_1 ++ qtX11_shortOf_2
def qtX11_shortOf_0 : List Nat := qaX11_shortOf_0 ++ qtX11_shortOf_1
theorem qeX11_shortOf : cX11_shortOf.data.toList.map UInt8.toNat = qtX11_shortOf_0 := by decide +kernel
theorem qsX11_shortOf_0 : ∀ i, dqNth qtX11_shortOf_0 (0 + i) = dqNth qtX11_shortOf_0 i := fun i => by rw [Nat.zero_add]
theorem qsX11_shortOf_1 : ∀ i, dqNth qtX11_shortOf_0 (16 + i) = dqNth qtX11_shortOf_1 i := dq_step qsX11_shortOf_0 rfl rfl
theorem qsX11_shortOf_2 : ∀ i, dqNth qtX11_shortOf_0 (32 + i) = dqNth qtX11_shortOf_2 i := dq_step qsX11_shortOf_1 rfl rfl
theorem qX11_shortOf_0 (i b : Nat) (h : dqNth qaX11_shortOf_0 i = some b) : DqBy cX11_shortOf (0 + i) b := dqBy_of qeX11_shortOf ((qsX11_shortOf_0 i).trans (dq_in h))
theorem qX11_shortOf_1 (i b : Nat) (h : dqNth qaX11_shortOf_1 i = some b) : DqBy cX11_shortOf (16 + i) b := dqBy_of qeX11_shortOf ((qsX11_shortOf_1 i).trans (dq_in h))
theorem qX11_shortOf_2 (i b : Nat) (h : dqNth qaX11_shortOf_2 i = some b) : DqBy cX11_shortOf (32 + i) b := dqBy_of qeX11_shortOf ((qsX11_shortOf_2 i).trans (dq_in h))
theorem dX11_shortOf_0 : decode cX11_shortOf 0 = .ok (.iconst 0, 1) := @dq_o3 cX11_shortOf 0 (qX11_shortOf_0 0 3 rfl)
theorem dX11_shortOf_1 : decode cX11_shortOf 1 = .ok (.istore_n 2, 1) := @dq_o61 cX11_shortOf 1 (qX11_shortOf_0 1 61 rfl)
theorem dX11_shortOf_2 : decode cX11_shortOf 2 = .ok (.iload_n 2, 1) := @dq_o28 cX11_shortOf 2 (qX11_shortOf_0 2 28 rfl)
theorem dX11_shortOf_3 : decode cX11_shortOf 3 = .ok (.iconst 4, 1) := @dq_o7 cX11_shortOf 3 (qX11_shortOf_0 3 7 rfl)
theorem dX11_shortOf_4 : decode cX11_shortOf 4 = .ok (.if_icmp .gt 36, 3) := @dq_o163 cX11_shortOf 4 0 36 (qX11_shortOf_0 4 163 rfl) (qX11_shortOf_0 5 0 rfl) (qX11_shortOf_0 6 36 rfl)
theorem dX11_shortOf_7 : decode cX11_shortOf 7 = .ok (.aload_n 0, 1) := @dq_o42 cX11_shortOf 7 (qX11_shortOf_0 7 42 rfl)
theorem dX11_shortOf_8 : decode cX11_shortOf 8 = .ok (.iload_n 2, 1) := @dq_o28 cX11_shortOf 8 (qX11_shortOf_0 8 28 rfl)
theorem dX11_shortOf_9 : decode cX11_shortOf 9 = .ok (.invokevirtual 380, 3) := @dq_o182 cX11_shortOf 9 1 124 (qX11_shortOf_0 9 182 rfl) (qX11_shortOf_0 10 1 rfl) (qX11_shortOf_0 11 124 rfl)
theorem dX11_shortOf_12 : decode cX11_shortOf 12 = .ok (.sipush 1000, 3) := @dq_o17 cX11_shortOf 12 3 232 (qX11_shortOf_0 12 17 rfl) (qX11_shortOf_0 13 3 rfl) (qX11_shortOf_0 14 232 rfl)
theorem dX11_shortOf_15 : decode cX11_shortOf 15 = .ok (.if_icmp .le 5, 3) := @dq_o164 cX11_shortOf 15 0 5 (qX11_shortOf_0 15 164 rfl) (qX11_shortOf_1 0 0 rfl) (qX11_shortOf_1 1 5 rfl)
theorem dX11_shortOf_18 : decode cX11_shortOf 18 = .ok (.iconst (-1), 1) := @dq_o2 cX11_shortOf 18 (qX11_shortOf_1 2 2 rfl)
theorem dX11_shortOf_19 : decode cX11_shortOf 19 = .ok (.ireturn, 1) := @dq_o172 cX11_shortOf 19 (qX11_shortOf_1 3 172 rfl)
theorem dX11_shortOf_20 : decode cX11_shortOf 20 = .ok (.aload_n 0, 1) := @dq_o42 cX11_shortOf 20 (qX11_shortOf_1 4 42 rfl)
theorem dX11_shortOf_21 : decode cX11_shortOf 21 = .ok (.iload_n 1, 1) := @dq_o27 cX11_shortOf 21 (qX11_shortOf_1 5 27 rfl)
theorem dX11_shortOf_22 : decode cX11_shortOf 22 = .ok (.invokevirtual 372, 3) := @dq_o182 cX11_shortOf 22 1 116 (qX11_shortOf_1 6 182 rfl) (qX11_shortOf_1 7 1 rfl) (qX11_shortOf_1 8 116 rfl)
theorem dX11_shortOf_25 : decode cX11_shortOf 25 = .ok (.aload_n 0, 1) := @dq_o42 cX11_shortOf 25 (qX11_shortOf_1 9 42 rfl)
theorem dX11_shortOf_26 : decode cX11_shortOf 26 = .ok (.getfield 369, 3) := @dq_o180 cX11_shortOf 26 1 113 (qX11_shortOf_1 10 180 rfl) (qX11_shortOf_1 11 1 rfl) (qX11_shortOf_1 12 113 rfl)
theorem dX11_shortOf_29 : decode cX11_shortOf 29 = .ok (.if_icmp .ge 5, 3) := @dq_o162 cX11_shortOf 29 0 5 (qX11_shortOf_1 13 162 rfl) (qX11_shortOf_1 14 0 rfl) (qX11_shortOf_1 15 5 rfl)
theorem dX11_shortOf_32 : decode cX11_shortOf 32 = .ok (.iload_n 2, 1) := @dq_o28 cX11_shortOf 32 (qX11_shortOf_2 0 28 rfl)
theorem dX11_shortOf_33 : decode cX11_shortOf 33 = .ok (.ireturn, 1) := @dq_o172 cX11_shortOf 33 (qX11_shortOf_2 1 172 rfl)
theorem dX11_shortOf_34 : decode cX11_shortOf 34 = .ok (.iinc 2 1, 3) := @dq_o132 cX11_shortOf 34 2 1 (qX11_shortOf_2 2 132 rfl) (qX11_shortOf_2 3 2 rfl) (qX11_shortOf_2 4 1 rfl)
theorem dX11_shortOf_37 : decode cX11_shortOf 37 = .ok (.goto (-35), 3) := @dq_o167 cX11_shortOf 37 255 221 (qX11_shortOf_2 5 167 rfl) (qX11_shortOf_2 6 255 rfl) (qX11_shortOf_2 7 221 rfl)
theorem dX11_shortOf_40 : decode cX11_shortOf 40 = .ok (.iconst (-1), 1) := @dq_o2 cX11_shortOf 40 (qX11_shortOf_2 8 2 rfl)
theorem dX11_shortOf_41 : decode cX11_shortOf 41 = .ok (.ireturn, 1) := @dq_o172 cX11_shortOf 41 (qX11_shortOf_2 9 172 rfl)
abbrev qaX11_greatestRoot_0 : List Nat := [16, 99, 61, 28, 4, 164, 0, 29, 42, 27, 4, 28, 182, 1, 4, 153]
abbrev qaX11_greatestRoot_1 : List Nat := [0, 13, 42, 4, 182, 0, 225, 153, 0, 5, 28, 172, 132, 2, 255, 167]
abbrev qaX11_greatestRoot_2 : List Nat := [255, 228, 4, 172]
def qtX11_greatestRoot_3 : List Nat := []
def qtX11_greatestRoot_2 : List Nat := qaX11_greatestRoot_2 ++ qtX11_greatestRoot_3
def qtX11_greatestRoot_1 : List Nat := qaX11_greatestRoot_1 ++ qtX11_greatestRoot_2
def qtX11_greatestRoot_0 : List Nat := qaX11_greatestRoot_0 ++ qtX11_greatestRoot_1
theorem qeX11_greatestRoot : cX11_greatestRoot.data.toList.map UInt8.toNat = qtX11_greatestRoot_0 := by decide +kernel
theorem qsX11_greatestRoot_0 : ∀ i, dqNth qtX11_greatestRoot_0 (0 + i) = dqNth qtX11_greatestRoot_0 i := fun i => by rw [Nat.zero_add]
theorem qsX11_greatestRoot_1 : ∀ i, dqNth qtX11_greatestRoot_0 (16 + i) = dqNth qtX11_greatestRoot_1 i := dq_step qsX11_greatestRoot_0 rfl rfl
theorem qsX11_greatestRoot_2 : ∀ i, dqNth qtX11_greatestRoot_0 (32 + i) = dqNth qtX11_greatestRoot_2 i := dq_step qsX11_greatestRoot_1 rfl rfl
theorem qX11_greatestRoot_0 (i b : Nat) (h : dqNth qaX11_greatestRoot_0 i = some b) : DqBy cX11_greatestRoot (0 + i) b := dqBy_of qeX11_greatestRoot ((qsX11_greatestRoot_0 i).trans (dq_in h))
theorem qX11_greatestRoot_1 (i b : Nat) (h : dqNth qaX11_greatestRoot_1 i = some b) : DqBy cX11_greatestRoot (16 + i) b := dqBy_of qeX11_greatestRoot ((qsX11_greatestRoot_1 i).trans (dq_in h))
theorem qX11_greatestRoot_2 (i b : Nat) (h : dqNth qaX11_greatestRoot_2 i = some b) : DqBy cX11_greatestRoot (32 + i) b := dqBy_of qeX11_greatestRoot ((qsX11_greatestRoot_2 i).trans (dq_in h))
theorem dX11_greatestRoot_0 : decode cX11_greatestRoot 0 = .ok (.bipush 99, 2) := @dq_o16 cX11_greatestRoot 0 99 (qX11_greatestRoot_0 0 16 rfl) (qX11_greatestRoot_0 1 99 rfl)
theorem dX11_greatestRoot_2 : decode cX11_greatestRoot 2 = .ok (.istore_n 2, 1) := @dq_o61 cX11_greatestRoot 2 (qX11_greatestRoot_0 2 61 rfl)
theorem dX11_greatestRoot_3 : decode cX11_greatestRoot 3 = .ok (.iload_n 2, 1) := @dq_o28 cX11_greatestRoot 3 (qX11_greatestRoot_0 3 28 rfl)
theorem dX11_greatestRoot_4 : decode cX11_greatestRoot 4 = .ok (.iconst 1, 1) := @dq_o4 cX11_greatestRoot 4 (qX11_greatestRoot_0 4 4 rfl)
theorem dX11_greatestRoot_5 : decode cX11_greatestRoot 5 = .ok (.if_icmp .le 29, 3) := @dq_o164 cX11_greatestRoot 5 0 29 (qX11_greatestRoot_0 5 164 rfl) (qX11_greatestRoot_0 6 0 rfl) (qX11_greatestRoot_0 7 29 rfl)
theorem dX11_greatestRoot_8 : decode cX11_greatestRoot 8 = .ok (.aload_n 0, 1) := @dq_o42 cX11_greatestRoot 8 (qX11_greatestRoot_0 8 42 rfl)
theorem dX11_greatestRoot_9 : decode cX11_greatestRoot 9 = .ok (.iload_n 1, 1) := @dq_o27 cX11_greatestRoot 9 (qX11_greatestRoot_0 9 27 rfl)
theorem dX11_greatestRoot_10 : decode cX11_greatestRoot 10 = .ok (.iconst 1, 1) := @dq_o4 cX11_greatestRoot 10 (qX11_greatestRoot_0 10 4 rfl)
theorem dX11_greatestRoot_11 : decode cX11_greatestRoot 11 = .ok (.iload_n 2, 1) := @dq_o28 cX11_greatestRoot 11 (qX11_greatestRoot_0 11 28 rfl)
theorem dX11_greatestRoot_12 : decode cX11_greatestRoot 12 = .ok (.invokevirtual 260, 3) := @dq_o182 cX11_greatestRoot 12 1 4 (qX11_greatestRoot_0 12 182 rfl) (qX11_greatestRoot_0 13 1 rfl) (qX11_greatestRoot_0 14 4 rfl)
theorem dX11_greatestRoot_15 : decode cX11_greatestRoot 15 = .ok (.ifCond .eq 13, 3) := @dq_o153 cX11_greatestRoot 15 0 13 (qX11_greatestRoot_0 15 153 rfl) (qX11_greatestRoot_1 0 0 rfl) (qX11_greatestRoot_1 1 13 rfl)
theorem dX11_greatestRoot_18 : decode cX11_greatestRoot 18 = .ok (.aload_n 0, 1) := @dq_o42 cX11_greatestRoot 18 (qX11_greatestRoot_1 2 42 rfl)
theorem dX11_greatestRoot_19 : decode cX11_greatestRoot 19 = .ok (.iconst 1, 1) := @dq_o4 cX11_greatestRoot 19 (qX11_greatestRoot_1 3 4 rfl)
theorem dX11_greatestRoot_20 : decode cX11_greatestRoot 20 = .ok (.invokevirtual 225, 3) := @dq_o182 cX11_greatestRoot 20 0 225 (qX11_greatestRoot_1 4 182 rfl) (qX11_greatestRoot_1 5 0 rfl) (qX11_greatestRoot_1 6 225 rfl)
theorem dX11_greatestRoot_23 : decode cX11_greatestRoot 23 = .ok (.ifCond .eq 5, 3) := @dq_o153 cX11_greatestRoot 23 0 5 (qX11_greatestRoot_1 7 153 rfl) (qX11_greatestRoot_1 8 0 rfl) (qX11_greatestRoot_1 9 5 rfl)
theorem dX11_greatestRoot_26 : decode cX11_greatestRoot 26 = .ok (.iload_n 2, 1) := @dq_o28 cX11_greatestRoot 26 (qX11_greatestRoot_1 10 28 rfl)
theorem dX11_greatestRoot_27 : decode cX11_greatestRoot 27 = .ok (.ireturn, 1) := @dq_o172 cX11_greatestRoot 27 (qX11_greatestRoot_1 11 172 rfl)
theorem dX11_greatestRoot_28 : decode cX11_greatestRoot 28 = .ok (.iinc 2 (-1), 3) := @dq_o132 cX11_greatestRoot 28 2 255 (qX11_greatestRoot_1 12 132 rfl) (qX11_greatestRoot_1 13 2 rfl) (qX11_greatestRoot_1 14 255 rfl)
theorem dX11_greatestRoot_31 : decode cX11_greatestRoot 31 = .ok (.goto (-28), 3) := @dq_o167 cX11_greatestRoot 31 255 228 (qX11_greatestRoot_1 15 167 rfl) (qX11_greatestRoot_2 0 255 rfl) (qX11_greatestRoot_2 1 228 rfl)
theorem dX11_greatestRoot_34 : decode cX11_greatestRoot 34 = .ok (.iconst 1, 1) := @dq_o4 cX11_greatestRoot 34 (qX11_greatestRoot_2 2 4 rfl)
theorem dX11_greatestRoot_35 : decode cX11_greatestRoot 35 = .ok (.ireturn, 1) := @dq_o172 cX11_greatestRoot 35 (qX11_greatestRoot_2 3 172 rfl)
abbrev qaX11_sameAs_0 : List Nat := [3, 61, 3, 62, 29, 16, 10, 162, 0, 30, 42, 4, 29, 182, 0, 241]
abbrev qaX11_sameAs_1 : List Nat := [42, 3, 4, 182, 1, 10, 153, 0, 9, 28, 4, 29, 120, 128, 61, 132]
abbrev qaX11_sameAs_2 : List Nat := [3, 1, 167, 255, 226, 28, 172]
def qtX11_sameAs_3 : List Nat := []
def qtX11_sameAs_2 : List Nat := qaX11_sameAs_2 ++ qtX11_sameAs_3
def qtX11_sameAs_1 : List Nat := qaX11_sameAs_1 ++ qtX11_sameAs_2
def qtX11_sameAs_0 : List Nat := qaX11_sameAs_0 ++ qtX11_sameAs_1
theorem qeX11_sameAs : cX11_sameAs.data.toList.map UInt8.toNat = qtX11_sameAs_0 := by decide +kernel
theorem qsX11_sameAs_0 : ∀ i, dqNth qtX11_sameAs_0 (0 + i) = dqNth qtX11_sameAs_0 i := fun i => by rw [Nat.zero_add]
theorem qsX11_sameAs_1 : ∀ i, dqNth qtX11_sameAs_0 (16 + i) = dqNth qtX11_sameAs_1 i := dq_step qsX11_sameAs_0 rfl rfl
theorem qsX11_sameAs_2 : ∀ i, dqNth qtX11_sameAs_0 (32 + i) = dqNth qtX11_sameAs_2 i := dq_step qsX11_sameAs_1 rfl rfl
theorem qX11_sameAs_0 (i b : Nat) (h : dqNth qaX11_sameAs_0 i = some b) : DqBy cX11_sameAs (0 + i) b := dqBy_of qeX11_sameAs ((qsX11_sameAs_0 i).trans (dq_in h))
theorem qX11_sameAs_1 (i b : Nat) (h : dqNth qaX11_sameAs_1 i = some b) : DqBy cX11_sameAs (16 + i) b := dqBy_of qeX11_sameAs ((qsX11_sameAs_1 i).trans (dq_in h))
theorem qX11_sameAs_2 (i b : Nat) (h : dqNth qaX11_sameAs_2 i = some b) : DqBy cX11_sameAs (32 + i) b := dqBy_of qeX11_sameAs ((qsX11_sameAs_2 i).trans (dq_in h))
theorem dX11_sameAs_0 : decode cX11_sameAs 0 = .ok (.iconst 0, 1) := @dq_o3 cX11_sameAs 0 (qX11_sameAs_0 0 3 rfl)
theorem dX11_sameAs_1 : decode cX11_sameAs 1 = .ok (.istore_n 2, 1) := @dq_o61 cX11_sameAs 1 (qX11_sameAs_0 1 61 rfl)
theorem dX11_sameAs_2 : decode cX11_sameAs 2 = .ok (.iconst 0, 1) := @dq_o3 cX11_sameAs 2 (qX11_sameAs_0 2 3 rfl)
theorem dX11_sameAs_3 : decode cX11_sameAs 3 = .ok (.istore_n 3, 1) := @dq_o62 cX11_sameAs 3 (qX11_sameAs_0 3 62 rfl)
theorem dX11_sameAs_4 : decode cX11_sameAs 4 = .ok (.iload_n 3, 1) := @dq_o29 cX11_sameAs 4 (qX11_sameAs_0 4 29 rfl)
theorem dX11_sameAs_5 : decode cX11_sameAs 5 = .ok (.bipush 10, 2) := @dq_o16 cX11_sameAs 5 10 (qX11_sameAs_0 5 16 rfl) (qX11_sameAs_0 6 10 rfl)
theorem dX11_sameAs_7 : decode cX11_sameAs 7 = .ok (.if_icmp .ge 30, 3) := @dq_o162 cX11_sameAs 7 0 30 (qX11_sameAs_0 7 162 rfl) (qX11_sameAs_0 8 0 rfl) (qX11_sameAs_0 9 30 rfl)
theorem dX11_sameAs_10 : decode cX11_sameAs 10 = .ok (.aload_n 0, 1) := @dq_o42 cX11_sameAs 10 (qX11_sameAs_0 10 42 rfl)
theorem dX11_sameAs_11 : decode cX11_sameAs 11 = .ok (.iconst 1, 1) := @dq_o4 cX11_sameAs 11 (qX11_sameAs_0 11 4 rfl)
theorem dX11_sameAs_12 : decode cX11_sameAs 12 = .ok (.iload_n 3, 1) := @dq_o29 cX11_sameAs 12 (qX11_sameAs_0 12 29 rfl)
theorem dX11_sameAs_13 : decode cX11_sameAs 13 = .ok (.invokevirtual 241, 3) := @dq_o182 cX11_sameAs 13 0 241 (qX11_sameAs_0 13 182 rfl) (qX11_sameAs_0 14 0 rfl) (qX11_sameAs_0 15 241 rfl)
theorem dX11_sameAs_16 : decode cX11_sameAs 16 = .ok (.aload_n 0, 1) := @dq_o42 cX11_sameAs 16 (qX11_sameAs_1 0 42 rfl)
theorem dX11_sameAs_17 : decode cX11_sameAs 17 = .ok (.iconst 0, 1) := @dq_o3 cX11_sameAs 17 (qX11_sameAs_1 1 3 rfl)
theorem dX11_sameAs_18 : decode cX11_sameAs 18 = .ok (.iconst 1, 1) := @dq_o4 cX11_sameAs 18 (qX11_sameAs_1 2 4 rfl)
theorem dX11_sameAs_19 : decode cX11_sameAs 19 = .ok (.invokevirtual 266, 3) := @dq_o182 cX11_sameAs 19 1 10 (qX11_sameAs_1 3 182 rfl) (qX11_sameAs_1 4 1 rfl) (qX11_sameAs_1 5 10 rfl)
theorem dX11_sameAs_22 : decode cX11_sameAs 22 = .ok (.ifCond .eq 9, 3) := @dq_o153 cX11_sameAs 22 0 9 (qX11_sameAs_1 6 153 rfl) (qX11_sameAs_1 7 0 rfl) (qX11_sameAs_1 8 9 rfl)
theorem dX11_sameAs_25 : decode cX11_sameAs 25 = .ok (.iload_n 2, 1) := @dq_o28 cX11_sameAs 25 (qX11_sameAs_1 9 28 rfl)
theorem dX11_sameAs_26 : decode cX11_sameAs 26 = .ok (.iconst 1, 1) := @dq_o4 cX11_sameAs 26 (qX11_sameAs_1 10 4 rfl)
theorem dX11_sameAs_27 : decode cX11_sameAs 27 = .ok (.iload_n 3, 1) := @dq_o29 cX11_sameAs 27 (qX11_sameAs_1 11 29 rfl)
theorem dX11_sameAs_28 : decode cX11_sameAs 28 = .ok (.ishl, 1) := @dq_o120 cX11_sameAs 28 (qX11_sameAs_1 12 120 rfl)
theorem dX11_sameAs_29 : decode cX11_sameAs 29 = .ok (.ior, 1) := @dq_o128 cX11_sameAs 29 (qX11_sameAs_1 13 128 rfl)
theorem dX11_sameAs_30 : decode cX11_sameAs 30 = .ok (.istore_n 2, 1) := @dq_o61 cX11_sameAs 30 (qX11_sameAs_1 14 61 rfl)
theorem dX11_sameAs_31 : decode cX11_sameAs 31 = .ok (.iinc 3 1, 3) := @dq_o132 cX11_sameAs 31 3 1 (qX11_sameAs_1 15 132 rfl) (qX11_sameAs_2 0 3 rfl) (qX11_sameAs_2 1 1 rfl)
theorem dX11_sameAs_34 : decode cX11_sameAs 34 = .ok (.goto (-30), 3) := @dq_o167 cX11_sameAs 34 255 226 (qX11_sameAs_2 2 167 rfl) (qX11_sameAs_2 3 255 rfl) (qX11_sameAs_2 4 226 rfl)
theorem dX11_sameAs_37 : decode cX11_sameAs 37 = .ok (.iload_n 2, 1) := @dq_o28 cX11_sameAs 37 (qX11_sameAs_2 5 28 rfl)
theorem dX11_sameAs_38 : decode cX11_sameAs 38 = .ok (.ireturn, 1) := @dq_o172 cX11_sameAs 38 (qX11_sameAs_2 6 172 rfl)
abbrev qaX11_isMade_0 : List Nat := [3, 62, 29, 42, 182, 0, 88, 162, 0, 31, 42, 29, 182, 0, 92, 4]
abbrev qaX11_isMade_1 : List Nat := [160, 0, 16, 42, 27, 29, 182, 0, 166, 9, 148, 153, 0, 5, 3, 172]
abbrev qaX11_isMade_2 : List Nat := [132, 3, 1, 167, 255, 223, 42, 3, 181, 1, 127, 3, 62, 29, 42, 182]
abbrev qaX11_isMade_3 : List Nat := [0, 88, 162, 0, 36, 29, 4, 96, 54, 4, 21, 4, 42, 182, 0, 88]
abbrev qaX11_isMade_4 : List Nat := [162, 0, 16, 42, 21, 4, 29, 182, 1, 130, 132, 4, 1, 167, 255, 237]
abbrev qaX11_isMade_5 : List Nat := [132, 3, 1, 167, 255, 218, 3, 62, 29, 16, 18, 162, 0, 36, 42, 180]
abbrev qaX11_isMade_6 : List Nat := [0, 64, 29, 29, 42, 182, 0, 88, 162, 0, 15, 28, 133, 42, 27, 29]
abbrev qaX11_isMade_7 : List Nat := [182, 0, 166, 105, 167, 0, 4, 9, 80, 132, 3, 1, 167, 255, 220, 42]
abbrev qaX11_isMade_8 : List Nat := [182, 1, 133, 172]
def qtX11_isMade_9 : List Nat := []
def qtX11_isMade_8 : List Nat := qaX11_isMade_8 ++ qtX11_isMade_9
def qtX11_isMade_7 : List Nat := qaX11_isMade_7 ++ qtX11_isMade_8
def qtX11_isMade_6 : List Nat := qaX11_isMade_6 ++ qtX11_isMade_7
def qtX11_isMade_5 : List Nat := qaX11_isMade_5 ++ qtX11_isMade_6
def qtX11_isMade_4 : List Nat := qaX11_isMade_4 ++ qtX11_isMade_5
def qtX11_isMade_3 : List Nat := qaX11_isMade_3 ++ qtX11_isMade_4
def qtX11_isMade_2 : List Nat := qaX11_isMade_2 ++ qtX11_isMade_3
def qtX11_isMade_1 : List Nat := qaX11_isMade_1 ++ qtX11_isMade_2
def qtX11_isMade_0 : List Nat := qaX11_isMade_0 ++ qtX11_isMade_1
theorem qeX11_isMade : cX11_isMade.data.toList.map UInt8.toNat = qtX11_isMade_0 := by decide +kernel
theorem qsX11_isMade_0 : ∀ i, dqNth qtX11_isMade_0 (0 + i) = dqNth qtX11_isMade_0 i := fun i => by rw [Nat.zero_add]
theorem qsX11_isMade_1 : ∀ i, dqNth qtX11_isMade_0 (16 + i) = dqNth qtX11_isMade_1 i := dq_step qsX11_isMade_0 rfl rfl
theorem qsX11_isMade_2 : ∀ i, dqNth qtX11_isMade_0 (32 + i) = dqNth qtX11_isMade_2 i := dq_step qsX11_isMade_1 rfl rfl
theorem qsX11_isMade_3 : ∀ i, dqNth qtX11_isMade_0 (48 + i) = dqNth qtX11_isMade_3 i := dq_step qsX11_isMade_2 rfl rfl
theorem qsX11_isMade_4 : ∀ i, dqNth qtX11_isMade_0 (64 + i) = dqNth qtX11_isMade_4 i := dq_step qsX11_isMade_3 rfl rfl
theorem qsX11_isMade_5 : ∀ i, dqNth qtX11_isMade_0 (80 + i) = dqNth qtX11_isMade_5 i := dq_step qsX11_isMade_4 rfl rfl
theorem qsX11_isMade_6 : ∀ i, dqNth qtX11_isMade_0 (96 + i) = dqNth qtX11_isMade_6 i := dq_step qsX11_isMade_5 rfl rfl
theorem qsX11_isMade_7 : ∀ i, dqNth qtX11_isMade_0 (112 + i) = dqNth qtX11_isMade_7 i := dq_step qsX11_isMade_6 rfl rfl
theorem qsX11_isMade_8 : ∀ i, dqNth qtX11_isMade_0 (128 + i) = dqNth qtX11_isMade_8 i := dq_step qsX11_isMade_7 rfl rfl
theorem qX11_isMade_0 (i b : Nat) (h : dqNth qaX11_isMade_0 i = some b) : DqBy cX11_isMade (0 + i) b := dqBy_of qeX11_isMade ((qsX11_isMade_0 i).trans (dq_in h))
theorem qX11_isMade_1 (i b : Nat) (h : dqNth qaX11_isMade_1 i = some b) : DqBy cX11_isMade (16 + i) b := dqBy_of qeX11_isMade ((qsX11_isMade_1 i).trans (dq_in h))
theorem qX11_isMade_2 (i b : Nat) (h : dqNth qaX11_isMade_2 i = some b) : DqBy cX11_isMade (32 + i) b := dqBy_of qeX11_isMade ((qsX11_isMade_2 i).trans (dq_in h))
theorem qX11_isMade_3 (i b : Nat) (h : dqNth qaX11_isMade_3 i = some b) : DqBy cX11_isMade (48 + i) b := dqBy_of qeX11_isMade ((qsX11_isMade_3 i).trans (dq_in h))
theorem qX11_isMade_4 (i b : Nat) (h : dqNth qaX11_isMade_4 i = some b) : DqBy cX11_isMade (64 + i) b := dqBy_of qeX11_isMade ((qsX11_isMade_4 i).trans (dq_in h))
theorem qX11_isMade_5 (i b : Nat) (h : dqNth qaX11_isMade_5 i = some b) : DqBy cX11_isMade (80 + i) b := dqBy_of qeX11_isMade ((qsX11_isMade_5 i).trans (dq_in h))
theorem qX11_isMade_6 (i b : Nat) (h : dqNth qaX11_isMade_6 i = some b) : DqBy cX11_isMade (96 + i) b := dqBy_of qeX11_isMade ((qsX11_isMade_6 i).trans (dq_in h))
theorem qX11_isMade_7 (i b : Nat) (h : dqNth qaX11_isMade_7 i = some b) : DqBy cX11_isMade (112 + i) b := dqBy_of qeX11_isMade ((qsX11_isMade_7 i).trans (dq_in h))
theorem qX11_isMade_8 (i b : Nat) (h : dqNth qaX11_isMade_8 i = some b) : DqBy cX11_isMade (128 + i) b := dqBy_of qeX11_isMade ((qsX11_isMade_8 i).trans (dq_in h))
theorem dX11_isMade_0 : decode cX11_isMade 0 = .ok (.iconst 0, 1) := @dq_o3 cX11_isMade 0 (qX11_isMade_0 0 3 rfl)
theorem dX11_isMade_1 : decode cX11_isMade 1 = .ok (.istore_n 3, 1) := @dq_o62 cX11_isMade 1 (qX11_isMade_0 1 62 rfl)
theorem dX11_isMade_2 : decode cX11_isMade 2 = .ok (.iload_n 3, 1) := @dq_o29 cX11_isMade 2 (qX11_isMade_0 2 29 rfl)
theorem dX11_isMade_3 : decode cX11_isMade 3 = .ok (.aload_n 0, 1) := @dq_o42 cX11_isMade 3 (qX11_isMade_0 3 42 rfl)
theorem dX11_isMade_4 : decode cX11_isMade 4 = .ok (.invokevirtual 88, 3) := @dq_o182 cX11_isMade 4 0 88 (qX11_isMade_0 4 182 rfl) (qX11_isMade_0 5 0 rfl) (qX11_isMade_0 6 88 rfl)
theorem dX11_isMade_7 : decode cX11_isMade 7 = .ok (.if_icmp .ge 31, 3) := @dq_o162 cX11_isMade 7 0 31 (qX11_isMade_0 7 162 rfl) (qX11_isMade_0 8 0 rfl) (qX11_isMade_0 9 31 rfl)
theorem dX11_isMade_10 : decode cX11_isMade 10 = .ok (.aload_n 0, 1) := @dq_o42 cX11_isMade 10 (qX11_isMade_0 10 42 rfl)
theorem dX11_isMade_11 : decode cX11_isMade 11 = .ok (.iload_n 3, 1) := @dq_o29 cX11_isMade 11 (qX11_isMade_0 11 29 rfl)
theorem dX11_isMade_12 : decode cX11_isMade 12 = .ok (.invokevirtual 92, 3) := @dq_o182 cX11_isMade 12 0 92 (qX11_isMade_0 12 182 rfl) (qX11_isMade_0 13 0 rfl) (qX11_isMade_0 14 92 rfl)
theorem dX11_isMade_15 : decode cX11_isMade 15 = .ok (.iconst 1, 1) := @dq_o4 cX11_isMade 15 (qX11_isMade_0 15 4 rfl)
theorem dX11_isMade_16 : decode cX11_isMade 16 = .ok (.if_icmp .ne 16, 3) := @dq_o160 cX11_isMade 16 0 16 (qX11_isMade_1 0 160 rfl) (qX11_isMade_1 1 0 rfl) (qX11_isMade_1 2 16 rfl)
theorem dX11_isMade_19 : decode cX11_isMade 19 = .ok (.aload_n 0, 1) := @dq_o42 cX11_isMade 19 (qX11_isMade_1 3 42 rfl)
theorem dX11_isMade_20 : decode cX11_isMade 20 = .ok (.iload_n 1, 1) := @dq_o27 cX11_isMade 20 (qX11_isMade_1 4 27 rfl)
theorem dX11_isMade_21 : decode cX11_isMade 21 = .ok (.iload_n 3, 1) := @dq_o29 cX11_isMade 21 (qX11_isMade_1 5 29 rfl)
theorem dX11_isMade_22 : decode cX11_isMade 22 = .ok (.invokevirtual 166, 3) := @dq_o182 cX11_isMade 22 0 166 (qX11_isMade_1 6 182 rfl) (qX11_isMade_1 7 0 rfl) (qX11_isMade_1 8 166 rfl)
theorem dX11_isMade_25 : decode cX11_isMade 25 = .ok (.lconst 0, 1) := @dq_o9 cX11_isMade 25 (qX11_isMade_1 9 9 rfl)
theorem dX11_isMade_26 : decode cX11_isMade 26 = .ok (.lcmp, 1) := @dq_o148 cX11_isMade 26 (qX11_isMade_1 10 148 rfl)
theorem dX11_isMade_27 : decode cX11_isMade 27 = .ok (.ifCond .eq 5, 3) := @dq_o153 cX11_isMade 27 0 5 (qX11_isMade_1 11 153 rfl) (qX11_isMade_1 12 0 rfl) (qX11_isMade_1 13 5 rfl)
theorem dX11_isMade_30 : decode cX11_isMade 30 = .ok (.iconst 0, 1) := @dq_o3 cX11_isMade 30 (qX11_isMade_1 14 3 rfl)
theorem dX11_isMade_31 : decode cX11_isMade 31 = .ok (.ireturn, 1) := @dq_o172 cX11_isMade 31 (qX11_isMade_1 15 172 rfl)
theorem dX11_isMade_32 : decode cX11_isMade 32 = .ok (.iinc 3 1, 3) := @dq_o132 cX11_isMade 32 3 1 (qX11_isMade_2 0 132 rfl) (qX11_isMade_2 1 3 rfl) (qX11_isMade_2 2 1 rfl)
theorem dX11_isMade_35 : decode cX11_isMade 35 = .ok (.goto (-33), 3) := @dq_o167 cX11_isMade 35 255 223 (qX11_isMade_2 3 167 rfl) (qX11_isMade_2 4 255 rfl) (qX11_isMade_2 5 223 rfl)
theorem dX11_isMade_38 : decode cX11_isMade 38 = .ok (.aload_n 0, 1) := @dq_o42 cX11_isMade 38 (qX11_isMade_2 6 42 rfl)
theorem dX11_isMade_39 : decode cX11_isMade 39 = .ok (.iconst 0, 1) := @dq_o3 cX11_isMade 39 (qX11_isMade_2 7 3 rfl)
theorem dX11_isMade_40 : decode cX11_isMade 40 = .ok (.putfield 383, 3) := @dq_o181 cX11_isMade 40 1 127 (qX11_isMade_2 8 181 rfl) (qX11_isMade_2 9 1 rfl) (qX11_isMade_2 10 127 rfl)
theorem dX11_isMade_43 : decode cX11_isMade 43 = .ok (.iconst 0, 1) := @dq_o3 cX11_isMade 43 (qX11_isMade_2 11 3 rfl)
theorem dX11_isMade_44 : decode cX11_isMade 44 = .ok (.istore_n 3, 1) := @dq_o62 cX11_isMade 44 (qX11_isMade_2 12 62 rfl)
theorem dX11_isMade_45 : decode cX11_isMade 45 = .ok (.iload_n 3, 1) := @dq_o29 cX11_isMade 45 (qX11_isMade_2 13 29 rfl)
theorem dX11_isMade_46 : decode cX11_isMade 46 = .ok (.aload_n 0, 1) := @dq_o42 cX11_isMade 46 (qX11_isMade_2 14 42 rfl)
theorem dX11_isMade_47 : decode cX11_isMade 47 = .ok (.invokevirtual 88, 3) := @dq_o182 cX11_isMade 47 0 88 (qX11_isMade_2 15 182 rfl) (qX11_isMade_3 0 0 rfl) (qX11_isMade_3 1 88 rfl)
theorem dX11_isMade_50 : decode cX11_isMade 50 = .ok (.if_icmp .ge 36, 3) := @dq_o162 cX11_isMade 50 0 36 (qX11_isMade_3 2 162 rfl) (qX11_isMade_3 3 0 rfl) (qX11_isMade_3 4 36 rfl)
theorem dX11_isMade_53 : decode cX11_isMade 53 = .ok (.iload_n 3, 1) := @dq_o29 cX11_isMade 53 (qX11_isMade_3 5 29 rfl)
theorem dX11_isMade_54 : decode cX11_isMade 54 = .ok (.iconst 1, 1) := @dq_o4 cX11_isMade 54 (qX11_isMade_3 6 4 rfl)
theorem dX11_isMade_55 : decode cX11_isMade 55 = .ok (.iadd, 1) := @dq_o96 cX11_isMade 55 (qX11_isMade_3 7 96 rfl)
theorem dX11_isMade_56 : decode cX11_isMade 56 = .ok (.istore 4, 2) := @dq_o54 cX11_isMade 56 4 (qX11_isMade_3 8 54 rfl) (qX11_isMade_3 9 4 rfl)
theorem dX11_isMade_58 : decode cX11_isMade 58 = .ok (.iload 4, 2) := @dq_o21 cX11_isMade 58 4 (qX11_isMade_3 10 21 rfl) (qX11_isMade_3 11 4 rfl)
theorem dX11_isMade_60 : decode cX11_isMade 60 = .ok (.aload_n 0, 1) := @dq_o42 cX11_isMade 60 (qX11_isMade_3 12 42 rfl)
theorem dX11_isMade_61 : decode cX11_isMade 61 = .ok (.invokevirtual 88, 3) := @dq_o182 cX11_isMade 61 0 88 (qX11_isMade_3 13 182 rfl) (qX11_isMade_3 14 0 rfl) (qX11_isMade_3 15 88 rfl)
theorem dX11_isMade_64 : decode cX11_isMade 64 = .ok (.if_icmp .ge 16, 3) := @dq_o162 cX11_isMade 64 0 16 (qX11_isMade_4 0 162 rfl) (qX11_isMade_4 1 0 rfl) (qX11_isMade_4 2 16 rfl)
theorem dX11_isMade_67 : decode cX11_isMade 67 = .ok (.aload_n 0, 1) := @dq_o42 cX11_isMade 67 (qX11_isMade_4 3 42 rfl)
theorem dX11_isMade_68 : decode cX11_isMade 68 = .ok (.iload 4, 2) := @dq_o21 cX11_isMade 68 4 (qX11_isMade_4 4 21 rfl) (qX11_isMade_4 5 4 rfl)
theorem dX11_isMade_70 : decode cX11_isMade 70 = .ok (.iload_n 3, 1) := @dq_o29 cX11_isMade 70 (qX11_isMade_4 6 29 rfl)
theorem dX11_isMade_71 : decode cX11_isMade 71 = .ok (.invokevirtual 386, 3) := @dq_o182 cX11_isMade 71 1 130 (qX11_isMade_4 7 182 rfl) (qX11_isMade_4 8 1 rfl) (qX11_isMade_4 9 130 rfl)
theorem dX11_isMade_74 : decode cX11_isMade 74 = .ok (.iinc 4 1, 3) := @dq_o132 cX11_isMade 74 4 1 (qX11_isMade_4 10 132 rfl) (qX11_isMade_4 11 4 rfl) (qX11_isMade_4 12 1 rfl)
theorem dX11_isMade_77 : decode cX11_isMade 77 = .ok (.goto (-19), 3) := @dq_o167 cX11_isMade 77 255 237 (qX11_isMade_4 13 167 rfl) (qX11_isMade_4 14 255 rfl) (qX11_isMade_4 15 237 rfl)
theorem dX11_isMade_80 : decode cX11_isMade 80 = .ok (.iinc 3 1, 3) := @dq_o132 cX11_isMade 80 3 1 (qX11_isMade_5 0 132 rfl) (qX11_isMade_5 1 3 rfl) (qX11_isMade_5 2 1 rfl)
theorem dX11_isMade_83 : decode cX11_isMade 83 = .ok (.goto (-38), 3) := @dq_o167 cX11_isMade 83 255 218 (qX11_isMade_5 3 167 rfl) (qX11_isMade_5 4 255 rfl) (qX11_isMade_5 5 218 rfl)
theorem dX11_isMade_86 : decode cX11_isMade 86 = .ok (.iconst 0, 1) := @dq_o3 cX11_isMade 86 (qX11_isMade_5 6 3 rfl)
theorem dX11_isMade_87 : decode cX11_isMade 87 = .ok (.istore_n 3, 1) := @dq_o62 cX11_isMade 87 (qX11_isMade_5 7 62 rfl)
theorem dX11_isMade_88 : decode cX11_isMade 88 = .ok (.iload_n 3, 1) := @dq_o29 cX11_isMade 88 (qX11_isMade_5 8 29 rfl)
theorem dX11_isMade_89 : decode cX11_isMade 89 = .ok (.bipush 18, 2) := @dq_o16 cX11_isMade 89 18 (qX11_isMade_5 9 16 rfl) (qX11_isMade_5 10 18 rfl)
theorem dX11_isMade_91 : decode cX11_isMade 91 = .ok (.if_icmp .ge 36, 3) := @dq_o162 cX11_isMade 91 0 36 (qX11_isMade_5 11 162 rfl) (qX11_isMade_5 12 0 rfl) (qX11_isMade_5 13 36 rfl)
theorem dX11_isMade_94 : decode cX11_isMade 94 = .ok (.aload_n 0, 1) := @dq_o42 cX11_isMade 94 (qX11_isMade_5 14 42 rfl)
theorem dX11_isMade_95 : decode cX11_isMade 95 = .ok (.getfield 64, 3) := @dq_o180 cX11_isMade 95 0 64 (qX11_isMade_5 15 180 rfl) (qX11_isMade_6 0 0 rfl) (qX11_isMade_6 1 64 rfl)
theorem dX11_isMade_98 : decode cX11_isMade 98 = .ok (.iload_n 3, 1) := @dq_o29 cX11_isMade 98 (qX11_isMade_6 2 29 rfl)
theorem dX11_isMade_99 : decode cX11_isMade 99 = .ok (.iload_n 3, 1) := @dq_o29 cX11_isMade 99 (qX11_isMade_6 3 29 rfl)
theorem dX11_isMade_100 : decode cX11_isMade 100 = .ok (.aload_n 0, 1) := @dq_o42 cX11_isMade 100 (qX11_isMade_6 4 42 rfl)
theorem dX11_isMade_101 : decode cX11_isMade 101 = .ok (.invokevirtual 88, 3) := @dq_o182 cX11_isMade 101 0 88 (qX11_isMade_6 5 182 rfl) (qX11_isMade_6 6 0 rfl) (qX11_isMade_6 7 88 rfl)
theorem dX11_isMade_104 : decode cX11_isMade 104 = .ok (.if_icmp .ge 15, 3) := @dq_o162 cX11_isMade 104 0 15 (qX11_isMade_6 8 162 rfl) (qX11_isMade_6 9 0 rfl) (qX11_isMade_6 10 15 rfl)
theorem dX11_isMade_107 : decode cX11_isMade 107 = .ok (.iload_n 2, 1) := @dq_o28 cX11_isMade 107 (qX11_isMade_6 11 28 rfl)
theorem dX11_isMade_108 : decode cX11_isMade 108 = .ok (.i2l, 1) := @dq_o133 cX11_isMade 108 (qX11_isMade_6 12 133 rfl)
theorem dX11_isMade_109 : decode cX11_isMade 109 = .ok (.aload_n 0, 1) := @dq_o42 cX11_isMade 109 (qX11_isMade_6 13 42 rfl)
theorem dX11_isMade_110 : decode cX11_isMade 110 = .ok (.iload_n 1, 1) := @dq_o27 cX11_isMade 110 (qX11_isMade_6 14 27 rfl)
theorem dX11_isMade_111 : decode cX11_isMade 111 = .ok (.iload_n 3, 1) := @dq_o29 cX11_isMade 111 (qX11_isMade_6 15 29 rfl)
theorem dX11_isMade_112 : decode cX11_isMade 112 = .ok (.invokevirtual 166, 3) := @dq_o182 cX11_isMade 112 0 166 (qX11_isMade_7 0 182 rfl) (qX11_isMade_7 1 0 rfl) (qX11_isMade_7 2 166 rfl)
theorem dX11_isMade_115 : decode cX11_isMade 115 = .ok (.lmul, 1) := @dq_o105 cX11_isMade 115 (qX11_isMade_7 3 105 rfl)
theorem dX11_isMade_116 : decode cX11_isMade 116 = .ok (.goto 4, 3) := @dq_o167 cX11_isMade 116 0 4 (qX11_isMade_7 4 167 rfl) (qX11_isMade_7 5 0 rfl) (qX11_isMade_7 6 4 rfl)
theorem dX11_isMade_119 : decode cX11_isMade 119 = .ok (.lconst 0, 1) := @dq_o9 cX11_isMade 119 (qX11_isMade_7 7 9 rfl)
theorem dX11_isMade_120 : decode cX11_isMade 120 = .ok (.lastore, 1) := @dq_o80 cX11_isMade 120 (qX11_isMade_7 8 80 rfl)
theorem dX11_isMade_121 : decode cX11_isMade 121 = .ok (.iinc 3 1, 3) := @dq_o132 cX11_isMade 121 3 1 (qX11_isMade_7 9 132 rfl) (qX11_isMade_7 10 3 rfl) (qX11_isMade_7 11 1 rfl)
theorem dX11_isMade_124 : decode cX11_isMade 124 = .ok (.goto (-36), 3) := @dq_o167 cX11_isMade 124 255 220 (qX11_isMade_7 12 167 rfl) (qX11_isMade_7 13 255 rfl) (qX11_isMade_7 14 220 rfl)
theorem dX11_isMade_127 : decode cX11_isMade 127 = .ok (.aload_n 0, 1) := @dq_o42 cX11_isMade 127 (qX11_isMade_7 15 42 rfl)
theorem dX11_isMade_128 : decode cX11_isMade 128 = .ok (.invokevirtual 389, 3) := @dq_o182 cX11_isMade 128 1 133 (qX11_isMade_8 0 182 rfl) (qX11_isMade_8 1 1 rfl) (qX11_isMade_8 2 133 rfl)
theorem dX11_isMade_131 : decode cX11_isMade 131 = .ok (.ireturn, 1) := @dq_o172 cX11_isMade 131 (qX11_isMade_8 3 172 rfl)
abbrev qaX11_addsTail_0 : List Nat := [3, 62, 29, 16, 18, 162, 0, 48, 42, 180, 0, 61, 16, 18, 42, 180]
abbrev qaX11_addsTail_1 : List Nat := [1, 127, 104, 29, 96, 29, 27, 164, 0, 22, 29, 42, 182, 0, 88, 162]
abbrev qaX11_addsTail_2 : List Nat := [0, 14, 42, 27, 28, 29, 182, 0, 130, 133, 167, 0, 4, 9, 80, 132]
abbrev qaX11_addsTail_3 : List Nat := [3, 1, 167, 255, 208, 42, 42, 180, 1, 127, 4, 96, 181, 1, 127, 177]
def qtX11_addsTail_4 : List Nat := []
def qtX11_addsTail_3 : List Nat := qaX11_addsTail_3 ++ qtX11_addsTail_4
def qtX11_addsTail_2 : List Nat := qaX11_addsTail_2 ++ qtX11_addsTail_3
def qtX11_addsTail_1 : List Nat := qaX11_addsTail_1 ++ qtX11_addsTail_2
def qtX11_addsTail_0 : List Nat := qaX11_addsTail_0 ++ qtX11_addsTail_1
theorem qeX11_addsTail : cX11_addsTail.data.toList.map UInt8.toNat = qtX11_addsTail_0 := by decide +kernel
theorem qsX11_addsTail_0 : ∀ i, dqNth qtX11_addsTail_0 (0 + i) = dqNth qtX11_addsTail_0 i := fun i => by rw [Nat.zero_add]
theorem qsX11_addsTail_1 : ∀ i, dqNth qtX11_addsTail_0 (16 + i) = dqNth qtX11_addsTail_1 i := dq_step qsX11_addsTail_0 rfl rfl
theorem qsX11_addsTail_2 : ∀ i, dqNth qtX11_addsTail_0 (32 + i) = dqNth qtX11_addsTail_2 i := dq_step qsX11_addsTail_1 rfl rfl
theorem qsX11_addsTail_3 : ∀ i, dqNth qtX11_addsTail_0 (48 + i) = dqNth qtX11_addsTail_3 i := dq_step qsX11_addsTail_2 rfl rfl
theorem qX11_addsTail_0 (i b : Nat) (h : dqNth qaX11_addsTail_0 i = some b) : DqBy cX11_addsTail (0 + i) b := dqBy_of qeX11_addsTail ((qsX11_addsTail_0 i).trans (dq_in h))
theorem qX11_addsTail_1 (i b : Nat) (h : dqNth qaX11_addsTail_1 i = some b) : DqBy cX11_addsTail (16 + i) b := dqBy_of qeX11_addsTail ((qsX11_addsTail_1 i).trans (dq_in h))
theorem qX11_addsTail_2 (i b : Nat) (h : dqNth qaX11_addsTail_2 i = some b) : DqBy cX11_addsTail (32 + i) b := dqBy_of qeX11_addsTail ((qsX11_addsTail_2 i).trans (dq_in h))
theorem qX11_addsTail_3 (i b : Nat) (h : dqNth qaX11_addsTail_3 i = some b) : DqBy cX11_addsTail (48 + i) b := dqBy_of qeX11_addsTail ((qsX11_addsTail_3 i).trans (dq_in h))
theorem dX11_addsTail_0 : decode cX11_addsTail 0 = .ok (.iconst 0, 1) := @dq_o3 cX11_addsTail 0 (qX11_addsTail_0 0 3 rfl)
theorem dX11_addsTail_1 : decode cX11_addsTail 1 = .ok (.istore_n 3, 1) := @dq_o62 cX11_addsTail 1 (qX11_addsTail_0 1 62 rfl)
theorem dX11_addsTail_2 : decode cX11_addsTail 2 = .ok (.iload_n 3, 1) := @dq_o29 cX11_addsTail 2 (qX11_addsTail_0 2 29 rfl)
theorem dX11_addsTail_3 : decode cX11_addsTail 3 = .ok (.bipush 18, 2) := @dq_o16 cX11_addsTail 3 18 (qX11_addsTail_0 3 16 rfl) (qX11_addsTail_0 4 18 rfl)
theorem dX11_addsTail_5 : decode cX11_addsTail 5 = .ok (.if_icmp .ge 48, 3) := @dq_o162 cX11_addsTail 5 0 48 (qX11_addsTail_0 5 162 rfl) (qX11_addsTail_0 6 0 rfl) (qX11_addsTail_0 7 48 rfl)
theorem dX11_addsTail_8 : decode cX11_addsTail 8 = .ok (.aload_n 0, 1) := @dq_o42 cX11_addsTail 8 (qX11_addsTail_0 8 42 rfl)
theorem dX11_addsTail_9 : decode cX11_addsTail 9 = .ok (.getfield 61, 3) := @dq_o180 cX11_addsTail 9 0 61 (qX11_addsTail_0 9 180 rfl) (qX11_addsTail_0 10 0 rfl) (qX11_addsTail_0 11 61 rfl)
theorem dX11_addsTail_12 : decode cX11_addsTail 12 = .ok (.bipush 18, 2) := @dq_o16 cX11_addsTail 12 18 (qX11_addsTail_0 12 16 rfl) (qX11_addsTail_0 13 18 rfl)
theorem dX11_addsTail_14 : decode cX11_addsTail 14 = .ok (.aload_n 0, 1) := @dq_o42 cX11_addsTail 14 (qX11_addsTail_0 14 42 rfl)
theorem dX11_addsTail_15 : decode cX11_addsTail 15 = .ok (.getfield 383, 3) := @dq_o180 cX11_addsTail 15 1 127 (qX11_addsTail_0 15 180 rfl) (qX11_addsTail_1 0 1 rfl) (qX11_addsTail_1 1 127 rfl)
theorem dX11_addsTail_18 : decode cX11_addsTail 18 = .ok (.imul, 1) := @dq_o104 cX11_addsTail 18 (qX11_addsTail_1 2 104 rfl)
theorem dX11_addsTail_19 : decode cX11_addsTail 19 = .ok (.iload_n 3, 1) := @dq_o29 cX11_addsTail 19 (qX11_addsTail_1 3 29 rfl)
theorem dX11_addsTail_20 : decode cX11_addsTail 20 = .ok (.iadd, 1) := @dq_o96 cX11_addsTail 20 (qX11_addsTail_1 4 96 rfl)
theorem dX11_addsTail_21 : decode cX11_addsTail 21 = .ok (.iload_n 3, 1) := @dq_o29 cX11_addsTail 21 (qX11_addsTail_1 5 29 rfl)
theorem dX11_addsTail_22 : decode cX11_addsTail 22 = .ok (.iload_n 1, 1) := @dq_o27 cX11_addsTail 22 (qX11_addsTail_1 6 27 rfl)
theorem dX11_addsTail_23 : decode cX11_addsTail 23 = .ok (.if_icmp .le 22, 3) := @dq_o164 cX11_addsTail 23 0 22 (qX11_addsTail_1 7 164 rfl) (qX11_addsTail_1 8 0 rfl) (qX11_addsTail_1 9 22 rfl)
theorem dX11_addsTail_26 : decode cX11_addsTail 26 = .ok (.iload_n 3, 1) := @dq_o29 cX11_addsTail 26 (qX11_addsTail_1 10 29 rfl)
theorem dX11_addsTail_27 : decode cX11_addsTail 27 = .ok (.aload_n 0, 1) := @dq_o42 cX11_addsTail 27 (qX11_addsTail_1 11 42 rfl)
theorem dX11_addsTail_28 : decode cX11_addsTail 28 = .ok (.invokevirtual 88, 3) := @dq_o182 cX11_addsTail 28 0 88 (qX11_addsTail_1 12 182 rfl) (qX11_addsTail_1 13 0 rfl) (qX11_addsTail_1 14 88 rfl)
theorem dX11_addsTail_31 : decode cX11_addsTail 31 = .ok (.if_icmp .ge 14, 3) := @dq_o162 cX11_addsTail 31 0 14 (qX11_addsTail_1 15 162 rfl) (qX11_addsTail_2 0 0 rfl) (qX11_addsTail_2 1 14 rfl)
theorem dX11_addsTail_34 : decode cX11_addsTail 34 = .ok (.aload_n 0, 1) := @dq_o42 cX11_addsTail 34 (qX11_addsTail_2 2 42 rfl)
theorem dX11_addsTail_35 : decode cX11_addsTail 35 = .ok (.iload_n 1, 1) := @dq_o27 cX11_addsTail 35 (qX11_addsTail_2 3 27 rfl)
theorem dX11_addsTail_36 : decode cX11_addsTail 36 = .ok (.iload_n 2, 1) := @dq_o28 cX11_addsTail 36 (qX11_addsTail_2 4 28 rfl)
theorem dX11_addsTail_37 : decode cX11_addsTail 37 = .ok (.iload_n 3, 1) := @dq_o29 cX11_addsTail 37 (qX11_addsTail_2 5 29 rfl)
theorem dX11_addsTail_38 : decode cX11_addsTail 38 = .ok (.invokevirtual 130, 3) := @dq_o182 cX11_addsTail 38 0 130 (qX11_addsTail_2 6 182 rfl) (qX11_addsTail_2 7 0 rfl) (qX11_addsTail_2 8 130 rfl)
theorem dX11_addsTail_41 : decode cX11_addsTail 41 = .ok (.i2l, 1) := @dq_o133 cX11_addsTail 41 (qX11_addsTail_2 9 133 rfl)
theorem dX11_addsTail_42 : decode cX11_addsTail 42 = .ok (.goto 4, 3) := @dq_o167 cX11_addsTail 42 0 4 (qX11_addsTail_2 10 167 rfl) (qX11_addsTail_2 11 0 rfl) (qX11_addsTail_2 12 4 rfl)
theorem dX11_addsTail_45 : decode cX11_addsTail 45 = .ok (.lconst 0, 1) := @dq_o9 cX11_addsTail 45 (qX11_addsTail_2 13 9 rfl)
theorem dX11_addsTail_46 : decode cX11_addsTail 46 = .ok (.lastore, 1) := @dq_o80 cX11_addsTail 46 (qX11_addsTail_2 14 80 rfl)
theorem dX11_addsTail_47 : decode cX11_addsTail 47 = .ok (.iinc 3 1, 3) := @dq_o132 cX11_addsTail 47 3 1 (qX11_addsTail_2 15 132 rfl) (qX11_addsTail_3 0 3 rfl) (qX11_addsTail_3 1 1 rfl)
theorem dX11_addsTail_50 : decode cX11_addsTail 50 = .ok (.goto (-48), 3) := @dq_o167 cX11_addsTail 50 255 208 (qX11_addsTail_3 2 167 rfl) (qX11_addsTail_3 3 255 rfl) (qX11_addsTail_3 4 208 rfl)
theorem dX11_addsTail_53 : decode cX11_addsTail 53 = .ok (.aload_n 0, 1) := @dq_o42 cX11_addsTail 53 (qX11_addsTail_3 5 42 rfl)
theorem dX11_addsTail_54 : decode cX11_addsTail 54 = .ok (.aload_n 0, 1) := @dq_o42 cX11_addsTail 54 (qX11_addsTail_3 6 42 rfl)
theorem dX11_addsTail_55 : decode cX11_addsTail 55 = .ok (.getfield 383, 3) := @dq_o180 cX11_addsTail 55 1 127 (qX11_addsTail_3 7 180 rfl) (qX11_addsTail_3 8 1 rfl) (qX11_addsTail_3 9 127 rfl)
theorem dX11_addsTail_58 : decode cX11_addsTail 58 = .ok (.iconst 1, 1) := @dq_o4 cX11_addsTail 58 (qX11_addsTail_3 10 4 rfl)
theorem dX11_addsTail_59 : decode cX11_addsTail 59 = .ok (.iadd, 1) := @dq_o96 cX11_addsTail 59 (qX11_addsTail_3 11 96 rfl)
theorem dX11_addsTail_60 : decode cX11_addsTail 60 = .ok (.putfield 383, 3) := @dq_o181 cX11_addsTail 60 1 127 (qX11_addsTail_3 12 181 rfl) (qX11_addsTail_3 13 1 rfl) (qX11_addsTail_3 14 127 rfl)
theorem dX11_addsTail_63 : decode cX11_addsTail 63 = .ok (.return_, 1) := @dq_o177 cX11_addsTail 63 (qX11_addsTail_3 15 177 rfl)
abbrev qaX11_leastMade_0 : List Nat := [4, 61, 28, 16, 100, 162, 0, 20, 42, 27, 28, 182, 1, 136, 153, 0]
abbrev qaX11_leastMade_1 : List Nat := [5, 28, 172, 132, 2, 1, 167, 255, 236, 3, 172]
def qtX11_leastMade_2 : List Nat := []
def qtX11_leastMade_1 : List Nat := qaX11_leastMade_1 ++ qtX11_leastMade_2
def qtX11_leastMade_0 : List Nat := qaX11_leastMade_0 ++ qtX11_leastMade_1
theorem qeX11_leastMade : cX11_leastMade.data.toList.map UInt8.toNat = qtX11_leastMade_0 := by decide +kernel
theorem qsX11_leastMade_0 : ∀ i, dqNth qtX11_leastMade_0 (0 + i) = dqNth qtX11_leastMade_0 i := fun i => by rw [Nat.zero_add]
theorem qsX11_leastMade_1 : ∀ i, dqNth qtX11_leastMade_0 (16 + i) = dqNth qtX11_leastMade_1 i := dq_step qsX11_leastMade_0 rfl rfl
theorem qX11_leastMade_0 (i b : Nat) (h : dqNth qaX11_leastMade_0 i = some b) : DqBy cX11_leastMade (0 + i) b := dqBy_of qeX11_leastMade ((qsX11_leastMade_0 i).trans (dq_in h))
theorem qX11_leastMade_1 (i b : Nat) (h : dqNth qaX11_leastMade_1 i = some b) : DqBy cX11_leastMade (16 + i) b := dqBy_of qeX11_leastMade ((qsX11_leastMade_1 i).trans (dq_in h))
theorem dX11_leastMade_0 : decode cX11_leastMade 0 = .ok (.iconst 1, 1) := @dq_o4 cX11_leastMade 0 (qX11_leastMade_0 0 4 rfl)
theorem dX11_leastMade_1 : decode cX11_leastMade 1 = .ok (.istore_n 2, 1) := @dq_o61 cX11_leastMade 1 (qX11_leastMade_0 1 61 rfl)
theorem dX11_leastMade_2 : decode cX11_leastMade 2 = .ok (.iload_n 2, 1) := @dq_o28 cX11_leastMade 2 (qX11_leastMade_0 2 28 rfl)
theorem dX11_leastMade_3 : decode cX11_leastMade 3 = .ok (.bipush 100, 2) := @dq_o16 cX11_leastMade 3 100 (qX11_leastMade_0 3 16 rfl) (qX11_leastMade_0 4 100 rfl)
theorem dX11_leastMade_5 : decode cX11_leastMade 5 = .ok (.if_icmp .ge 20, 3) := @dq_o162 cX11_leastMade 5 0 20 (qX11_leastMade_0 5 162 rfl) (qX11_leastMade_0 6 0 rfl) (qX11_leastMade_0 7 20 rfl)
theorem dX11_leastMade_8 : decode cX11_leastMade 8 = .ok (.aload_n 0, 1) := @dq_o42 cX11_leastMade 8 (qX11_leastMade_0 8 42 rfl)
theorem dX11_leastMade_9 : decode cX11_leastMade 9 = .ok (.iload_n 1, 1) := @dq_o27 cX11_leastMade 9 (qX11_leastMade_0 9 27 rfl)
theorem dX11_leastMade_10 : decode cX11_leastMade 10 = .ok (.iload_n 2, 1) := @dq_o28 cX11_leastMade 10 (qX11_leastMade_0 10 28 rfl)
theorem dX11_leastMade_11 : decode cX11_leastMade 11 = .ok (.invokevirtual 392, 3) := @dq_o182 cX11_leastMade 11 1 136 (qX11_leastMade_0 11 182 rfl) (qX11_leastMade_0 12 1 rfl) (qX11_leastMade_0 13 136 rfl)
theorem dX11_leastMade_14 : decode cX11_leastMade 14 = .ok (.ifCond .eq 5, 3) := @dq_o153 cX11_leastMade 14 0 5 (qX11_leastMade_0 14 153 rfl) (qX11_leastMade_0 15 0 rfl) (qX11_leastMade_1 0 5 rfl)
theorem dX11_leastMade_17 : decode cX11_leastMade 17 = .ok (.iload_n 2, 1) := @dq_o28 cX11_leastMade 17 (qX11_leastMade_1 1 28 rfl)
theorem dX11_leastMade_18 : decode cX11_leastMade 18 = .ok (.ireturn, 1) := @dq_o172 cX11_leastMade 18 (qX11_leastMade_1 2 172 rfl)
theorem dX11_leastMade_19 : decode cX11_leastMade 19 = .ok (.iinc 2 1, 3) := @dq_o132 cX11_leastMade 19 2 1 (qX11_leastMade_1 3 132 rfl) (qX11_leastMade_1 4 2 rfl) (qX11_leastMade_1 5 1 rfl)
theorem dX11_leastMade_22 : decode cX11_leastMade 22 = .ok (.goto (-20), 3) := @dq_o167 cX11_leastMade 22 255 236 (qX11_leastMade_1 6 167 rfl) (qX11_leastMade_1 7 255 rfl) (qX11_leastMade_1 8 236 rfl)
theorem dX11_leastMade_25 : decode cX11_leastMade 25 = .ok (.iconst 0, 1) := @dq_o3 cX11_leastMade 25 (qX11_leastMade_1 9 3 rfl)
theorem dX11_leastMade_26 : decode cX11_leastMade 26 = .ok (.ireturn, 1) := @dq_o172 cX11_leastMade 26 (qX11_leastMade_1 10 172 rfl)
abbrev qaX11_register_0 : List Nat := [42, 3, 181, 0, 1, 42, 27, 182, 0, 232, 153, 0, 23, 42, 182, 0]
abbrev qaX11_register_1 : List Nat := [235, 153, 0, 16, 42, 28, 133, 9, 20, 1, 139, 182, 0, 101, 154, 0]
abbrev qaX11_register_2 : List Nat := [5, 2, 172, 42, 3, 27, 182, 0, 241, 28, 154, 0, 9, 42, 3, 182]
abbrev qaX11_register_3 : List Nat := [1, 141, 172, 28, 4, 160, 0, 18, 42, 3, 4, 182, 1, 87, 153, 0]
abbrev qaX11_register_4 : List Nat := [7, 4, 167, 0, 4, 3, 172, 28, 5, 160, 0, 17, 42, 3, 182, 1]
abbrev qaX11_register_5 : List Nat := [81, 153, 0, 7, 4, 167, 0, 4, 3, 172, 28, 6, 160, 0, 9, 42]
abbrev qaX11_register_6 : List Nat := [3, 182, 1, 144, 172, 28, 16, 6, 160, 0, 18, 42, 3, 4, 182, 1]
abbrev qaX11_register_7 : List Nat := [136, 153, 0, 7, 4, 167, 0, 4, 3, 172, 28, 16, 7, 160, 0, 9]
abbrev qaX11_register_8 : List Nat := [42, 3, 182, 1, 147, 172, 28, 7, 160, 0, 11, 42, 3, 182, 1, 150]
abbrev qaX11_register_9 : List Nat := [167, 0, 8, 42, 27, 182, 1, 153, 172]
def qtX11_register_10 : List Nat := []
def qtX11_register_9 : List Nat := qaX11_register_9 ++ qtX11_register_10
def qtX11_register_8 : List Nat := qaX11_register_8 ++ qtX11_register_9
def qtX11_register_7 : List Nat := qaX11_register_7 ++ qtX11_register_8
def qtX11_register_6 : List Nat := qaX11_register_6 ++ qtX11_register_7
def qtX11_register_5 : List Nat := qaX11_register_5 ++ qtX11_register_6
def qtX11_register_4 : List Nat := qaX11_register_4 ++ qtX11_register_5
def qtX11_register_3 : List Nat := qaX11_register_3 ++ qtX11_register_4
def qtX11_register_2 : List Nat := qaX11_register_2 ++ qtX11_register_3
def qtX11_register_1 : List Nat := qaX11_register_1 ++ qtX11_register_2
def qtX11_register_0 : List Nat := qaX11_register_0 ++ qtX11_register_1
theorem qeX11_register : cX11_register.data.toList.map UInt8.toNat = qtX11_register_0 := by decide +kernel
theorem qsX11_register_0 : ∀ i, dqNth qtX11_register_0 (0 + i) = dqNth qtX11_register_0 i := fun i => by rw [Nat.zero_add]
theorem qsX11_register_1 : ∀ i, dqNth qtX11_register_0 (16 + i) = dqNth qtX11_register_1 i := dq_step qsX11_register_0 rfl rfl
theorem qsX11_register_2 : ∀ i, dqNth qtX11_register_0 (32 + i) = dqNth qtX11_register_2 i := dq_step qsX11_register_1 rfl rfl
theorem qsX11_register_3 : ∀ i, dqNth qtX11_register_0 (48 + i) = dqNth qtX11_register_3 i := dq_step qsX11_register_2 rfl rfl
theorem qsX11_register_4 : ∀ i, dqNth qtX11_register_0 (64 + i) = dqNth qtX11_register_4 i := dq_step qsX11_register_3 rfl rfl
theorem qsX11_register_5 : ∀ i, dqNth qtX11_register_0 (80 + i) = dqNth qtX11_register_5 i := dq_step qsX11_register_4 rfl rfl
theorem qsX11_register_6 : ∀ i, dqNth qtX11_register_0 (96 + i) = dqNth qtX11_register_6 i := dq_step qsX11_register_5 rfl rfl
theorem qsX11_register_7 : ∀ i, dqNth qtX11_register_0 (112 + i) = dqNth qtX11_register_7 i := dq_step qsX11_register_6 rfl rfl
theorem qsX11_register_8 : ∀ i, dqNth qtX11_register_0 (128 + i) = dqNth qtX11_register_8 i := dq_step qsX11_register_7 rfl rfl
theorem qsX11_register_9 : ∀ i, dqNth qtX11_register_0 (144 + i) = dqNth qtX11_register_9 i := dq_step qsX11_register_8 rfl rfl
theorem qX11_register_0 (i b : Nat) (h : dqNth qaX11_register_0 i = some b) : DqBy cX11_register (0 + i) b := dqBy_of qeX11_register ((qsX11_register_0 i).trans (dq_in h))
theorem qX11_register_1 (i b : Nat) (h : dqNth qaX11_register_1 i = some b) : DqBy cX11_register (16 + i) b := dqBy_of qeX11_register ((qsX11_register_1 i).trans (dq_in h))
theorem qX11_register_2 (i b : Nat) (h : dqNth qaX11_register_2 i = some b) : DqBy cX11_register (32 + i) b := dqBy_of qeX11_register ((qsX11_register_2 i).trans (dq_in h))
theorem qX11_register_3 (i b : Nat) (h : dqNth qaX11_register_3 i = some b) : DqBy cX11_register (48 + i) b := dqBy_of qeX11_register ((qsX11_register_3 i).trans (dq_in h))
theorem qX11_register_4 (i b : Nat) (h : dqNth qaX11_register_4 i = some b) : DqBy cX11_register (64 + i) b := dqBy_of qeX11_register ((qsX11_register_4 i).trans (dq_in h))
theorem qX11_register_5 (i b : Nat) (h : dqNth qaX11_register_5 i = some b) : DqBy cX11_register (80 + i) b := dqBy_of qeX11_register ((qsX11_register_5 i).trans (dq_in h))
theorem qX11_register_6 (i b : Nat) (h : dqNth qaX11_register_6 i = some b) : DqBy cX11_register (96 + i) b := dqBy_of qeX11_register ((qsX11_register_6 i).trans (dq_in h))
theorem qX11_register_7 (i b : Nat) (h : dqNth qaX11_register_7 i = some b) : DqBy cX11_register (112 + i) b := dqBy_of qeX11_register ((qsX11_register_7 i).trans (dq_in h))
theorem qX11_register_8 (i b : Nat) (h : dqNth qaX11_register_8 i = some b) : DqBy cX11_register (128 + i) b := dqBy_of qeX11_register ((qsX11_register_8 i).trans (dq_in h))
theorem qX11_register_9 (i b : Nat) (h : dqNth qaX11_register_9 i = some b) : DqBy cX11_register (144 + i) b := dqBy_of qeX11_register ((qsX11_register_9 i).trans (dq_in h))
theorem dX11_register_0 : decode cX11_register 0 = .ok (.aload_n 0, 1) := @dq_o42 cX11_register 0 (qX11_register_0 0 42 rfl)
theorem dX11_register_1 : decode cX11_register 1 = .ok (.iconst 0, 1) := @dq_o3 cX11_register 1 (qX11_register_0 1 3 rfl)
theorem dX11_register_2 : decode cX11_register 2 = .ok (.putfield 1, 3) := @dq_o181 cX11_register 2 0 1 (qX11_register_0 2 181 rfl) (qX11_register_0 3 0 rfl) (qX11_register_0 4 1 rfl)
theorem dX11_register_5 : decode cX11_register 5 = .ok (.aload_n 0, 1) := @dq_o42 cX11_register 5 (qX11_register_0 5 42 rfl)
theorem dX11_register_6 : decode cX11_register 6 = .ok (.iload_n 1, 1) := @dq_o27 cX11_register 6 (qX11_register_0 6 27 rfl)
theorem dX11_register_7 : decode cX11_register 7 = .ok (.invokevirtual 232, 3) := @dq_o182 cX11_register 7 0 232 (qX11_register_0 7 182 rfl) (qX11_register_0 8 0 rfl) (qX11_register_0 9 232 rfl)
theorem dX11_register_10 : decode cX11_register 10 = .ok (.ifCond .eq 23, 3) := @dq_o153 cX11_register 10 0 23 (qX11_register_0 10 153 rfl) (qX11_register_0 11 0 rfl) (qX11_register_0 12 23 rfl)
theorem dX11_register_13 : decode cX11_register 13 = .ok (.aload_n 0, 1) := @dq_o42 cX11_register 13 (qX11_register_0 13 42 rfl)
theorem dX11_register_14 : decode cX11_register 14 = .ok (.invokevirtual 235, 3) := @dq_o182 cX11_register 14 0 235 (qX11_register_0 14 182 rfl) (qX11_register_0 15 0 rfl) (qX11_register_1 0 235 rfl)
theorem dX11_register_17 : decode cX11_register 17 = .ok (.ifCond .eq 16, 3) := @dq_o153 cX11_register 17 0 16 (qX11_register_1 1 153 rfl) (qX11_register_1 2 0 rfl) (qX11_register_1 3 16 rfl)
theorem dX11_register_20 : decode cX11_register 20 = .ok (.aload_n 0, 1) := @dq_o42 cX11_register 20 (qX11_register_1 4 42 rfl)
theorem dX11_register_21 : decode cX11_register 21 = .ok (.iload_n 2, 1) := @dq_o28 cX11_register 21 (qX11_register_1 5 28 rfl)
theorem dX11_register_22 : decode cX11_register 22 = .ok (.i2l, 1) := @dq_o133 cX11_register 22 (qX11_register_1 6 133 rfl)
theorem dX11_register_23 : decode cX11_register 23 = .ok (.lconst 0, 1) := @dq_o9 cX11_register 23 (qX11_register_1 7 9 rfl)
theorem dX11_register_24 : decode cX11_register 24 = .ok (.ldc2_w 395, 3) := @dq_o20 cX11_register 24 1 139 (qX11_register_1 8 20 rfl) (qX11_register_1 9 1 rfl) (qX11_register_1 10 139 rfl)
theorem dX11_register_27 : decode cX11_register 27 = .ok (.invokevirtual 101, 3) := @dq_o182 cX11_register 27 0 101 (qX11_register_1 11 182 rfl) (qX11_register_1 12 0 rfl) (qX11_register_1 13 101 rfl)
theorem dX11_register_30 : decode cX11_register 30 = .ok (.ifCond .ne 5, 3) := @dq_o154 cX11_register 30 0 5 (qX11_register_1 14 154 rfl) (qX11_register_1 15 0 rfl) (qX11_register_2 0 5 rfl)
theorem dX11_register_33 : decode cX11_register 33 = .ok (.iconst (-1), 1) := @dq_o2 cX11_register 33 (qX11_register_2 1 2 rfl)
theorem dX11_register_34 : decode cX11_register 34 = .ok (.ireturn, 1) := @dq_o172 cX11_register 34 (qX11_register_2 2 172 rfl)
theorem dX11_register_35 : decode cX11_register 35 = .ok (.aload_n 0, 1) := @dq_o42 cX11_register 35 (qX11_register_2 3 42 rfl)
theorem dX11_register_36 : decode cX11_register 36 = .ok (.iconst 0, 1) := @dq_o3 cX11_register 36 (qX11_register_2 4 3 rfl)
theorem dX11_register_37 : decode cX11_register 37 = .ok (.iload_n 1, 1) := @dq_o27 cX11_register 37 (qX11_register_2 5 27 rfl)
theorem dX11_register_38 : decode cX11_register 38 = .ok (.invokevirtual 241, 3) := @dq_o182 cX11_register 38 0 241 (qX11_register_2 6 182 rfl) (qX11_register_2 7 0 rfl) (qX11_register_2 8 241 rfl)
theorem dX11_register_41 : decode cX11_register 41 = .ok (.iload_n 2, 1) := @dq_o28 cX11_register 41 (qX11_register_2 9 28 rfl)
theorem dX11_register_42 : decode cX11_register 42 = .ok (.ifCond .ne 9, 3) := @dq_o154 cX11_register 42 0 9 (qX11_register_2 10 154 rfl) (qX11_register_2 11 0 rfl) (qX11_register_2 12 9 rfl)
theorem dX11_register_45 : decode cX11_register 45 = .ok (.aload_n 0, 1) := @dq_o42 cX11_register 45 (qX11_register_2 13 42 rfl)
theorem dX11_register_46 : decode cX11_register 46 = .ok (.iconst 0, 1) := @dq_o3 cX11_register 46 (qX11_register_2 14 3 rfl)
theorem dX11_register_47 : decode cX11_register 47 = .ok (.invokevirtual 397, 3) := @dq_o182 cX11_register 47 1 141 (qX11_register_2 15 182 rfl) (qX11_register_3 0 1 rfl) (qX11_register_3 1 141 rfl)
theorem dX11_register_50 : decode cX11_register 50 = .ok (.ireturn, 1) := @dq_o172 cX11_register 50 (qX11_register_3 2 172 rfl)
theorem dX11_register_51 : decode cX11_register 51 = .ok (.iload_n 2, 1) := @dq_o28 cX11_register 51 (qX11_register_3 3 28 rfl)
theorem dX11_register_52 : decode cX11_register 52 = .ok (.iconst 1, 1) := @dq_o4 cX11_register 52 (qX11_register_3 4 4 rfl)
theorem dX11_register_53 : decode cX11_register 53 = .ok (.if_icmp .ne 18, 3) := @dq_o160 cX11_register 53 0 18 (qX11_register_3 5 160 rfl) (qX11_register_3 6 0 rfl) (qX11_register_3 7 18 rfl)
theorem dX11_register_56 : decode cX11_register 56 = .ok (.aload_n 0, 1) := @dq_o42 cX11_register 56 (qX11_register_3 8 42 rfl)
theorem dX11_register_57 : decode cX11_register 57 = .ok (.iconst 0, 1) := @dq_o3 cX11_register 57 (qX11_register_3 9 3 rfl)
theorem dX11_register_58 : decode cX11_register 58 = .ok (.iconst 1, 1) := @dq_o4 cX11_register 58 (qX11_register_3 10 4 rfl)
theorem dX11_register_59 : decode cX11_register 59 = .ok (.invokevirtual 343, 3) := @dq_o182 cX11_register 59 1 87 (qX11_register_3 11 182 rfl) (qX11_register_3 12 1 rfl) (qX11_register_3 13 87 rfl)
theorem dX11_register_62 : decode cX11_register 62 = .ok (.ifCond .eq 7, 3) := @dq_o153 cX11_register 62 0 7 (qX11_register_3 14 153 rfl) (qX11_register_3 15 0 rfl) (qX11_register_4 0 7 rfl)
theorem dX11_register_65 : decode cX11_register 65 = .ok (.iconst 1, 1) := @dq_o4 cX11_register 65 (qX11_register_4 1 4 rfl)
theorem dX11_register_66 : decode cX11_register 66 = .ok (.goto 4, 3) := @dq_o167 cX11_register 66 0 4 (qX11_register_4 2 167 rfl) (qX11_register_4 3 0 rfl) (qX11_register_4 4 4 rfl)
theorem dX11_register_69 : decode cX11_register 69 = .ok (.iconst 0, 1) := @dq_o3 cX11_register 69 (qX11_register_4 5 3 rfl)
theorem dX11_register_70 : decode cX11_register 70 = .ok (.ireturn, 1) := @dq_o172 cX11_register 70 (qX11_register_4 6 172 rfl)
theorem dX11_register_71 : decode cX11_register 71 = .ok (.iload_n 2, 1) := @dq_o28 cX11_register 71 (qX11_register_4 7 28 rfl)
theorem dX11_register_72 : decode cX11_register 72 = .ok (.iconst 2, 1) := @dq_o5 cX11_register 72 (qX11_register_4 8 5 rfl)
theorem dX11_register_73 : decode cX11_register 73 = .ok (.if_icmp .ne 17, 3) := @dq_o160 cX11_register 73 0 17 (qX11_register_4 9 160 rfl) (qX11_register_4 10 0 rfl) (qX11_register_4 11 17 rfl)
theorem dX11_register_76 : decode cX11_register 76 = .ok (.aload_n 0, 1) := @dq_o42 cX11_register 76 (qX11_register_4 12 42 rfl)
theorem dX11_register_77 : decode cX11_register 77 = .ok (.iconst 0, 1) := @dq_o3 cX11_register 77 (qX11_register_4 13 3 rfl)
theorem dX11_register_78 : decode cX11_register 78 = .ok (.invokevirtual 337, 3) := @dq_o182 cX11_register 78 1 81 (qX11_register_4 14 182 rfl) (qX11_register_4 15 1 rfl) (qX11_register_5 0 81 rfl)
theorem dX11_register_81 : decode cX11_register 81 = .ok (.ifCond .eq 7, 3) := @dq_o153 cX11_register 81 0 7 (qX11_register_5 1 153 rfl) (qX11_register_5 2 0 rfl) (qX11_register_5 3 7 rfl)
theorem dX11_register_84 : decode cX11_register 84 = .ok (.iconst 1, 1) := @dq_o4 cX11_register 84 (qX11_register_5 4 4 rfl)
theorem dX11_register_85 : decode cX11_register 85 = .ok (.goto 4, 3) := @dq_o167 cX11_register 85 0 4 (qX11_register_5 5 167 rfl) (qX11_register_5 6 0 rfl) (qX11_register_5 7 4 rfl)
theorem dX11_register_88 : decode cX11_register 88 = .ok (.iconst 0, 1) := @dq_o3 cX11_register 88 (qX11_register_5 8 3 rfl)
theorem dX11_register_89 : decode cX11_register 89 = .ok (.ireturn, 1) := @dq_o172 cX11_register 89 (qX11_register_5 9 172 rfl)
theorem dX11_register_90 : decode cX11_register 90 = .ok (.iload_n 2, 1) := @dq_o28 cX11_register 90 (qX11_register_5 10 28 rfl)
theorem dX11_register_91 : decode cX11_register 91 = .ok (.iconst 3, 1) := @dq_o6 cX11_register 91 (qX11_register_5 11 6 rfl)
theorem dX11_register_92 : decode cX11_register 92 = .ok (.if_icmp .ne 9, 3) := @dq_o160 cX11_register 92 0 9 (qX11_register_5 12 160 rfl) (qX11_register_5 13 0 rfl) (qX11_register_5 14 9 rfl)
theorem dX11_register_95 : decode cX11_register 95 = .ok (.aload_n 0, 1) := @dq_o42 cX11_register 95 (qX11_register_5 15 42 rfl)
theorem dX11_register_96 : decode cX11_register 96 = .ok (.iconst 0, 1) := @dq_o3 cX11_register 96 (qX11_register_6 0 3 rfl)
theorem dX11_register_97 : decode cX11_register 97 = .ok (.invokevirtual 400, 3) := @dq_o182 cX11_register 97 1 144 (qX11_register_6 1 182 rfl) (qX11_register_6 2 1 rfl) (qX11_register_6 3 144 rfl)
theorem dX11_register_100 : decode cX11_register 100 = .ok (.ireturn, 1) := @dq_o172 cX11_register 100 (qX11_register_6 4 172 rfl)
theorem dX11_register_101 : decode cX11_register 101 = .ok (.iload_n 2, 1) := @dq_o28 cX11_register 101 (qX11_register_6 5 28 rfl)
theorem dX11_register_102 : decode cX11_register 102 = .ok (.bipush 6, 2) := @dq_o16 cX11_register 102 6 (qX11_register_6 6 16 rfl) (qX11_register_6 7 6 rfl)
theorem dX11_register_104 : decode cX11_register 104 = .ok (.if_icmp .ne 18, 3) := @dq_o160 cX11_register 104 0 18 (qX11_register_6 8 160 rfl) (qX11_register_6 9 0 rfl) (qX11_register_6 10 18 rfl)
theorem dX11_register_107 : decode cX11_register 107 = .ok (.aload_n 0, 1) := @dq_o42 cX11_register 107 (qX11_register_6 11 42 rfl)
theorem dX11_register_108 : decode cX11_register 108 = .ok (.iconst 0, 1) := @dq_o3 cX11_register 108 (qX11_register_6 12 3 rfl)
theorem dX11_register_109 : decode cX11_register 109 = .ok (.iconst 1, 1) := @dq_o4 cX11_register 109 (qX11_register_6 13 4 rfl)
theorem dX11_register_110 : decode cX11_register 110 = .ok (.invokevirtual 392, 3) := @dq_o182 cX11_register 110 1 136 (qX11_register_6 14 182 rfl) (qX11_register_6 15 1 rfl) (qX11_register_7 0 136 rfl)
theorem dX11_register_113 : decode cX11_register 113 = .ok (.ifCond .eq 7, 3) := @dq_o153 cX11_register 113 0 7 (qX11_register_7 1 153 rfl) (qX11_register_7 2 0 rfl) (qX11_register_7 3 7 rfl)
theorem dX11_register_116 : decode cX11_register 116 = .ok (.iconst 1, 1) := @dq_o4 cX11_register 116 (qX11_register_7 4 4 rfl)
theorem dX11_register_117 : decode cX11_register 117 = .ok (.goto 4, 3) := @dq_o167 cX11_register 117 0 4 (qX11_register_7 5 167 rfl) (qX11_register_7 6 0 rfl) (qX11_register_7 7 4 rfl)
theorem dX11_register_120 : decode cX11_register 120 = .ok (.iconst 0, 1) := @dq_o3 cX11_register 120 (qX11_register_7 8 3 rfl)
theorem dX11_register_121 : decode cX11_register 121 = .ok (.ireturn, 1) := @dq_o172 cX11_register 121 (qX11_register_7 9 172 rfl)
theorem dX11_register_122 : decode cX11_register 122 = .ok (.iload_n 2, 1) := @dq_o28 cX11_register 122 (qX11_register_7 10 28 rfl)
theorem dX11_register_123 : decode cX11_register 123 = .ok (.bipush 7, 2) := @dq_o16 cX11_register 123 7 (qX11_register_7 11 16 rfl) (qX11_register_7 12 7 rfl)
theorem dX11_register_125 : decode cX11_register 125 = .ok (.if_icmp .ne 9, 3) := @dq_o160 cX11_register 125 0 9 (qX11_register_7 13 160 rfl) (qX11_register_7 14 0 rfl) (qX11_register_7 15 9 rfl)
theorem dX11_register_128 : decode cX11_register 128 = .ok (.aload_n 0, 1) := @dq_o42 cX11_register 128 (qX11_register_8 0 42 rfl)
theorem dX11_register_129 : decode cX11_register 129 = .ok (.iconst 0, 1) := @dq_o3 cX11_register 129 (qX11_register_8 1 3 rfl)
theorem dX11_register_130 : decode cX11_register 130 = .ok (.invokevirtual 403, 3) := @dq_o182 cX11_register 130 1 147 (qX11_register_8 2 182 rfl) (qX11_register_8 3 1 rfl) (qX11_register_8 4 147 rfl)
theorem dX11_register_133 : decode cX11_register 133 = .ok (.ireturn, 1) := @dq_o172 cX11_register 133 (qX11_register_8 5 172 rfl)
theorem dX11_register_134 : decode cX11_register 134 = .ok (.iload_n 2, 1) := @dq_o28 cX11_register 134 (qX11_register_8 6 28 rfl)
theorem dX11_register_135 : decode cX11_register 135 = .ok (.iconst 4, 1) := @dq_o7 cX11_register 135 (qX11_register_8 7 7 rfl)
theorem dX11_register_136 : decode cX11_register 136 = .ok (.if_icmp .ne 11, 3) := @dq_o160 cX11_register 136 0 11 (qX11_register_8 8 160 rfl) (qX11_register_8 9 0 rfl) (qX11_register_8 10 11 rfl)
theorem dX11_register_139 : decode cX11_register 139 = .ok (.aload_n 0, 1) := @dq_o42 cX11_register 139 (qX11_register_8 11 42 rfl)
theorem dX11_register_140 : decode cX11_register 140 = .ok (.iconst 0, 1) := @dq_o3 cX11_register 140 (qX11_register_8 12 3 rfl)
theorem dX11_register_141 : decode cX11_register 141 = .ok (.invokevirtual 406, 3) := @dq_o182 cX11_register 141 1 150 (qX11_register_8 13 182 rfl) (qX11_register_8 14 1 rfl) (qX11_register_8 15 150 rfl)
theorem dX11_register_144 : decode cX11_register 144 = .ok (.goto 8, 3) := @dq_o167 cX11_register 144 0 8 (qX11_register_9 0 167 rfl) (qX11_register_9 1 0 rfl) (qX11_register_9 2 8 rfl)
theorem dX11_register_147 : decode cX11_register 147 = .ok (.aload_n 0, 1) := @dq_o42 cX11_register 147 (qX11_register_9 3 42 rfl)
theorem dX11_register_148 : decode cX11_register 148 = .ok (.iload_n 1, 1) := @dq_o27 cX11_register 148 (qX11_register_9 4 27 rfl)
theorem dX11_register_149 : decode cX11_register 149 = .ok (.invokevirtual 409, 3) := @dq_o182 cX11_register 149 1 153 (qX11_register_9 5 182 rfl) (qX11_register_9 6 1 rfl) (qX11_register_9 7 153 rfl)
theorem dX11_register_152 : decode cX11_register 152 = .ok (.ireturn, 1) := @dq_o172 cX11_register 152 (qX11_register_9 8 172 rfl)
abbrev qaX11_firstApart_0 : List Nat := [3, 60, 27, 42, 182, 0, 88, 162, 0, 29, 42, 3, 27, 182, 0, 166]
abbrev qaX11_firstApart_1 : List Nat := [42, 4, 27, 182, 0, 166, 148, 153, 0, 7, 27, 4, 96, 172, 132, 1]
abbrev qaX11_firstApart_2 : List Nat := [1, 167, 255, 225, 3, 172]
def qtX11_firstApart_3 : List Nat := []
def qtX11_firstApart_2 : List Nat := qaX11_firstApart_2 ++ qtX11_firstApart_3
def qtX11_firstApart_1 : List Nat := qaX11_firstApart_1 ++ qtX11_firstApart_2
def qtX11_firstApart_0 : List Nat := qaX11_firstApart_0 ++ qtX11_firstApart_1
theorem qeX11_firstApart : cX11_firstApart.data.toList.map UInt8.toNat = qtX11_firstApart_0 := by decide +kernel
theorem qsX11_firstApart_0 : ∀ i, dqNth qtX11_firstApart_0 (0 + i) = dqNth qtX11_firstApart_0 i := fun i => by rw [Nat.zero_add]
theorem qsX11_firstApart_1 : ∀ i, dqNth qtX11_firstApart_0 (16 + i) = dqNth qtX11_firstApart_1 i := dq_step qsX11_firstApart_0 rfl rfl
theorem qsX11_firstApart_2 : ∀ i, dqNth qtX11_firstApart_0 (32 + i) = dqNth qtX11_firstApart_2 i := dq_step qsX11_firstApart_1 rfl rfl
theorem qX11_firstApart_0 (i b : Nat) (h : dqNth qaX11_firstApart_0 i = some b) : DqBy cX11_firstApart (0 + i) b := dqBy_of qeX11_firstApart ((qsX11_firstApart_0 i).trans (dq_in h))
theorem qX11_firstApart_1 (i b : Nat) (h : dqNth qaX11_firstApart_1 i = some b) : DqBy cX11_firstApart (16 + i) b := dqBy_of qeX11_firstApart ((qsX11_firstApart_1 i).trans (dq_in h))
theorem qX11_firstApart_2 (i b : Nat) (h : dqNth qaX11_firstApart_2 i = some b) : DqBy cX11_firstApart (32 + i) b := dqBy_of qeX11_firstApart ((qsX11_firstApart_2 i).trans (dq_in h))
theorem dX11_firstApart_0 : decode cX11_firstApart 0 = .ok (.iconst 0, 1) := @dq_o3 cX11_firstApart 0 (qX11_firstApart_0 0 3 rfl)
theorem dX11_firstApart_1 : decode cX11_firstApart 1 = .ok (.istore_n 1, 1) := @dq_o60 cX11_firstApart 1 (qX11_firstApart_0 1 60 rfl)
theorem dX11_firstApart_2 : decode cX11_firstApart 2 = .ok (.iload_n 1, 1) := @dq_o27 cX11_firstApart 2 (qX11_firstApart_0 2 27 rfl)
theorem dX11_firstApart_3 : decode cX11_firstApart 3 = .ok (.aload_n 0, 1) := @dq_o42 cX11_firstApart 3 (qX11_firstApart_0 3 42 rfl)
theorem dX11_firstApart_4 : decode cX11_firstApart 4 = .ok (.invokevirtual 88, 3) := @dq_o182 cX11_firstApart 4 0 88 (qX11_firstApart_0 4 182 rfl) (qX11_firstApart_0 5 0 rfl) (qX11_firstApart_0 6 88 rfl)
theorem dX11_firstApart_7 : decode cX11_firstApart 7 = .ok (.if_icmp .ge 29, 3) := @dq_o162 cX11_firstApart 7 0 29 (qX11_firstApart_0 7 162 rfl) (qX11_firstApart_0 8 0 rfl) (qX11_firstApart_0 9 29 rfl)
theorem dX11_firstApart_10 : decode cX11_firstApart 10 = .ok (.aload_n 0, 1) := @dq_o42 cX11_firstApart 10 (qX11_firstApart_0 10 42 rfl)
theorem dX11_firstApart_11 : decode cX11_firstApart 11 = .ok (.iconst 0, 1) := @dq_o3 cX11_firstApart 11 (qX11_firstApart_0 11 3 rfl)
theorem dX11_firstApart_12 : decode cX11_firstApart 12 = .ok (.iload_n 1, 1) := @dq_o27 cX11_firstApart 12 (qX11_firstApart_0 12 27 rfl)
theorem dX11_firstApart_13 : decode cX11_firstApart 13 = .ok (.invokevirtual 166, 3) := @dq_o182 cX11_firstApart 13 0 166 (qX11_firstApart_0 13 182 rfl) (qX11_firstApart_0 14 0 rfl) (qX11_firstApart_0 15 166 rfl)
theorem dX11_firstApart_16 : decode cX11_firstApart 16 = .ok (.aload_n 0, 1) := @dq_o42 cX11_firstApart 16 (qX11_firstApart_1 0 42 rfl)
theorem dX11_firstApart_17 : decode cX11_firstApart 17 = .ok (.iconst 1, 1) := @dq_o4 cX11_firstApart 17 (qX11_firstApart_1 1 4 rfl)
theorem dX11_firstApart_18 : decode cX11_firstApart 18 = .ok (.iload_n 1, 1) := @dq_o27 cX11_firstApart 18 (qX11_firstApart_1 2 27 rfl)
theorem dX11_firstApart_19 : decode cX11_firstApart 19 = .ok (.invokevirtual 166, 3) := @dq_o182 cX11_firstApart 19 0 166 (qX11_firstApart_1 3 182 rfl) (qX11_firstApart_1 4 0 rfl) (qX11_firstApart_1 5 166 rfl)
theorem dX11_firstApart_22 : decode cX11_firstApart 22 = .ok (.lcmp, 1) := @dq_o148 cX11_firstApart 22 (qX11_firstApart_1 6 148 rfl)
theorem dX11_firstApart_23 : decode cX11_firstApart 23 = .ok (.ifCond .eq 7, 3) := @dq_o153 cX11_firstApart 23 0 7 (qX11_firstApart_1 7 153 rfl) (qX11_firstApart_1 8 0 rfl) (qX11_firstApart_1 9 7 rfl)
theorem dX11_firstApart_26 : decode cX11_firstApart 26 = .ok (.iload_n 1, 1) := @dq_o27 cX11_firstApart 26 (qX11_firstApart_1 10 27 rfl)
theorem dX11_firstApart_27 : decode cX11_firstApart 27 = .ok (.iconst 1, 1) := @dq_o4 cX11_firstApart 27 (qX11_firstApart_1 11 4 rfl)
theorem dX11_firstApart_28 : decode cX11_firstApart 28 = .ok (.iadd, 1) := @dq_o96 cX11_firstApart 28 (qX11_firstApart_1 12 96 rfl)
theorem dX11_firstApart_29 : decode cX11_firstApart 29 = .ok (.ireturn, 1) := @dq_o172 cX11_firstApart 29 (qX11_firstApart_1 13 172 rfl)
theorem dX11_firstApart_30 : decode cX11_firstApart 30 = .ok (.iinc 1 1, 3) := @dq_o132 cX11_firstApart 30 1 1 (qX11_firstApart_1 14 132 rfl) (qX11_firstApart_1 15 1 rfl) (qX11_firstApart_2 0 1 rfl)
theorem dX11_firstApart_33 : decode cX11_firstApart 33 = .ok (.goto (-31), 3) := @dq_o167 cX11_firstApart 33 255 225 (qX11_firstApart_2 1 167 rfl) (qX11_firstApart_2 2 255 rfl) (qX11_firstApart_2 3 225 rfl)
theorem dX11_firstApart_36 : decode cX11_firstApart 36 = .ok (.iconst 0, 1) := @dq_o3 cX11_firstApart 36 (qX11_firstApart_2 4 3 rfl)
theorem dX11_firstApart_37 : decode cX11_firstApart 37 = .ok (.ireturn, 1) := @dq_o172 cX11_firstApart 37 (qX11_firstApart_2 5 172 rfl)
abbrev qaX11_both_0 : List Nat := [42, 3, 181, 0, 1, 42, 27, 182, 0, 232, 153, 0, 31, 42, 28, 182]
abbrev qaX11_both_1 : List Nat := [0, 232, 153, 0, 23, 42, 182, 0, 235, 153, 0, 16, 42, 29, 133, 9]
abbrev qaX11_both_2 : List Nat := [20, 0, 174, 182, 0, 101, 154, 0, 5, 2, 172, 42, 3, 27, 182, 0]
abbrev qaX11_both_3 : List Nat := [241, 42, 4, 28, 182, 0, 241, 29, 5, 160, 0, 8, 42, 182, 1, 156]
abbrev qaX11_both_4 : List Nat := [172, 42, 3, 4, 5, 182, 0, 254, 29, 4, 160, 0, 11, 42, 5, 182]
abbrev qaX11_both_5 : List Nat := [1, 141, 167, 0, 16, 42, 5, 182, 1, 81, 153, 0, 7, 4, 167, 0]
abbrev qaX11_both_6 : List Nat := [4, 3, 172]
def qtX11_both_7 : List Nat := []
def qtX11_both_6 : List Nat := qaX11_both_6 ++ qtX11_both_7
def qtX11_both_5 : List Nat := qaX11_both_5 ++ qtX11_both_6
def qtX11_both_4 : List Nat := qaX11_both_4 ++ qtX11_both_5
def qtX11_both_3 : List Nat := qaX11_both_3 ++ qtX11_both_4
def qtX11_both_2 : List Nat := qaX11_both_2 ++ qtX11_both_3
def qtX11_both_1 : List Nat := qaX11_both_1 ++ qtX11_both_2
def qtX11_both_0 : List Nat := qaX11_both_0 ++ qtX11_both_1
theorem qeX11_both : cX11_both.data.toList.map UInt8.toNat = qtX11_both_0 := by decide +kernel
theorem qsX11_both_0 : ∀ i, dqNth qtX11_both_0 (0 + i) = dqNth qtX11_both_0 i := fun i => by rw [Nat.zero_add]
theorem qsX11_both_1 : ∀ i, dqNth qtX11_both_0 (16 + i) = dqNth qtX11_both_1 i := dq_step qsX11_both_0 rfl rfl
theorem qsX11_both_2 : ∀ i, dqNth qtX11_both_0 (32 + i) = dqNth qtX11_both_2 i := dq_step qsX11_both_1 rfl rfl
theorem qsX11_both_3 : ∀ i, dqNth qtX11_both_0 (48 + i) = dqNth qtX11_both_3 i := dq_step qsX11_both_2 rfl rfl
theorem qsX11_both_4 : ∀ i, dqNth qtX11_both_0 (64 + i) = dqNth qtX11_both_4 i := dq_step qsX11_both_3 rfl rfl
theorem qsX11_both_5 : ∀ i, dqNth qtX11_both_0 (80 + i) = dqNth qtX11_both_5 i := dq_step qsX11_both_4 rfl rfl
theorem qsX11_both_6 : ∀ i, dqNth qtX11_both_0 (96 + i) = dqNth qtX11_both_6 i := dq_step qsX11_both_5 rfl rfl
theorem qX11_both_0 (i b : Nat) (h : dqNth qaX11_both_0 i = some b) : DqBy cX11_both (0 + i) b := dqBy_of qeX11_both ((qsX11_both_0 i).trans (dq_in h))
theorem qX11_both_1 (i b : Nat) (h : dqNth qaX11_both_1 i = some b) : DqBy cX11_both (16 + i) b := dqBy_of qeX11_both ((qsX11_both_1 i).trans (dq_in h))
theorem qX11_both_2 (i b : Nat) (h : dqNth qaX11_both_2 i = some b) : DqBy cX11_both (32 + i) b := dqBy_of qeX11_both ((qsX11_both_2 i).trans (dq_in h))
theorem qX11_both_3 (i b : Nat) (h : dqNth qaX11_both_3 i = some b) : DqBy cX11_both (48 + i) b := dqBy_of qeX11_both ((qsX11_both_3 i).trans (dq_in h))
theorem qX11_both_4 (i b : Nat) (h : dqNth qaX11_both_4 i = some b) : DqBy cX11_both (64 + i) b := dqBy_of qeX11_both ((qsX11_both_4 i).trans (dq_in h))
theorem qX11_both_5 (i b : Nat) (h : dqNth qaX11_both_5 i = some b) : DqBy cX11_both (80 + i) b := dqBy_of qeX11_both ((qsX11_both_5 i).trans (dq_in h))
theorem qX11_both_6 (i b : Nat) (h : dqNth qaX11_both_6 i = some b) : DqBy cX11_both (96 + i) b := dqBy_of qeX11_both ((qsX11_both_6 i).trans (dq_in h))
theorem dX11_both_0 : decode cX11_both 0 = .ok (.aload_n 0, 1) := @dq_o42 cX11_both 0 (qX11_both_0 0 42 rfl)
theorem dX11_both_1 : decode cX11_both 1 = .ok (.iconst 0, 1) := @dq_o3 cX11_both 1 (qX11_both_0 1 3 rfl)
theorem dX11_both_2 : decode cX11_both 2 = .ok (.putfield 1, 3) := @dq_o181 cX11_both 2 0 1 (qX11_both_0 2 181 rfl) (qX11_both_0 3 0 rfl) (qX11_both_0 4 1 rfl)
theorem dX11_both_5 : decode cX11_both 5 = .ok (.aload_n 0, 1) := @dq_o42 cX11_both 5 (qX11_both_0 5 42 rfl)
theorem dX11_both_6 : decode cX11_both 6 = .ok (.iload_n 1, 1) := @dq_o27 cX11_both 6 (qX11_both_0 6 27 rfl)
theorem dX11_both_7 : decode cX11_both 7 = .ok (.invokevirtual 232, 3) := @dq_o182 cX11_both 7 0 232 (qX11_both_0 7 182 rfl) (qX11_both_0 8 0 rfl) (qX11_both_0 9 232 rfl)
theorem dX11_both_10 : decode cX11_both 10 = .ok (.ifCond .eq 31, 3) := @dq_o153 cX11_both 10 0 31 (qX11_both_0 10 153 rfl) (qX11_both_0 11 0 rfl) (qX11_both_0 12 31 rfl)
theorem dX11_both_13 : decode cX11_both 13 = .ok (.aload_n 0, 1) := @dq_o42 cX11_both 13 (qX11_both_0 13 42 rfl)
theorem dX11_both_14 : decode cX11_both 14 = .ok (.iload_n 2, 1) := @dq_o28 cX11_both 14 (qX11_both_0 14 28 rfl)
theorem dX11_both_15 : decode cX11_both 15 = .ok (.invokevirtual 232, 3) := @dq_o182 cX11_both 15 0 232 (qX11_both_0 15 182 rfl) (qX11_both_1 0 0 rfl) (qX11_both_1 1 232 rfl)
theorem dX11_both_18 : decode cX11_both 18 = .ok (.ifCond .eq 23, 3) := @dq_o153 cX11_both 18 0 23 (qX11_both_1 2 153 rfl) (qX11_both_1 3 0 rfl) (qX11_both_1 4 23 rfl)
theorem dX11_both_21 : decode cX11_both 21 = .ok (.aload_n 0, 1) := @dq_o42 cX11_both 21 (qX11_both_1 5 42 rfl)
theorem dX11_both_22 : decode cX11_both 22 = .ok (.invokevirtual 235, 3) := @dq_o182 cX11_both 22 0 235 (qX11_both_1 6 182 rfl) (qX11_both_1 7 0 rfl) (qX11_both_1 8 235 rfl)
theorem dX11_both_25 : decode cX11_both 25 = .ok (.ifCond .eq 16, 3) := @dq_o153 cX11_both 25 0 16 (qX11_both_1 9 153 rfl) (qX11_both_1 10 0 rfl) (qX11_both_1 11 16 rfl)
theorem dX11_both_28 : decode cX11_both 28 = .ok (.aload_n 0, 1) := @dq_o42 cX11_both 28 (qX11_both_1 12 42 rfl)
theorem dX11_both_29 : decode cX11_both 29 = .ok (.iload_n 3, 1) := @dq_o29 cX11_both 29 (qX11_both_1 13 29 rfl)
theorem dX11_both_30 : decode cX11_both 30 = .ok (.i2l, 1) := @dq_o133 cX11_both 30 (qX11_both_1 14 133 rfl)
theorem dX11_both_31 : decode cX11_both 31 = .ok (.lconst 0, 1) := @dq_o9 cX11_both 31 (qX11_both_1 15 9 rfl)
theorem dX11_both_32 : decode cX11_both 32 = .ok (.ldc2_w 174, 3) := @dq_o20 cX11_both 32 0 174 (qX11_both_2 0 20 rfl) (qX11_both_2 1 0 rfl) (qX11_both_2 2 174 rfl)
theorem dX11_both_35 : decode cX11_both 35 = .ok (.invokevirtual 101, 3) := @dq_o182 cX11_both 35 0 101 (qX11_both_2 3 182 rfl) (qX11_both_2 4 0 rfl) (qX11_both_2 5 101 rfl)
theorem dX11_both_38 : decode cX11_both 38 = .ok (.ifCond .ne 5, 3) := @dq_o154 cX11_both 38 0 5 (qX11_both_2 6 154 rfl) (qX11_both_2 7 0 rfl) (qX11_both_2 8 5 rfl)
theorem dX11_both_41 : decode cX11_both 41 = .ok (.iconst (-1), 1) := @dq_o2 cX11_both 41 (qX11_both_2 9 2 rfl)
theorem dX11_both_42 : decode cX11_both 42 = .ok (.ireturn, 1) := @dq_o172 cX11_both 42 (qX11_both_2 10 172 rfl)
theorem dX11_both_43 : decode cX11_both 43 = .ok (.aload_n 0, 1) := @dq_o42 cX11_both 43 (qX11_both_2 11 42 rfl)
theorem dX11_both_44 : decode cX11_both 44 = .ok (.iconst 0, 1) := @dq_o3 cX11_both 44 (qX11_both_2 12 3 rfl)
theorem dX11_both_45 : decode cX11_both 45 = .ok (.iload_n 1, 1) := @dq_o27 cX11_both 45 (qX11_both_2 13 27 rfl)
theorem dX11_both_46 : decode cX11_both 46 = .ok (.invokevirtual 241, 3) := @dq_o182 cX11_both 46 0 241 (qX11_both_2 14 182 rfl) (qX11_both_2 15 0 rfl) (qX11_both_3 0 241 rfl)
theorem dX11_both_49 : decode cX11_both 49 = .ok (.aload_n 0, 1) := @dq_o42 cX11_both 49 (qX11_both_3 1 42 rfl)
theorem dX11_both_50 : decode cX11_both 50 = .ok (.iconst 1, 1) := @dq_o4 cX11_both 50 (qX11_both_3 2 4 rfl)
theorem dX11_both_51 : decode cX11_both 51 = .ok (.iload_n 2, 1) := @dq_o28 cX11_both 51 (qX11_both_3 3 28 rfl)
theorem dX11_both_52 : decode cX11_both 52 = .ok (.invokevirtual 241, 3) := @dq_o182 cX11_both 52 0 241 (qX11_both_3 4 182 rfl) (qX11_both_3 5 0 rfl) (qX11_both_3 6 241 rfl)
theorem dX11_both_55 : decode cX11_both 55 = .ok (.iload_n 3, 1) := @dq_o29 cX11_both 55 (qX11_both_3 7 29 rfl)
theorem dX11_both_56 : decode cX11_both 56 = .ok (.iconst 2, 1) := @dq_o5 cX11_both 56 (qX11_both_3 8 5 rfl)
theorem dX11_both_57 : decode cX11_both 57 = .ok (.if_icmp .ne 8, 3) := @dq_o160 cX11_both 57 0 8 (qX11_both_3 9 160 rfl) (qX11_both_3 10 0 rfl) (qX11_both_3 11 8 rfl)
theorem dX11_both_60 : decode cX11_both 60 = .ok (.aload_n 0, 1) := @dq_o42 cX11_both 60 (qX11_both_3 12 42 rfl)
theorem dX11_both_61 : decode cX11_both 61 = .ok (.invokevirtual 412, 3) := @dq_o182 cX11_both 61 1 156 (qX11_both_3 13 182 rfl) (qX11_both_3 14 1 rfl) (qX11_both_3 15 156 rfl)
theorem dX11_both_64 : decode cX11_both 64 = .ok (.ireturn, 1) := @dq_o172 cX11_both 64 (qX11_both_4 0 172 rfl)
theorem dX11_both_65 : decode cX11_both 65 = .ok (.aload_n 0, 1) := @dq_o42 cX11_both 65 (qX11_both_4 1 42 rfl)
theorem dX11_both_66 : decode cX11_both 66 = .ok (.iconst 0, 1) := @dq_o3 cX11_both 66 (qX11_both_4 2 3 rfl)
theorem dX11_both_67 : decode cX11_both 67 = .ok (.iconst 1, 1) := @dq_o4 cX11_both 67 (qX11_both_4 3 4 rfl)
theorem dX11_both_68 : decode cX11_both 68 = .ok (.iconst 2, 1) := @dq_o5 cX11_both 68 (qX11_both_4 4 5 rfl)
theorem dX11_both_69 : decode cX11_both 69 = .ok (.invokevirtual 254, 3) := @dq_o182 cX11_both 69 0 254 (qX11_both_4 5 182 rfl) (qX11_both_4 6 0 rfl) (qX11_both_4 7 254 rfl)
theorem dX11_both_72 : decode cX11_both 72 = .ok (.iload_n 3, 1) := @dq_o29 cX11_both 72 (qX11_both_4 8 29 rfl)
theorem dX11_both_73 : decode cX11_both 73 = .ok (.iconst 1, 1) := @dq_o4 cX11_both 73 (qX11_both_4 9 4 rfl)
theorem dX11_both_74 : decode cX11_both 74 = .ok (.if_icmp .ne 11, 3) := @dq_o160 cX11_both 74 0 11 (qX11_both_4 10 160 rfl) (qX11_both_4 11 0 rfl) (qX11_both_4 12 11 rfl)
theorem dX11_both_77 : decode cX11_both 77 = .ok (.aload_n 0, 1) := @dq_o42 cX11_both 77 (qX11_both_4 13 42 rfl)
theorem dX11_both_78 : decode cX11_both 78 = .ok (.iconst 2, 1) := @dq_o5 cX11_both 78 (qX11_both_4 14 5 rfl)
theorem dX11_both_79 : decode cX11_both 79 = .ok (.invokevirtual 397, 3) := @dq_o182 cX11_both 79 1 141 (qX11_both_4 15 182 rfl) (qX11_both_5 0 1 rfl) (qX11_both_5 1 141 rfl)
theorem dX11_both_82 : decode cX11_both 82 = .ok (.goto 16, 3) := @dq_o167 cX11_both 82 0 16 (qX11_both_5 2 167 rfl) (qX11_both_5 3 0 rfl) (qX11_both_5 4 16 rfl)
theorem dX11_both_85 : decode cX11_both 85 = .ok (.aload_n 0, 1) := @dq_o42 cX11_both 85 (qX11_both_5 5 42 rfl)
theorem dX11_both_86 : decode cX11_both 86 = .ok (.iconst 2, 1) := @dq_o5 cX11_both 86 (qX11_both_5 6 5 rfl)
theorem dX11_both_87 : decode cX11_both 87 = .ok (.invokevirtual 337, 3) := @dq_o182 cX11_both 87 1 81 (qX11_both_5 7 182 rfl) (qX11_both_5 8 1 rfl) (qX11_both_5 9 81 rfl)
theorem dX11_both_90 : decode cX11_both 90 = .ok (.ifCond .eq 7, 3) := @dq_o153 cX11_both 90 0 7 (qX11_both_5 10 153 rfl) (qX11_both_5 11 0 rfl) (qX11_both_5 12 7 rfl)
theorem dX11_both_93 : decode cX11_both 93 = .ok (.iconst 1, 1) := @dq_o4 cX11_both 93 (qX11_both_5 13 4 rfl)
theorem dX11_both_94 : decode cX11_both 94 = .ok (.goto 4, 3) := @dq_o167 cX11_both 94 0 4 (qX11_both_5 14 167 rfl) (qX11_both_5 15 0 rfl) (qX11_both_6 0 4 rfl)
theorem dX11_both_97 : decode cX11_both 97 = .ok (.iconst 0, 1) := @dq_o3 cX11_both 97 (qX11_both_6 1 3 rfl)
theorem dX11_both_98 : decode cX11_both 98 = .ok (.ireturn, 1) := @dq_o172 cX11_both 98 (qX11_both_6 2 172 rfl)
abbrev qaX11_ofColumn_0 : List Nat := [42, 180, 0, 61, 16, 18, 27, 104, 28, 96, 47, 173]
def qtX11_ofColumn_1 : List Nat := []
def qtX11_ofColumn_0 : List Nat := qaX11_ofColumn_0 ++ qtX11_ofColumn_1
theorem qeX11_ofColumn : cX11_ofColumn.data.toList.map UInt8.toNat = qtX11_ofColumn_0 := by decide +kernel
theorem qsX11_ofColumn_0 : ∀ i, dqNth qtX11_ofColumn_0 (0 + i) = dqNth qtX11_ofColumn_0 i := fun i => by rw [Nat.zero_add]
theorem qX11_ofColumn_0 (i b : Nat) (h : dqNth qaX11_ofColumn_0 i = some b) : DqBy cX11_ofColumn (0 + i) b := dqBy_of qeX11_ofColumn ((qsX11_ofColumn_0 i).trans (dq_in h))
theorem dX11_ofColumn_0 : decode cX11_ofColumn 0 = .ok (.aload_n 0, 1) := @dq_o42 cX11_ofColumn 0 (qX11_ofColumn_0 0 42 rfl)
theorem dX11_ofColumn_1 : decode cX11_ofColumn 1 = .ok (.getfield 61, 3) := @dq_o180 cX11_ofColumn 1 0 61 (qX11_ofColumn_0 1 180 rfl) (qX11_ofColumn_0 2 0 rfl) (qX11_ofColumn_0 3 61 rfl)
theorem dX11_ofColumn_4 : decode cX11_ofColumn 4 = .ok (.bipush 18, 2) := @dq_o16 cX11_ofColumn 4 18 (qX11_ofColumn_0 4 16 rfl) (qX11_ofColumn_0 5 18 rfl)
theorem dX11_ofColumn_6 : decode cX11_ofColumn 6 = .ok (.iload_n 1, 1) := @dq_o27 cX11_ofColumn 6 (qX11_ofColumn_0 6 27 rfl)
theorem dX11_ofColumn_7 : decode cX11_ofColumn 7 = .ok (.imul, 1) := @dq_o104 cX11_ofColumn 7 (qX11_ofColumn_0 7 104 rfl)
theorem dX11_ofColumn_8 : decode cX11_ofColumn 8 = .ok (.iload_n 2, 1) := @dq_o28 cX11_ofColumn 8 (qX11_ofColumn_0 8 28 rfl)
theorem dX11_ofColumn_9 : decode cX11_ofColumn 9 = .ok (.iadd, 1) := @dq_o96 cX11_ofColumn 9 (qX11_ofColumn_0 9 96 rfl)
theorem dX11_ofColumn_10 : decode cX11_ofColumn 10 = .ok (.laload, 1) := @dq_o47 cX11_ofColumn 10 (qX11_ofColumn_0 10 47 rfl)
theorem dX11_ofColumn_11 : decode cX11_ofColumn 11 = .ok (.lreturn, 1) := @dq_o173 cX11_ofColumn 11 (qX11_ofColumn_0 11 173 rfl)
abbrev qaX11_lessens_0 : List Nat := [3, 54, 5, 21, 5, 16, 18, 162, 0, 48, 42, 180, 0, 61, 16, 18]
abbrev qaX11_lessens_1 : List Nat := [27, 104, 21, 5, 96, 42, 180, 0, 61, 16, 18, 27, 104, 21, 5, 96]
abbrev qaX11_lessens_2 : List Nat := [47, 33, 42, 180, 0, 61, 16, 18, 28, 104, 21, 5, 96, 47, 105, 101]
abbrev qaX11_lessens_3 : List Nat := [80, 132, 5, 1, 167, 255, 207, 177]
def qtX11_lessens_4 : List Nat := []
def qtX11_lessens_3 : List Nat := qaX11_lessens_3 ++ qtX11_lessens_4
def qtX11_lessens_2 : List Nat := qaX11_lessens_2 ++ qtX11_lessens_3
def qtX11_lessens_1 : List Nat := qaX11_lessens_1 ++ qtX11_lessens_2
def qtX11_lessens_0 : List Nat := qaX11_lessens_0 ++ qtX11_lessens_1
theorem qeX11_lessens : cX11_lessens.data.toList.map UInt8.toNat = qtX11_lessens_0 := by decide +kernel
theorem qsX11_lessens_0 : ∀ i, dqNth qtX11_lessens_0 (0 + i) = dqNth qtX11_lessens_0 i := fun i => by rw [Nat.zero_add]
theorem qsX11_lessens_1 : ∀ i, dqNth qtX11_lessens_0 (16 + i) = dqNth qtX11_lessens_1 i := dq_step qsX11_lessens_0 rfl rfl
theorem qsX11_lessens_2 : ∀ i, dqNth qtX11_lessens_0 (32 + i) = dqNth qtX11_lessens_2 i := dq_step qsX11_lessens_1 rfl rfl
theorem qsX11_lessens_3 : ∀ i, dqNth qtX11_lessens_0 (48 + i) = dqNth qtX11_lessens_3 i := dq_step qsX11_lessens_2 rfl rfl
theorem qX11_lessens_0 (i b : Nat) (h : dqNth qaX11_lessens_0 i = some b) : DqBy cX11_lessens (0 + i) b := dqBy_of qeX11_lessens ((qsX11_lessens_0 i).trans (dq_in h))
theorem qX11_lessens_1 (i b : Nat) (h : dqNth qaX11_lessens_1 i = some b) : DqBy cX11_lessens (16 + i) b := dqBy_of qeX11_lessens ((qsX11_lessens_1 i).trans (dq_in h))
theorem qX11_lessens_2 (i b : Nat) (h : dqNth qaX11_lessens_2 i = some b) : DqBy cX11_lessens (32 + i) b := dqBy_of qeX11_lessens ((qsX11_lessens_2 i).trans (dq_in h))
theorem qX11_lessens_3 (i b : Nat) (h : dqNth qaX11_lessens_3 i = some b) : DqBy cX11_lessens (48 + i) b := dqBy_of qeX11_lessens ((qsX11_lessens_3 i).trans (dq_in h))
theorem dX11_lessens_0 : decode cX11_lessens 0 = .ok (.iconst 0, 1) := @dq_o3 cX11_lessens 0 (qX11_lessens_0 0 3 rfl)
theorem dX11_lessens_1 : decode cX11_lessens 1 = .ok (.istore 5, 2) := @dq_o54 cX11_lessens 1 5 (qX11_lessens_0 1 54 rfl) (qX11_lessens_0 2 5 rfl)
theorem dX11_lessens_3 : decode cX11_lessens 3 = .ok (.iload 5, 2) := @dq_o21 cX11_lessens 3 5 (qX11_lessens_0 3 21 rfl) (qX11_lessens_0 4 5 rfl)
theorem dX11_lessens_5 : decode cX11_lessens 5 = .ok (.bipush 18, 2) := @dq_o16 cX11_lessens 5 18 (qX11_lessens_0 5 16 rfl) (qX11_lessens_0 6 18 rfl)
theorem dX11_lessens_7 : decode cX11_lessens 7 = .ok (.if_icmp .ge 48, 3) := @dq_o162 cX11_lessens 7 0 48 (qX11_lessens_0 7 162 rfl) (qX11_lessens_0 8 0 rfl) (qX11_lessens_0 9 48 rfl)
theorem dX11_lessens_10 : decode cX11_lessens 10 = .ok (.aload_n 0, 1) := @dq_o42 cX11_lessens 10 (qX11_lessens_0 10 42 rfl)
theorem dX11_lessens_11 : decode cX11_lessens 11 = .ok (.getfield 61, 3) := @dq_o180 cX11_lessens 11 0 61 (qX11_lessens_0 11 180 rfl) (qX11_lessens_0 12 0 rfl) (qX11_lessens_0 13 61 rfl)
theorem dX11_lessens_14 : decode cX11_lessens 14 = .ok (.bipush 18, 2) := @dq_o16 cX11_lessens 14 18 (qX11_lessens_0 14 16 rfl) (qX11_lessens_0 15 18 rfl)
theorem dX11_lessens_16 : decode cX11_lessens 16 = .ok (.iload_n 1, 1) := @dq_o27 cX11_lessens 16 (qX11_lessens_1 0 27 rfl)
theorem dX11_lessens_17 : decode cX11_lessens 17 = .ok (.imul, 1) := @dq_o104 cX11_lessens 17 (qX11_lessens_1 1 104 rfl)
theorem dX11_lessens_18 : decode cX11_lessens 18 = .ok (.iload 5, 2) := @dq_o21 cX11_lessens 18 5 (qX11_lessens_1 2 21 rfl) (qX11_lessens_1 3 5 rfl)
theorem dX11_lessens_20 : decode cX11_lessens 20 = .ok (.iadd, 1) := @dq_o96 cX11_lessens 20 (qX11_lessens_1 4 96 rfl)
theorem dX11_lessens_21 : decode cX11_lessens 21 = .ok (.aload_n 0, 1) := @dq_o42 cX11_lessens 21 (qX11_lessens_1 5 42 rfl)
theorem dX11_lessens_22 : decode cX11_lessens 22 = .ok (.getfield 61, 3) := @dq_o180 cX11_lessens 22 0 61 (qX11_lessens_1 6 180 rfl) (qX11_lessens_1 7 0 rfl) (qX11_lessens_1 8 61 rfl)
theorem dX11_lessens_25 : decode cX11_lessens 25 = .ok (.bipush 18, 2) := @dq_o16 cX11_lessens 25 18 (qX11_lessens_1 9 16 rfl) (qX11_lessens_1 10 18 rfl)
theorem dX11_lessens_27 : decode cX11_lessens 27 = .ok (.iload_n 1, 1) := @dq_o27 cX11_lessens 27 (qX11_lessens_1 11 27 rfl)
theorem dX11_lessens_28 : decode cX11_lessens 28 = .ok (.imul, 1) := @dq_o104 cX11_lessens 28 (qX11_lessens_1 12 104 rfl)
theorem dX11_lessens_29 : decode cX11_lessens 29 = .ok (.iload 5, 2) := @dq_o21 cX11_lessens 29 5 (qX11_lessens_1 13 21 rfl) (qX11_lessens_1 14 5 rfl)
theorem dX11_lessens_31 : decode cX11_lessens 31 = .ok (.iadd, 1) := @dq_o96 cX11_lessens 31 (qX11_lessens_1 15 96 rfl)
theorem dX11_lessens_32 : decode cX11_lessens 32 = .ok (.laload, 1) := @dq_o47 cX11_lessens 32 (qX11_lessens_2 0 47 rfl)
theorem dX11_lessens_33 : decode cX11_lessens 33 = .ok (.lload_n 3, 1) := @dq_o33 cX11_lessens 33 (qX11_lessens_2 1 33 rfl)
theorem dX11_lessens_34 : decode cX11_lessens 34 = .ok (.aload_n 0, 1) := @dq_o42 cX11_lessens 34 (qX11_lessens_2 2 42 rfl)
theorem dX11_lessens_35 : decode cX11_lessens 35 = .ok (.getfield 61, 3) := @dq_o180 cX11_lessens 35 0 61 (qX11_lessens_2 3 180 rfl) (qX11_lessens_2 4 0 rfl) (qX11_lessens_2 5 61 rfl)
theorem dX11_lessens_38 : decode cX11_lessens 38 = .ok (.bipush 18, 2) := @dq_o16 cX11_lessens 38 18 (qX11_lessens_2 6 16 rfl) (qX11_lessens_2 7 18 rfl)
theorem dX11_lessens_40 : decode cX11_lessens 40 = .ok (.iload_n 2, 1) := @dq_o28 cX11_lessens 40 (qX11_lessens_2 8 28 rfl)
theorem dX11_lessens_41 : decode cX11_lessens 41 = .ok (.imul, 1) := @dq_o104 cX11_lessens 41 (qX11_lessens_2 9 104 rfl)
theorem dX11_lessens_42 : decode cX11_lessens 42 = .ok (.iload 5, 2) := @dq_o21 cX11_lessens 42 5 (qX11_lessens_2 10 21 rfl) (qX11_lessens_2 11 5 rfl)
theorem dX11_lessens_44 : decode cX11_lessens 44 = .ok (.iadd, 1) := @dq_o96 cX11_lessens 44 (qX11_lessens_2 12 96 rfl)
theorem dX11_lessens_45 : decode cX11_lessens 45 = .ok (.laload, 1) := @dq_o47 cX11_lessens 45 (qX11_lessens_2 13 47 rfl)
theorem dX11_lessens_46 : decode cX11_lessens 46 = .ok (.lmul, 1) := @dq_o105 cX11_lessens 46 (qX11_lessens_2 14 105 rfl)
theorem dX11_lessens_47 : decode cX11_lessens 47 = .ok (.lsub, 1) := @dq_o101 cX11_lessens 47 (qX11_lessens_2 15 101 rfl)
theorem dX11_lessens_48 : decode cX11_lessens 48 = .ok (.lastore, 1) := @dq_o80 cX11_lessens 48 (qX11_lessens_3 0 80 rfl)
theorem dX11_lessens_49 : decode cX11_lessens 49 = .ok (.iinc 5 1, 3) := @dq_o132 cX11_lessens 49 5 1 (qX11_lessens_3 1 132 rfl) (qX11_lessens_3 2 5 rfl) (qX11_lessens_3 3 1 rfl)
theorem dX11_lessens_52 : decode cX11_lessens 52 = .ok (.goto (-49), 3) := @dq_o167 cX11_lessens 52 255 207 (qX11_lessens_3 4 167 rfl) (qX11_lessens_3 5 255 rfl) (qX11_lessens_3 6 207 rfl)
theorem dX11_lessens_55 : decode cX11_lessens 55 = .ok (.return_, 1) := @dq_o177 cX11_lessens 55 (qX11_lessens_3 7 177 rfl)
abbrev qaX11_changes_0 : List Nat := [3, 62, 29, 16, 18, 162, 0, 57, 42, 180, 0, 61, 16, 18, 27, 104]
abbrev qaX11_changes_1 : List Nat := [29, 96, 47, 55, 4, 42, 180, 0, 61, 16, 18, 27, 104, 29, 96, 42]
abbrev qaX11_changes_2 : List Nat := [180, 0, 61, 16, 18, 28, 104, 29, 96, 47, 80, 42, 180, 0, 61, 16]
abbrev qaX11_changes_3 : List Nat := [18, 28, 104, 29, 96, 22, 4, 80, 132, 3, 1, 167, 255, 199, 177]
def qtX11_changes_4 : List Nat := []
def qtX11_changes_3 : List Nat := qaX11_changes_3 ++ qtX11_changes_4
def qtX11_changes_2 : List Nat := qaX11_changes_2 ++ qtX11_changes_3
def qtX11_changes_1 : List Nat := qaX11_changes_1 ++ qtX11_changes_2
def qtX11_changes_0 : List Nat := qaX11_changes_0 ++ qtX11_changes_1
theorem qeX11_changes : cX11_changes.data.toList.map UInt8.toNat = qtX11_changes_0 := by decide +kernel
theorem qsX11_changes_0 : ∀ i, dqNth qtX11_changes_0 (0 + i) = dqNth qtX11_changes_0 i := fun i => by rw [Nat.zero_add]
theorem qsX11_changes_1 : ∀ i, dqNth qtX11_changes_0 (16 + i) = dqNth qtX11_changes_1 i := dq_step qsX11_changes_0 rfl rfl
theorem qsX11_changes_2 : ∀ i, dqNth qtX11_changes_0 (32 + i) = dqNth qtX11_changes_2 i := dq_step qsX11_changes_1 rfl rfl
theorem qsX11_changes_3 : ∀ i, dqNth qtX11_changes_0 (48 + i) = dqNth qtX11_changes_3 i := dq_step qsX11_changes_2 rfl rfl
theorem qX11_changes_0 (i b : Nat) (h : dqNth qaX11_changes_0 i = some b) : DqBy cX11_changes (0 + i) b := dqBy_of qeX11_changes ((qsX11_changes_0 i).trans (dq_in h))
theorem qX11_changes_1 (i b : Nat) (h : dqNth qaX11_changes_1 i = some b) : DqBy cX11_changes (16 + i) b := dqBy_of qeX11_changes ((qsX11_changes_1 i).trans (dq_in h))
theorem qX11_changes_2 (i b : Nat) (h : dqNth qaX11_changes_2 i = some b) : DqBy cX11_changes (32 + i) b := dqBy_of qeX11_changes ((qsX11_changes_2 i).trans (dq_in h))
theorem qX11_changes_3 (i b : Nat) (h : dqNth qaX11_changes_3 i = some b) : DqBy cX11_changes (48 + i) b := dqBy_of qeX11_changes ((qsX11_changes_3 i).trans (dq_in h))
theorem dX11_changes_0 : decode cX11_changes 0 = .ok (.iconst 0, 1) := @dq_o3 cX11_changes 0 (qX11_changes_0 0 3 rfl)
theorem dX11_changes_1 : decode cX11_changes 1 = .ok (.istore_n 3, 1) := @dq_o62 cX11_changes 1 (qX11_changes_0 1 62 rfl)
theorem dX11_changes_2 : decode cX11_changes 2 = .ok (.iload_n 3, 1) := @dq_o29 cX11_changes 2 (qX11_changes_0 2 29 rfl)
theorem dX11_changes_3 : decode cX11_changes 3 = .ok (.bipush 18, 2) := @dq_o16 cX11_changes 3 18 (qX11_changes_0 3 16 rfl) (qX11_changes_0 4 18 rfl)
theorem dX11_changes_5 : decode cX11_changes 5 = .ok (.if_icmp .ge 57, 3) := @dq_o162 cX11_changes 5 0 57 (qX11_changes_0 5 162 rfl) (qX11_changes_0 6 0 rfl) (qX11_changes_0 7 57 rfl)
theorem dX11_changes_8 : decode cX11_changes 8 = .ok (.aload_n 0, 1) := @dq_o42 cX11_changes 8 (qX11_changes_0 8 42 rfl)
theorem dX11_changes_9 : decode cX11_changes 9 = .ok (.getfield 61, 3) := @dq_o180 cX11_changes 9 0 61 (qX11_changes_0 9 180 rfl) (qX11_changes_0 10 0 rfl) (qX11_changes_0 11 61 rfl)
theorem dX11_changes_12 : decode cX11_changes 12 = .ok (.bipush 18, 2) := @dq_o16 cX11_changes 12 18 (qX11_changes_0 12 16 rfl) (qX11_changes_0 13 18 rfl)
theorem dX11_changes_14 : decode cX11_changes 14 = .ok (.iload_n 1, 1) := @dq_o27 cX11_changes 14 (qX11_changes_0 14 27 rfl)
theorem dX11_changes_15 : decode cX11_changes 15 = .ok (.imul, 1) := @dq_o104 cX11_changes 15 (qX11_changes_0 15 104 rfl)
theorem dX11_changes_16 : decode cX11_changes 16 = .ok (.iload_n 3, 1) := @dq_o29 cX11_changes 16 (qX11_changes_1 0 29 rfl)
theorem dX11_changes_17 : decode cX11_changes 17 = .ok (.iadd, 1) := @dq_o96 cX11_changes 17 (qX11_changes_1 1 96 rfl)
theorem dX11_changes_18 : decode cX11_changes 18 = .ok (.laload, 1) := @dq_o47 cX11_changes 18 (qX11_changes_1 2 47 rfl)
theorem dX11_changes_19 : decode cX11_changes 19 = .ok (.lstore 4, 2) := @dq_o55 cX11_changes 19 4 (qX11_changes_1 3 55 rfl) (qX11_changes_1 4 4 rfl)
theorem dX11_changes_21 : decode cX11_changes 21 = .ok (.aload_n 0, 1) := @dq_o42 cX11_changes 21 (qX11_changes_1 5 42 rfl)
theorem dX11_changes_22 : decode cX11_changes 22 = .ok (.getfield 61, 3) := @dq_o180 cX11_changes 22 0 61 (qX11_changes_1 6 180 rfl) (qX11_changes_1 7 0 rfl) (qX11_changes_1 8 61 rfl)
theorem dX11_changes_25 : decode cX11_changes 25 = .ok (.bipush 18, 2) := @dq_o16 cX11_changes 25 18 (qX11_changes_1 9 16 rfl) (qX11_changes_1 10 18 rfl)
theorem dX11_changes_27 : decode cX11_changes 27 = .ok (.iload_n 1, 1) := @dq_o27 cX11_changes 27 (qX11_changes_1 11 27 rfl)
theorem dX11_changes_28 : decode cX11_changes 28 = .ok (.imul, 1) := @dq_o104 cX11_changes 28 (qX11_changes_1 12 104 rfl)
theorem dX11_changes_29 : decode cX11_changes 29 = .ok (.iload_n 3, 1) := @dq_o29 cX11_changes 29 (qX11_changes_1 13 29 rfl)
theorem dX11_changes_30 : decode cX11_changes 30 = .ok (.iadd, 1) := @dq_o96 cX11_changes 30 (qX11_changes_1 14 96 rfl)
theorem dX11_changes_31 : decode cX11_changes 31 = .ok (.aload_n 0, 1) := @dq_o42 cX11_changes 31 (qX11_changes_1 15 42 rfl)
theorem dX11_changes_32 : decode cX11_changes 32 = .ok (.getfield 61, 3) := @dq_o180 cX11_changes 32 0 61 (qX11_changes_2 0 180 rfl) (qX11_changes_2 1 0 rfl) (qX11_changes_2 2 61 rfl)
theorem dX11_changes_35 : decode cX11_changes 35 = .ok (.bipush 18, 2) := @dq_o16 cX11_changes 35 18 (qX11_changes_2 3 16 rfl) (qX11_changes_2 4 18 rfl)
theorem dX11_changes_37 : decode cX11_changes 37 = .ok (.iload_n 2, 1) := @dq_o28 cX11_changes 37 (qX11_changes_2 5 28 rfl)
theorem dX11_changes_38 : decode cX11_changes 38 = .ok (.imul, 1) := @dq_o104 cX11_changes 38 (qX11_changes_2 6 104 rfl)
theorem dX11_changes_39 : decode cX11_changes 39 = .ok (.iload_n 3, 1) := @dq_o29 cX11_changes 39 (qX11_changes_2 7 29 rfl)
theorem dX11_changes_40 : decode cX11_changes 40 = .ok (.iadd, 1) := @dq_o96 cX11_changes 40 (qX11_changes_2 8 96 rfl)
theorem dX11_changes_41 : decode cX11_changes 41 = .ok (.laload, 1) := @dq_o47 cX11_changes 41 (qX11_changes_2 9 47 rfl)
theorem dX11_changes_42 : decode cX11_changes 42 = .ok (.lastore, 1) := @dq_o80 cX11_changes 42 (qX11_changes_2 10 80 rfl)
theorem dX11_changes_43 : decode cX11_changes 43 = .ok (.aload_n 0, 1) := @dq_o42 cX11_changes 43 (qX11_changes_2 11 42 rfl)
theorem dX11_changes_44 : decode cX11_changes 44 = .ok (.getfield 61, 3) := @dq_o180 cX11_changes 44 0 61 (qX11_changes_2 12 180 rfl) (qX11_changes_2 13 0 rfl) (qX11_changes_2 14 61 rfl)
theorem dX11_changes_47 : decode cX11_changes 47 = .ok (.bipush 18, 2) := @dq_o16 cX11_changes 47 18 (qX11_changes_2 15 16 rfl) (qX11_changes_3 0 18 rfl)
theorem dX11_changes_49 : decode cX11_changes 49 = .ok (.iload_n 2, 1) := @dq_o28 cX11_changes 49 (qX11_changes_3 1 28 rfl)
theorem dX11_changes_50 : decode cX11_changes 50 = .ok (.imul, 1) := @dq_o104 cX11_changes 50 (qX11_changes_3 2 104 rfl)
theorem dX11_changes_51 : decode cX11_changes 51 = .ok (.iload_n 3, 1) := @dq_o29 cX11_changes 51 (qX11_changes_3 3 29 rfl)
theorem dX11_changes_52 : decode cX11_changes 52 = .ok (.iadd, 1) := @dq_o96 cX11_changes 52 (qX11_changes_3 4 96 rfl)
theorem dX11_changes_53 : decode cX11_changes 53 = .ok (.lload 4, 2) := @dq_o22 cX11_changes 53 4 (qX11_changes_3 5 22 rfl) (qX11_changes_3 6 4 rfl)
theorem dX11_changes_55 : decode cX11_changes 55 = .ok (.lastore, 1) := @dq_o80 cX11_changes 55 (qX11_changes_3 7 80 rfl)
theorem dX11_changes_56 : decode cX11_changes 56 = .ok (.iinc 3 1, 3) := @dq_o132 cX11_changes 56 3 1 (qX11_changes_3 8 132 rfl) (qX11_changes_3 9 3 rfl) (qX11_changes_3 10 1 rfl)
theorem dX11_changes_59 : decode cX11_changes 59 = .ok (.goto (-57), 3) := @dq_o167 cX11_changes 59 255 199 (qX11_changes_3 11 167 rfl) (qX11_changes_3 12 255 rfl) (qX11_changes_3 13 199 rfl)
theorem dX11_changes_62 : decode cX11_changes 62 = .ok (.return_, 1) := @dq_o177 cX11_changes 62 (qX11_changes_3 14 177 rfl)
abbrev qaX11_clearsAt_0 : List Nat := [27, 62, 29, 2, 159, 0, 172, 2, 62, 27, 54, 4, 21, 4, 42, 180]
abbrev qaX11_clearsAt_1 : List Nat := [1, 127, 162, 0, 52, 42, 21, 4, 28, 182, 1, 159, 9, 148, 153, 0]
abbrev qaX11_clearsAt_2 : List Nat := [34, 29, 2, 159, 0, 26, 42, 21, 4, 28, 182, 1, 159, 184, 1, 162]
abbrev qaX11_clearsAt_3 : List Nat := [42, 29, 28, 182, 1, 159, 184, 1, 162, 148, 156, 0, 6, 21, 4, 62]
abbrev qaX11_clearsAt_4 : List Nat := [132, 4, 1, 167, 255, 201, 29, 2, 160, 0, 20, 42, 180, 0, 64, 28]
abbrev qaX11_clearsAt_5 : List Nat := [47, 9, 148, 154, 0, 7, 4, 167, 0, 4, 3, 172, 42, 29, 27, 182]
abbrev qaX11_clearsAt_6 : List Nat := [1, 165, 3, 54, 4, 27, 4, 96, 54, 5, 21, 5, 42, 180, 1, 127]
abbrev qaX11_clearsAt_7 : List Nat := [162, 0, 54, 42, 21, 5, 27, 42, 21, 5, 28, 182, 1, 159, 42, 27]
abbrev qaX11_clearsAt_8 : List Nat := [28, 182, 1, 159, 109, 182, 1, 168, 21, 4, 154, 0, 15, 42, 21, 5]
abbrev qaX11_clearsAt_9 : List Nat := [28, 182, 1, 159, 9, 148, 153, 0, 7, 4, 167, 0, 4, 3, 54, 4]
abbrev qaX11_clearsAt_10 : List Nat := [132, 5, 1, 167, 255, 199, 21, 4, 154, 0, 5, 2, 62, 167, 255, 85]
abbrev qaX11_clearsAt_11 : List Nat := [42, 4, 181, 1, 171, 42, 180, 0, 64, 28, 47, 42, 27, 28, 182, 1]
abbrev qaX11_clearsAt_12 : List Nat := [159, 113, 9, 148, 153, 0, 5, 3, 172, 42, 180, 0, 64, 28, 47, 42]
abbrev qaX11_clearsAt_13 : List Nat := [27, 28, 182, 1, 159, 109, 55, 4, 3, 54, 6, 21, 6, 16, 18, 162]
abbrev qaX11_clearsAt_14 : List Nat := [0, 34, 42, 180, 0, 64, 21, 6, 42, 180, 0, 64, 21, 6, 47, 22]
abbrev qaX11_clearsAt_15 : List Nat := [4, 42, 27, 21, 6, 182, 1, 159, 105, 101, 80, 132, 6, 1, 167, 255]
abbrev qaX11_clearsAt_16 : List Nat := [221, 4, 172]
def qtX11_clearsAt_17 : List Nat := []
def qtX11_clearsAt_16 : List Nat := qaX11_clearsAt_16 ++ qtX11_clearsAt_17
def qtX11_clearsAt_15 : List Nat := qaX11_clearsAt_15 ++ qtX11_clearsAt_16
def qtX11_clearsAt_14 : List Nat := qaX11_clearsAt_14 ++ qtX11_clearsAt_15
def qtX11_clearsAt_13 : List Nat := qaX11_clearsAt_13 ++ qtX11_clearsAt_14
def qtX11_clearsAt_12 : List Nat := qaX11_clearsAt_12 ++ qtX11_clearsAt_13
def qtX11_clearsAt_11 : List Nat := qaX11_clearsAt_11 ++ qtX11_clearsAt_12
def qtX11_clearsAt_10 : List Nat := qaX11_clearsAt_10 ++ qtX11_clearsAt_11
def qtX11_clearsAt_9 : List Nat := qaX11_clearsAt_9 ++ qtX11_clearsAt_10
def qtX11_clearsAt_8 : List Nat := qaX11_clearsAt_8 ++ qtX11_clearsAt_9
def qtX11_clearsAt_7 : List Nat := qaX11_clearsAt_7 ++ qtX11_clearsAt_8
def qtX11_clearsAt_6 : List Nat := qaX11_clearsAt_6 ++ qtX11_clearsAt_7
def qtX11_clearsAt_5 : List Nat := qaX11_clearsAt_5 ++ qtX11_clearsAt_6
def qtX11_clearsAt_4 : List Nat := qaX11_clearsAt_4 ++ qtX11_clearsAt_5
def qtX11_clearsAt_3 : List Nat := qaX11_clearsAt_3 ++ qtX11_clearsAt_4
def qtX11_clearsAt_2 : List Nat := qaX11_clearsAt_2 ++ qtX11_clearsAt_3
def qtX11_clearsAt_1 : List Nat := qaX11_clearsAt_1 ++ qtX11_clearsAt_2
def qtX11_clearsAt_0 : List Nat := qaX11_clearsAt_0 ++ qtX11_clearsAt_1
theorem qeX11_clearsAt : cX11_clearsAt.data.toList.map UInt8.toNat = qtX11_clearsAt_0 := by decide +kernel
theorem qsX11_clearsAt_0 : ∀ i, dqNth qtX11_clearsAt_0 (0 + i) = dqNth qtX11_clearsAt_0 i := fun i => by rw [Nat.zero_add]
theorem qsX11_clearsAt_1 : ∀ i, dqNth qtX11_clearsAt_0 (16 + i) = dqNth qtX11_clearsAt_1 i := dq_step qsX11_clearsAt_0 rfl rfl
theorem qsX11_clearsAt_2 : ∀ i, dqNth qtX11_clearsAt_0 (32 + i) = dqNth qtX11_clearsAt_2 i := dq_step qsX11_clearsAt_1 rfl rfl
theorem qsX11_clearsAt_3 : ∀ i, dqNth qtX11_clearsAt_0 (48 + i) = dqNth qtX11_clearsAt_3 i := dq_step qsX11_clearsAt_2 rfl rfl
theorem qsX11_clearsAt_4 : ∀ i, dqNth qtX11_clearsAt_0 (64 + i) = dqNth qtX11_clearsAt_4 i := dq_step qsX11_clearsAt_3 rfl rfl
theorem qsX11_clearsAt_5 : ∀ i, dqNth qtX11_clearsAt_0 (80 + i) = dqNth qtX11_clearsAt_5 i := dq_step qsX11_clearsAt_4 rfl rfl
theorem qsX11_clearsAt_6 : ∀ i, dqNth qtX11_clearsAt_0 (96 + i) = dqNth qtX11_clearsAt_6 i := dq_step qsX11_clearsAt_5 rfl rfl
theorem qsX11_clearsAt_7 : ∀ i, dqNth qtX11_clearsAt_0 (112 + i) = dqNth qtX11_clearsAt_7 i := dq_step qsX11_clearsAt_6 rfl rfl
theorem qsX11_clearsAt_8 : ∀ i, dqNth qtX11_clearsAt_0 (128 + i) = dqNth qtX11_clearsAt_8 i := dq_step qsX11_clearsAt_7 rfl rfl
theorem qsX11_clearsAt_9 : ∀ i, dqNth qtX11_clearsAt_0 (144 + i) = dqNth qtX11_clearsAt_9 i := dq_step qsX11_clearsAt_8 rfl rfl
theorem qsX11_clearsAt_10 : ∀ i, dqNth qtX11_clearsAt_0 (160 + i) = dqNth qtX11_clearsAt_10 i := dq_step qsX11_clearsAt_9 rfl rfl
theorem qsX11_clearsAt_11 : ∀ i, dqNth qtX11_clearsAt_0 (176 + i) = dqNth qtX11_clearsAt_11 i := dq_step qsX11_clearsAt_10 rfl rfl
theorem qsX11_clearsAt_12 : ∀ i, dqNth qtX11_clearsAt_0 (192 + i) = dqNth qtX11_clearsAt_12 i := dq_step qsX11_clearsAt_11 rfl rfl
theorem qsX11_clearsAt_13 : ∀ i, dqNth qtX11_clearsAt_0 (208 + i) = dqNth qtX11_clearsAt_13 i := dq_step qsX11_clearsAt_12 rfl rfl
theorem qsX11_clearsAt_14 : ∀ i, dqNth qtX11_clearsAt_0 (224 + i) = dqNth qtX11_clearsAt_14 i := dq_step qsX11_clearsAt_13 rfl rfl
theorem qsX11_clearsAt_15 : ∀ i, dqNth qtX11_clearsAt_0 (240 + i) = dqNth qtX11_clearsAt_15 i := dq_step qsX11_clearsAt_14 rfl rfl
theorem qsX11_clearsAt_16 : ∀ i, dqNth qtX11_clearsAt_0 (256 + i) = dqNth qtX11_clearsAt_16 i := dq_step qsX11_clearsAt_15 rfl rfl
theorem qX11_clearsAt_0 (i b : Nat) (h : dqNth qaX11_clearsAt_0 i = some b) : DqBy cX11_clearsAt (0 + i) b := dqBy_of qeX11_clearsAt ((qsX11_clearsAt_0 i).trans (dq_in h))
theorem qX11_clearsAt_1 (i b : Nat) (h : dqNth qaX11_clearsAt_1 i = some b) : DqBy cX11_clearsAt (16 + i) b := dqBy_of qeX11_clearsAt ((qsX11_clearsAt_1 i).trans (dq_in h))
theorem qX11_clearsAt_2 (i b : Nat) (h : dqNth qaX11_clearsAt_2 i = some b) : DqBy cX11_clearsAt (32 + i) b := dqBy_of qeX11_clearsAt ((qsX11_clearsAt_2 i).trans (dq_in h))
theorem qX11_clearsAt_3 (i b : Nat) (h : dqNth qaX11_clearsAt_3 i = some b) : DqBy cX11_clearsAt (48 + i) b := dqBy_of qeX11_clearsAt ((qsX11_clearsAt_3 i).trans (dq_in h))
theorem qX11_clearsAt_4 (i b : Nat) (h : dqNth qaX11_clearsAt_4 i = some b) : DqBy cX11_clearsAt (64 + i) b := dqBy_of qeX11_clearsAt ((qsX11_clearsAt_4 i).trans (dq_in h))
theorem qX11_clearsAt_5 (i b : Nat) (h : dqNth qaX11_clearsAt_5 i = some b) : DqBy cX11_clearsAt (80 + i) b := dqBy_of qeX11_clearsAt ((qsX11_clearsAt_5 i).trans (dq_in h))
theorem qX11_clearsAt_6 (i b : Nat) (h : dqNth qaX11_clearsAt_6 i = some b) : DqBy cX11_clearsAt (96 + i) b := dqBy_of qeX11_clearsAt ((qsX11_clearsAt_6 i).trans (dq_in h))
theorem qX11_clearsAt_7 (i b : Nat) (h : dqNth qaX11_clearsAt_7 i = some b) : DqBy cX11_clearsAt (112 + i) b := dqBy_of qeX11_clearsAt ((qsX11_clearsAt_7 i).trans (dq_in h))
theorem qX11_clearsAt_8 (i b : Nat) (h : dqNth qaX11_clearsAt_8 i = some b) : DqBy cX11_clearsAt (128 + i) b := dqBy_of qeX11_clearsAt ((qsX11_clearsAt_8 i).trans (dq_in h))
theorem qX11_clearsAt_9 (i b : Nat) (h : dqNth qaX11_clearsAt_9 i = some b) : DqBy cX11_clearsAt (144 + i) b := dqBy_of qeX11_clearsAt ((qsX11_clearsAt_9 i).trans (dq_in h))
theorem qX11_clearsAt_10 (i b : Nat) (h : dqNth qaX11_clearsAt_10 i = some b) : DqBy cX11_clearsAt (160 + i) b := dqBy_of qeX11_clearsAt ((qsX11_clearsAt_10 i).trans (dq_in h))
theorem qX11_clearsAt_11 (i b : Nat) (h : dqNth qaX11_clearsAt_11 i = some b) : DqBy cX11_clearsAt (176 + i) b := dqBy_of qeX11_clearsAt ((qsX11_clearsAt_11 i).trans (dq_in h))
theorem qX11_clearsAt_12 (i b : Nat) (h : dqNth qaX11_clearsAt_12 i = some b) : DqBy cX11_clearsAt (192 + i) b := dqBy_of qeX11_clearsAt ((qsX11_clearsAt_12 i).trans (dq_in h))
theorem qX11_clearsAt_13 (i b : Nat) (h : dqNth qaX11_clearsAt_13 i = some b) : DqBy cX11_clearsAt (208 + i) b := dqBy_of qeX11_clearsAt ((qsX11_clearsAt_13 i).trans (dq_in h))
theorem qX11_clearsAt_14 (i b : Nat) (h : dqNth qaX11_clearsAt_14 i = some b) : DqBy cX11_clearsAt (224 + i) b := dqBy_of qeX11_clearsAt ((qsX11_clearsAt_14 i).trans (dq_in h))
theorem qX11_clearsAt_15 (i b : Nat) (h : dqNth qaX11_clearsAt_15 i = some b) : DqBy cX11_clearsAt (240 + i) b := dqBy_of qeX11_clearsAt ((qsX11_clearsAt_15 i).trans (dq_in h))
theorem qX11_clearsAt_16 (i b : Nat) (h : dqNth qaX11_clearsAt_16 i = some b) : DqBy cX11_clearsAt (256 + i) b := dqBy_of qeX11_clearsAt ((qsX11_clearsAt_16 i).trans (dq_in h))
theorem dX11_clearsAt_0 : decode cX11_clearsAt 0 = .ok (.iload_n 1, 1) := @dq_o27 cX11_clearsAt 0 (qX11_clearsAt_0 0 27 rfl)
theorem dX11_clearsAt_1 : decode cX11_clearsAt 1 = .ok (.istore_n 3, 1) := @dq_o62 cX11_clearsAt 1 (qX11_clearsAt_0 1 62 rfl)
theorem dX11_clearsAt_2 : decode cX11_clearsAt 2 = .ok (.iload_n 3, 1) := @dq_o29 cX11_clearsAt 2 (qX11_clearsAt_0 2 29 rfl)
theorem dX11_clearsAt_3 : decode cX11_clearsAt 3 = .ok (.iconst (-1), 1) := @dq_o2 cX11_clearsAt 3 (qX11_clearsAt_0 3 2 rfl)
theorem dX11_clearsAt_4 : decode cX11_clearsAt 4 = .ok (.if_icmp .eq 172, 3) := @dq_o159 cX11_clearsAt 4 0 172 (qX11_clearsAt_0 4 159 rfl) (qX11_clearsAt_0 5 0 rfl) (qX11_clearsAt_0 6 172 rfl)
theorem dX11_clearsAt_7 : decode cX11_clearsAt 7 = .ok (.iconst (-1), 1) := @dq_o2 cX11_clearsAt 7 (qX11_clearsAt_0 7 2 rfl)
theorem dX11_clearsAt_8 : decode cX11_clearsAt 8 = .ok (.istore_n 3, 1) := @dq_o62 cX11_clearsAt 8 (qX11_clearsAt_0 8 62 rfl)
theorem dX11_clearsAt_9 : decode cX11_clearsAt 9 = .ok (.iload_n 1, 1) := @dq_o27 cX11_clearsAt 9 (qX11_clearsAt_0 9 27 rfl)
theorem dX11_clearsAt_10 : decode cX11_clearsAt 10 = .ok (.istore 4, 2) := @dq_o54 cX11_clearsAt 10 4 (qX11_clearsAt_0 10 54 rfl) (qX11_clearsAt_0 11 4 rfl)
theorem dX11_clearsAt_12 : decode cX11_clearsAt 12 = .ok (.iload 4, 2) := @dq_o21 cX11_clearsAt 12 4 (qX11_clearsAt_0 12 21 rfl) (qX11_clearsAt_0 13 4 rfl)
theorem dX11_clearsAt_14 : decode cX11_clearsAt 14 = .ok (.aload_n 0, 1) := @dq_o42 cX11_clearsAt 14 (qX11_clearsAt_0 14 42 rfl)
theorem dX11_clearsAt_15 : decode cX11_clearsAt 15 = .ok (.getfield 383, 3) := @dq_o180 cX11_clearsAt 15 1 127 (qX11_clearsAt_0 15 180 rfl) (qX11_clearsAt_1 0 1 rfl) (qX11_clearsAt_1 1 127 rfl)
theorem dX11_clearsAt_18 : decode cX11_clearsAt 18 = .ok (.if_icmp .ge 52, 3) := @dq_o162 cX11_clearsAt 18 0 52 (qX11_clearsAt_1 2 162 rfl) (qX11_clearsAt_1 3 0 rfl) (qX11_clearsAt_1 4 52 rfl)
theorem dX11_clearsAt_21 : decode cX11_clearsAt 21 = .ok (.aload_n 0, 1) := @dq_o42 cX11_clearsAt 21 (qX11_clearsAt_1 5 42 rfl)
theorem dX11_clearsAt_22 : decode cX11_clearsAt 22 = .ok (.iload 4, 2) := @dq_o21 cX11_clearsAt 22 4 (qX11_clearsAt_1 6 21 rfl) (qX11_clearsAt_1 7 4 rfl)
theorem dX11_clearsAt_24 : decode cX11_clearsAt 24 = .ok (.iload_n 2, 1) := @dq_o28 cX11_clearsAt 24 (qX11_clearsAt_1 8 28 rfl)
theorem dX11_clearsAt_25 : decode cX11_clearsAt 25 = .ok (.invokevirtual 415, 3) := @dq_o182 cX11_clearsAt 25 1 159 (qX11_clearsAt_1 9 182 rfl) (qX11_clearsAt_1 10 1 rfl) (qX11_clearsAt_1 11 159 rfl)
theorem dX11_clearsAt_28 : decode cX11_clearsAt 28 = .ok (.lconst 0, 1) := @dq_o9 cX11_clearsAt 28 (qX11_clearsAt_1 12 9 rfl)
theorem dX11_clearsAt_29 : decode cX11_clearsAt 29 = .ok (.lcmp, 1) := @dq_o148 cX11_clearsAt 29 (qX11_clearsAt_1 13 148 rfl)
theorem dX11_clearsAt_30 : decode cX11_clearsAt 30 = .ok (.ifCond .eq 34, 3) := @dq_o153 cX11_clearsAt 30 0 34 (qX11_clearsAt_1 14 153 rfl) (qX11_clearsAt_1 15 0 rfl) (qX11_clearsAt_2 0 34 rfl)
theorem dX11_clearsAt_33 : decode cX11_clearsAt 33 = .ok (.iload_n 3, 1) := @dq_o29 cX11_clearsAt 33 (qX11_clearsAt_2 1 29 rfl)
theorem dX11_clearsAt_34 : decode cX11_clearsAt 34 = .ok (.iconst (-1), 1) := @dq_o2 cX11_clearsAt 34 (qX11_clearsAt_2 2 2 rfl)
theorem dX11_clearsAt_35 : decode cX11_clearsAt 35 = .ok (.if_icmp .eq 26, 3) := @dq_o159 cX11_clearsAt 35 0 26 (qX11_clearsAt_2 3 159 rfl) (qX11_clearsAt_2 4 0 rfl) (qX11_clearsAt_2 5 26 rfl)
theorem dX11_clearsAt_38 : decode cX11_clearsAt 38 = .ok (.aload_n 0, 1) := @dq_o42 cX11_clearsAt 38 (qX11_clearsAt_2 6 42 rfl)
theorem dX11_clearsAt_39 : decode cX11_clearsAt 39 = .ok (.iload 4, 2) := @dq_o21 cX11_clearsAt 39 4 (qX11_clearsAt_2 7 21 rfl) (qX11_clearsAt_2 8 4 rfl)
theorem dX11_clearsAt_41 : decode cX11_clearsAt 41 = .ok (.iload_n 2, 1) := @dq_o28 cX11_clearsAt 41 (qX11_clearsAt_2 9 28 rfl)
theorem dX11_clearsAt_42 : decode cX11_clearsAt 42 = .ok (.invokevirtual 415, 3) := @dq_o182 cX11_clearsAt 42 1 159 (qX11_clearsAt_2 10 182 rfl) (qX11_clearsAt_2 11 1 rfl) (qX11_clearsAt_2 12 159 rfl)
theorem dX11_clearsAt_45 : decode cX11_clearsAt 45 = .ok (.invokestatic 418, 3) := @dq_o184 cX11_clearsAt 45 1 162 (qX11_clearsAt_2 13 184 rfl) (qX11_clearsAt_2 14 1 rfl) (qX11_clearsAt_2 15 162 rfl)
theorem dX11_clearsAt_48 : decode cX11_clearsAt 48 = .ok (.aload_n 0, 1) := @dq_o42 cX11_clearsAt 48 (qX11_clearsAt_3 0 42 rfl)
theorem dX11_clearsAt_49 : decode cX11_clearsAt 49 = .ok (.iload_n 3, 1) := @dq_o29 cX11_clearsAt 49 (qX11_clearsAt_3 1 29 rfl)
theorem dX11_clearsAt_50 : decode cX11_clearsAt 50 = .ok (.iload_n 2, 1) := @dq_o28 cX11_clearsAt 50 (qX11_clearsAt_3 2 28 rfl)
theorem dX11_clearsAt_51 : decode cX11_clearsAt 51 = .ok (.invokevirtual 415, 3) := @dq_o182 cX11_clearsAt 51 1 159 (qX11_clearsAt_3 3 182 rfl) (qX11_clearsAt_3 4 1 rfl) (qX11_clearsAt_3 5 159 rfl)
theorem dX11_clearsAt_54 : decode cX11_clearsAt 54 = .ok (.invokestatic 418, 3) := @dq_o184 cX11_clearsAt 54 1 162 (qX11_clearsAt_3 6 184 rfl) (qX11_clearsAt_3 7 1 rfl) (qX11_clearsAt_3 8 162 rfl)
theorem dX11_clearsAt_57 : decode cX11_clearsAt 57 = .ok (.lcmp, 1) := @dq_o148 cX11_clearsAt 57 (qX11_clearsAt_3 9 148 rfl)
theorem dX11_clearsAt_58 : decode cX11_clearsAt 58 = .ok (.ifCond .ge 6, 3) := @dq_o156 cX11_clearsAt 58 0 6 (qX11_clearsAt_3 10 156 rfl) (qX11_clearsAt_3 11 0 rfl) (qX11_clearsAt_3 12 6 rfl)
theorem dX11_clearsAt_61 : decode cX11_clearsAt 61 = .ok (.iload 4, 2) := @dq_o21 cX11_clearsAt 61 4 (qX11_clearsAt_3 13 21 rfl) (qX11_clearsAt_3 14 4 rfl)
theorem dX11_clearsAt_63 : decode cX11_clearsAt 63 = .ok (.istore_n 3, 1) := @dq_o62 cX11_clearsAt 63 (qX11_clearsAt_3 15 62 rfl)
theorem dX11_clearsAt_64 : decode cX11_clearsAt 64 = .ok (.iinc 4 1, 3) := @dq_o132 cX11_clearsAt 64 4 1 (qX11_clearsAt_4 0 132 rfl) (qX11_clearsAt_4 1 4 rfl) (qX11_clearsAt_4 2 1 rfl)
theorem dX11_clearsAt_67 : decode cX11_clearsAt 67 = .ok (.goto (-55), 3) := @dq_o167 cX11_clearsAt 67 255 201 (qX11_clearsAt_4 3 167 rfl) (qX11_clearsAt_4 4 255 rfl) (qX11_clearsAt_4 5 201 rfl)
theorem dX11_clearsAt_70 : decode cX11_clearsAt 70 = .ok (.iload_n 3, 1) := @dq_o29 cX11_clearsAt 70 (qX11_clearsAt_4 6 29 rfl)
theorem dX11_clearsAt_71 : decode cX11_clearsAt 71 = .ok (.iconst (-1), 1) := @dq_o2 cX11_clearsAt 71 (qX11_clearsAt_4 7 2 rfl)
theorem dX11_clearsAt_72 : decode cX11_clearsAt 72 = .ok (.if_icmp .ne 20, 3) := @dq_o160 cX11_clearsAt 72 0 20 (qX11_clearsAt_4 8 160 rfl) (qX11_clearsAt_4 9 0 rfl) (qX11_clearsAt_4 10 20 rfl)
theorem dX11_clearsAt_75 : decode cX11_clearsAt 75 = .ok (.aload_n 0, 1) := @dq_o42 cX11_clearsAt 75 (qX11_clearsAt_4 11 42 rfl)
theorem dX11_clearsAt_76 : decode cX11_clearsAt 76 = .ok (.getfield 64, 3) := @dq_o180 cX11_clearsAt 76 0 64 (qX11_clearsAt_4 12 180 rfl) (qX11_clearsAt_4 13 0 rfl) (qX11_clearsAt_4 14 64 rfl)
theorem dX11_clearsAt_79 : decode cX11_clearsAt 79 = .ok (.iload_n 2, 1) := @dq_o28 cX11_clearsAt 79 (qX11_clearsAt_4 15 28 rfl)
theorem dX11_clearsAt_80 : decode cX11_clearsAt 80 = .ok (.laload, 1) := @dq_o47 cX11_clearsAt 80 (qX11_clearsAt_5 0 47 rfl)
theorem dX11_clearsAt_81 : decode cX11_clearsAt 81 = .ok (.lconst 0, 1) := @dq_o9 cX11_clearsAt 81 (qX11_clearsAt_5 1 9 rfl)
theorem dX11_clearsAt_82 : decode cX11_clearsAt 82 = .ok (.lcmp, 1) := @dq_o148 cX11_clearsAt 82 (qX11_clearsAt_5 2 148 rfl)
theorem dX11_clearsAt_83 : decode cX11_clearsAt 83 = .ok (.ifCond .ne 7, 3) := @dq_o154 cX11_clearsAt 83 0 7 (qX11_clearsAt_5 3 154 rfl) (qX11_clearsAt_5 4 0 rfl) (qX11_clearsAt_5 5 7 rfl)
theorem dX11_clearsAt_86 : decode cX11_clearsAt 86 = .ok (.iconst 1, 1) := @dq_o4 cX11_clearsAt 86 (qX11_clearsAt_5 6 4 rfl)
theorem dX11_clearsAt_87 : decode cX11_clearsAt 87 = .ok (.goto 4, 3) := @dq_o167 cX11_clearsAt 87 0 4 (qX11_clearsAt_5 7 167 rfl) (qX11_clearsAt_5 8 0 rfl) (qX11_clearsAt_5 9 4 rfl)
theorem dX11_clearsAt_90 : decode cX11_clearsAt 90 = .ok (.iconst 0, 1) := @dq_o3 cX11_clearsAt 90 (qX11_clearsAt_5 10 3 rfl)
theorem dX11_clearsAt_91 : decode cX11_clearsAt 91 = .ok (.ireturn, 1) := @dq_o172 cX11_clearsAt 91 (qX11_clearsAt_5 11 172 rfl)
theorem dX11_clearsAt_92 : decode cX11_clearsAt 92 = .ok (.aload_n 0, 1) := @dq_o42 cX11_clearsAt 92 (qX11_clearsAt_5 12 42 rfl)
theorem dX11_clearsAt_93 : decode cX11_clearsAt 93 = .ok (.iload_n 3, 1) := @dq_o29 cX11_clearsAt 93 (qX11_clearsAt_5 13 29 rfl)
theorem dX11_clearsAt_94 : decode cX11_clearsAt 94 = .ok (.iload_n 1, 1) := @dq_o27 cX11_clearsAt 94 (qX11_clearsAt_5 14 27 rfl)
theorem dX11_clearsAt_95 : decode cX11_clearsAt 95 = .ok (.invokevirtual 421, 3) := @dq_o182 cX11_clearsAt 95 1 165 (qX11_clearsAt_5 15 182 rfl) (qX11_clearsAt_6 0 1 rfl) (qX11_clearsAt_6 1 165 rfl)
theorem dX11_clearsAt_98 : decode cX11_clearsAt 98 = .ok (.iconst 0, 1) := @dq_o3 cX11_clearsAt 98 (qX11_clearsAt_6 2 3 rfl)
theorem dX11_clearsAt_99 : decode cX11_clearsAt 99 = .ok (.istore 4, 2) := @dq_o54 cX11_clearsAt 99 4 (qX11_clearsAt_6 3 54 rfl) (qX11_clearsAt_6 4 4 rfl)
theorem dX11_clearsAt_101 : decode cX11_clearsAt 101 = .ok (.iload_n 1, 1) := @dq_o27 cX11_clearsAt 101 (qX11_clearsAt_6 5 27 rfl)
theorem dX11_clearsAt_102 : decode cX11_clearsAt 102 = .ok (.iconst 1, 1) := @dq_o4 cX11_clearsAt 102 (qX11_clearsAt_6 6 4 rfl)
theorem dX11_clearsAt_103 : decode cX11_clearsAt 103 = .ok (.iadd, 1) := @dq_o96 cX11_clearsAt 103 (qX11_clearsAt_6 7 96 rfl)
theorem dX11_clearsAt_104 : decode cX11_clearsAt 104 = .ok (.istore 5, 2) := @dq_o54 cX11_clearsAt 104 5 (qX11_clearsAt_6 8 54 rfl) (qX11_clearsAt_6 9 5 rfl)
theorem dX11_clearsAt_106 : decode cX11_clearsAt 106 = .ok (.iload 5, 2) := @dq_o21 cX11_clearsAt 106 5 (qX11_clearsAt_6 10 21 rfl) (qX11_clearsAt_6 11 5 rfl)
theorem dX11_clearsAt_108 : decode cX11_clearsAt 108 = .ok (.aload_n 0, 1) := @dq_o42 cX11_clearsAt 108 (qX11_clearsAt_6 12 42 rfl)
theorem dX11_clearsAt_109 : decode cX11_clearsAt 109 = .ok (.getfield 383, 3) := @dq_o180 cX11_clearsAt 109 1 127 (qX11_clearsAt_6 13 180 rfl) (qX11_clearsAt_6 14 1 rfl) (qX11_clearsAt_6 15 127 rfl)
theorem dX11_clearsAt_112 : decode cX11_clearsAt 112 = .ok (.if_icmp .ge 54, 3) := @dq_o162 cX11_clearsAt 112 0 54 (qX11_clearsAt_7 0 162 rfl) (qX11_clearsAt_7 1 0 rfl) (qX11_clearsAt_7 2 54 rfl)
theorem dX11_clearsAt_115 : decode cX11_clearsAt 115 = .ok (.aload_n 0, 1) := @dq_o42 cX11_clearsAt 115 (qX11_clearsAt_7 3 42 rfl)
theorem dX11_clearsAt_116 : decode cX11_clearsAt 116 = .ok (.iload 5, 2) := @dq_o21 cX11_clearsAt 116 5 (qX11_clearsAt_7 4 21 rfl) (qX11_clearsAt_7 5 5 rfl)
theorem dX11_clearsAt_118 : decode cX11_clearsAt 118 = .ok (.iload_n 1, 1) := @dq_o27 cX11_clearsAt 118 (qX11_clearsAt_7 6 27 rfl)
theorem dX11_clearsAt_119 : decode cX11_clearsAt 119 = .ok (.aload_n 0, 1) := @dq_o42 cX11_clearsAt 119 (qX11_clearsAt_7 7 42 rfl)
theorem dX11_clearsAt_120 : decode cX11_clearsAt 120 = .ok (.iload 5, 2) := @dq_o21 cX11_clearsAt 120 5 (qX11_clearsAt_7 8 21 rfl) (qX11_clearsAt_7 9 5 rfl)
theorem dX11_clearsAt_122 : decode cX11_clearsAt 122 = .ok (.iload_n 2, 1) := @dq_o28 cX11_clearsAt 122 (qX11_clearsAt_7 10 28 rfl)
theorem dX11_clearsAt_123 : decode cX11_clearsAt 123 = .ok (.invokevirtual 415, 3) := @dq_o182 cX11_clearsAt 123 1 159 (qX11_clearsAt_7 11 182 rfl) (qX11_clearsAt_7 12 1 rfl) (qX11_clearsAt_7 13 159 rfl)
theorem dX11_clearsAt_126 : decode cX11_clearsAt 126 = .ok (.aload_n 0, 1) := @dq_o42 cX11_clearsAt 126 (qX11_clearsAt_7 14 42 rfl)
theorem dX11_clearsAt_127 : decode cX11_clearsAt 127 = .ok (.iload_n 1, 1) := @dq_o27 cX11_clearsAt 127 (qX11_clearsAt_7 15 27 rfl)
theorem dX11_clearsAt_128 : decode cX11_clearsAt 128 = .ok (.iload_n 2, 1) := @dq_o28 cX11_clearsAt 128 (qX11_clearsAt_8 0 28 rfl)
theorem dX11_clearsAt_129 : decode cX11_clearsAt 129 = .ok (.invokevirtual 415, 3) := @dq_o182 cX11_clearsAt 129 1 159 (qX11_clearsAt_8 1 182 rfl) (qX11_clearsAt_8 2 1 rfl) (qX11_clearsAt_8 3 159 rfl)
theorem dX11_clearsAt_132 : decode cX11_clearsAt 132 = .ok (.ldiv, 1) := @dq_o109 cX11_clearsAt 132 (qX11_clearsAt_8 4 109 rfl)
theorem dX11_clearsAt_133 : decode cX11_clearsAt 133 = .ok (.invokevirtual 424, 3) := @dq_o182 cX11_clearsAt 133 1 168 (qX11_clearsAt_8 5 182 rfl) (qX11_clearsAt_8 6 1 rfl) (qX11_clearsAt_8 7 168 rfl)
theorem dX11_clearsAt_136 : decode cX11_clearsAt 136 = .ok (.iload 4, 2) := @dq_o21 cX11_clearsAt 136 4 (qX11_clearsAt_8 8 21 rfl) (qX11_clearsAt_8 9 4 rfl)
theorem dX11_clearsAt_138 : decode cX11_clearsAt 138 = .ok (.ifCond .ne 15, 3) := @dq_o154 cX11_clearsAt 138 0 15 (qX11_clearsAt_8 10 154 rfl) (qX11_clearsAt_8 11 0 rfl) (qX11_clearsAt_8 12 15 rfl)
theorem dX11_clearsAt_141 : decode cX11_clearsAt 141 = .ok (.aload_n 0, 1) := @dq_o42 cX11_clearsAt 141 (qX11_clearsAt_8 13 42 rfl)
theorem dX11_clearsAt_142 : decode cX11_clearsAt 142 = .ok (.iload 5, 2) := @dq_o21 cX11_clearsAt 142 5 (qX11_clearsAt_8 14 21 rfl) (qX11_clearsAt_8 15 5 rfl)
theorem dX11_clearsAt_144 : decode cX11_clearsAt 144 = .ok (.iload_n 2, 1) := @dq_o28 cX11_clearsAt 144 (qX11_clearsAt_9 0 28 rfl)
theorem dX11_clearsAt_145 : decode cX11_clearsAt 145 = .ok (.invokevirtual 415, 3) := @dq_o182 cX11_clearsAt 145 1 159 (qX11_clearsAt_9 1 182 rfl) (qX11_clearsAt_9 2 1 rfl) (qX11_clearsAt_9 3 159 rfl)
theorem dX11_clearsAt_148 : decode cX11_clearsAt 148 = .ok (.lconst 0, 1) := @dq_o9 cX11_clearsAt 148 (qX11_clearsAt_9 4 9 rfl)
theorem dX11_clearsAt_149 : decode cX11_clearsAt 149 = .ok (.lcmp, 1) := @dq_o148 cX11_clearsAt 149 (qX11_clearsAt_9 5 148 rfl)
theorem dX11_clearsAt_150 : decode cX11_clearsAt 150 = .ok (.ifCond .eq 7, 3) := @dq_o153 cX11_clearsAt 150 0 7 (qX11_clearsAt_9 6 153 rfl) (qX11_clearsAt_9 7 0 rfl) (qX11_clearsAt_9 8 7 rfl)
theorem dX11_clearsAt_153 : decode cX11_clearsAt 153 = .ok (.iconst 1, 1) := @dq_o4 cX11_clearsAt 153 (qX11_clearsAt_9 9 4 rfl)
theorem dX11_clearsAt_154 : decode cX11_clearsAt 154 = .ok (.goto 4, 3) := @dq_o167 cX11_clearsAt 154 0 4 (qX11_clearsAt_9 10 167 rfl) (qX11_clearsAt_9 11 0 rfl) (qX11_clearsAt_9 12 4 rfl)
theorem dX11_clearsAt_157 : decode cX11_clearsAt 157 = .ok (.iconst 0, 1) := @dq_o3 cX11_clearsAt 157 (qX11_clearsAt_9 13 3 rfl)
theorem dX11_clearsAt_158 : decode cX11_clearsAt 158 = .ok (.istore 4, 2) := @dq_o54 cX11_clearsAt 158 4 (qX11_clearsAt_9 14 54 rfl) (qX11_clearsAt_9 15 4 rfl)
theorem dX11_clearsAt_160 : decode cX11_clearsAt 160 = .ok (.iinc 5 1, 3) := @dq_o132 cX11_clearsAt 160 5 1 (qX11_clearsAt_10 0 132 rfl) (qX11_clearsAt_10 1 5 rfl) (qX11_clearsAt_10 2 1 rfl)
theorem dX11_clearsAt_163 : decode cX11_clearsAt 163 = .ok (.goto (-57), 3) := @dq_o167 cX11_clearsAt 163 255 199 (qX11_clearsAt_10 3 167 rfl) (qX11_clearsAt_10 4 255 rfl) (qX11_clearsAt_10 5 199 rfl)
theorem dX11_clearsAt_166 : decode cX11_clearsAt 166 = .ok (.iload 4, 2) := @dq_o21 cX11_clearsAt 166 4 (qX11_clearsAt_10 6 21 rfl) (qX11_clearsAt_10 7 4 rfl)
theorem dX11_clearsAt_168 : decode cX11_clearsAt 168 = .ok (.ifCond .ne 5, 3) := @dq_o154 cX11_clearsAt 168 0 5 (qX11_clearsAt_10 8 154 rfl) (qX11_clearsAt_10 9 0 rfl) (qX11_clearsAt_10 10 5 rfl)
theorem dX11_clearsAt_171 : decode cX11_clearsAt 171 = .ok (.iconst (-1), 1) := @dq_o2 cX11_clearsAt 171 (qX11_clearsAt_10 11 2 rfl)
theorem dX11_clearsAt_172 : decode cX11_clearsAt 172 = .ok (.istore_n 3, 1) := @dq_o62 cX11_clearsAt 172 (qX11_clearsAt_10 12 62 rfl)
theorem dX11_clearsAt_173 : decode cX11_clearsAt 173 = .ok (.goto (-171), 3) := @dq_o167 cX11_clearsAt 173 255 85 (qX11_clearsAt_10 13 167 rfl) (qX11_clearsAt_10 14 255 rfl) (qX11_clearsAt_10 15 85 rfl)
theorem dX11_clearsAt_176 : decode cX11_clearsAt 176 = .ok (.aload_n 0, 1) := @dq_o42 cX11_clearsAt 176 (qX11_clearsAt_11 0 42 rfl)
theorem dX11_clearsAt_177 : decode cX11_clearsAt 177 = .ok (.iconst 1, 1) := @dq_o4 cX11_clearsAt 177 (qX11_clearsAt_11 1 4 rfl)
theorem dX11_clearsAt_178 : decode cX11_clearsAt 178 = .ok (.putfield 427, 3) := @dq_o181 cX11_clearsAt 178 1 171 (qX11_clearsAt_11 2 181 rfl) (qX11_clearsAt_11 3 1 rfl) (qX11_clearsAt_11 4 171 rfl)
theorem dX11_clearsAt_181 : decode cX11_clearsAt 181 = .ok (.aload_n 0, 1) := @dq_o42 cX11_clearsAt 181 (qX11_clearsAt_11 5 42 rfl)
theorem dX11_clearsAt_182 : decode cX11_clearsAt 182 = .ok (.getfield 64, 3) := @dq_o180 cX11_clearsAt 182 0 64 (qX11_clearsAt_11 6 180 rfl) (qX11_clearsAt_11 7 0 rfl) (qX11_clearsAt_11 8 64 rfl)
theorem dX11_clearsAt_185 : decode cX11_clearsAt 185 = .ok (.iload_n 2, 1) := @dq_o28 cX11_clearsAt 185 (qX11_clearsAt_11 9 28 rfl)
theorem dX11_clearsAt_186 : decode cX11_clearsAt 186 = .ok (.laload, 1) := @dq_o47 cX11_clearsAt 186 (qX11_clearsAt_11 10 47 rfl)
theorem dX11_clearsAt_187 : decode cX11_clearsAt 187 = .ok (.aload_n 0, 1) := @dq_o42 cX11_clearsAt 187 (qX11_clearsAt_11 11 42 rfl)
theorem dX11_clearsAt_188 : decode cX11_clearsAt 188 = .ok (.iload_n 1, 1) := @dq_o27 cX11_clearsAt 188 (qX11_clearsAt_11 12 27 rfl)
theorem dX11_clearsAt_189 : decode cX11_clearsAt 189 = .ok (.iload_n 2, 1) := @dq_o28 cX11_clearsAt 189 (qX11_clearsAt_11 13 28 rfl)
theorem dX11_clearsAt_190 : decode cX11_clearsAt 190 = .ok (.invokevirtual 415, 3) := @dq_o182 cX11_clearsAt 190 1 159 (qX11_clearsAt_11 14 182 rfl) (qX11_clearsAt_11 15 1 rfl) (qX11_clearsAt_12 0 159 rfl)
theorem dX11_clearsAt_193 : decode cX11_clearsAt 193 = .ok (.lrem, 1) := @dq_o113 cX11_clearsAt 193 (qX11_clearsAt_12 1 113 rfl)
theorem dX11_clearsAt_194 : decode cX11_clearsAt 194 = .ok (.lconst 0, 1) := @dq_o9 cX11_clearsAt 194 (qX11_clearsAt_12 2 9 rfl)
theorem dX11_clearsAt_195 : decode cX11_clearsAt 195 = .ok (.lcmp, 1) := @dq_o148 cX11_clearsAt 195 (qX11_clearsAt_12 3 148 rfl)
theorem dX11_clearsAt_196 : decode cX11_clearsAt 196 = .ok (.ifCond .eq 5, 3) := @dq_o153 cX11_clearsAt 196 0 5 (qX11_clearsAt_12 4 153 rfl) (qX11_clearsAt_12 5 0 rfl) (qX11_clearsAt_12 6 5 rfl)
theorem dX11_clearsAt_199 : decode cX11_clearsAt 199 = .ok (.iconst 0, 1) := @dq_o3 cX11_clearsAt 199 (qX11_clearsAt_12 7 3 rfl)
theorem dX11_clearsAt_200 : decode cX11_clearsAt 200 = .ok (.ireturn, 1) := @dq_o172 cX11_clearsAt 200 (qX11_clearsAt_12 8 172 rfl)
theorem dX11_clearsAt_201 : decode cX11_clearsAt 201 = .ok (.aload_n 0, 1) := @dq_o42 cX11_clearsAt 201 (qX11_clearsAt_12 9 42 rfl)
theorem dX11_clearsAt_202 : decode cX11_clearsAt 202 = .ok (.getfield 64, 3) := @dq_o180 cX11_clearsAt 202 0 64 (qX11_clearsAt_12 10 180 rfl) (qX11_clearsAt_12 11 0 rfl) (qX11_clearsAt_12 12 64 rfl)
theorem dX11_clearsAt_205 : decode cX11_clearsAt 205 = .ok (.iload_n 2, 1) := @dq_o28 cX11_clearsAt 205 (qX11_clearsAt_12 13 28 rfl)
theorem dX11_clearsAt_206 : decode cX11_clearsAt 206 = .ok (.laload, 1) := @dq_o47 cX11_clearsAt 206 (qX11_clearsAt_12 14 47 rfl)
theorem dX11_clearsAt_207 : decode cX11_clearsAt 207 = .ok (.aload_n 0, 1) := @dq_o42 cX11_clearsAt 207 (qX11_clearsAt_12 15 42 rfl)
theorem dX11_clearsAt_208 : decode cX11_clearsAt 208 = .ok (.iload_n 1, 1) := @dq_o27 cX11_clearsAt 208 (qX11_clearsAt_13 0 27 rfl)
theorem dX11_clearsAt_209 : decode cX11_clearsAt 209 = .ok (.iload_n 2, 1) := @dq_o28 cX11_clearsAt 209 (qX11_clearsAt_13 1 28 rfl)
theorem dX11_clearsAt_210 : decode cX11_clearsAt 210 = .ok (.invokevirtual 415, 3) := @dq_o182 cX11_clearsAt 210 1 159 (qX11_clearsAt_13 2 182 rfl) (qX11_clearsAt_13 3 1 rfl) (qX11_clearsAt_13 4 159 rfl)
theorem dX11_clearsAt_213 : decode cX11_clearsAt 213 = .ok (.ldiv, 1) := @dq_o109 cX11_clearsAt 213 (qX11_clearsAt_13 5 109 rfl)
theorem dX11_clearsAt_214 : decode cX11_clearsAt 214 = .ok (.lstore 4, 2) := @dq_o55 cX11_clearsAt 214 4 (qX11_clearsAt_13 6 55 rfl) (qX11_clearsAt_13 7 4 rfl)
theorem dX11_clearsAt_216 : decode cX11_clearsAt 216 = .ok (.iconst 0, 1) := @dq_o3 cX11_clearsAt 216 (qX11_clearsAt_13 8 3 rfl)
theorem dX11_clearsAt_217 : decode cX11_clearsAt 217 = .ok (.istore 6, 2) := @dq_o54 cX11_clearsAt 217 6 (qX11_clearsAt_13 9 54 rfl) (qX11_clearsAt_13 10 6 rfl)
theorem dX11_clearsAt_219 : decode cX11_clearsAt 219 = .ok (.iload 6, 2) := @dq_o21 cX11_clearsAt 219 6 (qX11_clearsAt_13 11 21 rfl) (qX11_clearsAt_13 12 6 rfl)
theorem dX11_clearsAt_221 : decode cX11_clearsAt 221 = .ok (.bipush 18, 2) := @dq_o16 cX11_clearsAt 221 18 (qX11_clearsAt_13 13 16 rfl) (qX11_clearsAt_13 14 18 rfl)
theorem dX11_clearsAt_223 : decode cX11_clearsAt 223 = .ok (.if_icmp .ge 34, 3) := @dq_o162 cX11_clearsAt 223 0 34 (qX11_clearsAt_13 15 162 rfl) (qX11_clearsAt_14 0 0 rfl) (qX11_clearsAt_14 1 34 rfl)
theorem dX11_clearsAt_226 : decode cX11_clearsAt 226 = .ok (.aload_n 0, 1) := @dq_o42 cX11_clearsAt 226 (qX11_clearsAt_14 2 42 rfl)
theorem dX11_clearsAt_227 : decode cX11_clearsAt 227 = .ok (.getfield 64, 3) := @dq_o180 cX11_clearsAt 227 0 64 (qX11_clearsAt_14 3 180 rfl) (qX11_clearsAt_14 4 0 rfl) (qX11_clearsAt_14 5 64 rfl)
theorem dX11_clearsAt_230 : decode cX11_clearsAt 230 = .ok (.iload 6, 2) := @dq_o21 cX11_clearsAt 230 6 (qX11_clearsAt_14 6 21 rfl) (qX11_clearsAt_14 7 6 rfl)
theorem dX11_clearsAt_232 : decode cX11_clearsAt 232 = .ok (.aload_n 0, 1) := @dq_o42 cX11_clearsAt 232 (qX11_clearsAt_14 8 42 rfl)
theorem dX11_clearsAt_233 : decode cX11_clearsAt 233 = .ok (.getfield 64, 3) := @dq_o180 cX11_clearsAt 233 0 64 (qX11_clearsAt_14 9 180 rfl) (qX11_clearsAt_14 10 0 rfl) (qX11_clearsAt_14 11 64 rfl)
theorem dX11_clearsAt_236 : decode cX11_clearsAt 236 = .ok (.iload 6, 2) := @dq_o21 cX11_clearsAt 236 6 (qX11_clearsAt_14 12 21 rfl) (qX11_clearsAt_14 13 6 rfl)
theorem dX11_clearsAt_238 : decode cX11_clearsAt 238 = .ok (.laload, 1) := @dq_o47 cX11_clearsAt 238 (qX11_clearsAt_14 14 47 rfl)
theorem dX11_clearsAt_239 : decode cX11_clearsAt 239 = .ok (.lload 4, 2) := @dq_o22 cX11_clearsAt 239 4 (qX11_clearsAt_14 15 22 rfl) (qX11_clearsAt_15 0 4 rfl)
theorem dX11_clearsAt_241 : decode cX11_clearsAt 241 = .ok (.aload_n 0, 1) := @dq_o42 cX11_clearsAt 241 (qX11_clearsAt_15 1 42 rfl)
theorem dX11_clearsAt_242 : decode cX11_clearsAt 242 = .ok (.iload_n 1, 1) := @dq_o27 cX11_clearsAt 242 (qX11_clearsAt_15 2 27 rfl)
theorem dX11_clearsAt_243 : decode cX11_clearsAt 243 = .ok (.iload 6, 2) := @dq_o21 cX11_clearsAt 243 6 (qX11_clearsAt_15 3 21 rfl) (qX11_clearsAt_15 4 6 rfl)
theorem dX11_clearsAt_245 : decode cX11_clearsAt 245 = .ok (.invokevirtual 415, 3) := @dq_o182 cX11_clearsAt 245 1 159 (qX11_clearsAt_15 5 182 rfl) (qX11_clearsAt_15 6 1 rfl) (qX11_clearsAt_15 7 159 rfl)
theorem dX11_clearsAt_248 : decode cX11_clearsAt 248 = .ok (.lmul, 1) := @dq_o105 cX11_clearsAt 248 (qX11_clearsAt_15 8 105 rfl)
theorem dX11_clearsAt_249 : decode cX11_clearsAt 249 = .ok (.lsub, 1) := @dq_o101 cX11_clearsAt 249 (qX11_clearsAt_15 9 101 rfl)
theorem dX11_clearsAt_250 : decode cX11_clearsAt 250 = .ok (.lastore, 1) := @dq_o80 cX11_clearsAt 250 (qX11_clearsAt_15 10 80 rfl)
theorem dX11_clearsAt_251 : decode cX11_clearsAt 251 = .ok (.iinc 6 1, 3) := @dq_o132 cX11_clearsAt 251 6 1 (qX11_clearsAt_15 11 132 rfl) (qX11_clearsAt_15 12 6 rfl) (qX11_clearsAt_15 13 1 rfl)
theorem dX11_clearsAt_254 : decode cX11_clearsAt 254 = .ok (.goto (-35), 3) := @dq_o167 cX11_clearsAt 254 255 221 (qX11_clearsAt_15 14 167 rfl) (qX11_clearsAt_15 15 255 rfl) (qX11_clearsAt_16 0 221 rfl)
theorem dX11_clearsAt_257 : decode cX11_clearsAt 257 = .ok (.iconst 1, 1) := @dq_o4 cX11_clearsAt 257 (qX11_clearsAt_16 1 4 rfl)
theorem dX11_clearsAt_258 : decode cX11_clearsAt 258 = .ok (.ireturn, 1) := @dq_o172 cX11_clearsAt 258 (qX11_clearsAt_16 2 172 rfl)
abbrev qaX11_canMake_0 : List Nat := [42, 3, 181, 1, 174, 3, 60, 27, 16, 6, 162, 0, 45, 42, 3, 181]
abbrev qaX11_canMake_1 : List Nat := [1, 171, 42, 42, 180, 1, 174, 27, 182, 1, 177, 154, 0, 5, 3, 172]
abbrev qaX11_canMake_2 : List Nat := [42, 180, 1, 171, 153, 0, 13, 42, 42, 180, 1, 174, 4, 96, 181, 1]
abbrev qaX11_canMake_3 : List Nat := [174, 132, 1, 1, 167, 255, 211, 4, 172]
def qtX11_canMake_4 : List Nat := []
def qtX11_canMake_3 : List Nat := qaX11_canMake_3 ++ qtX11_canMake_4
def qtX11_canMake_2 : List Nat := qaX11_canMake_2 ++ qtX11_canMake_3
def qtX11_canMake_1 : List Nat := qaX11_canMake_1 ++ qtX11_canMake_2
def qtX11_canMake_0 : List Nat := qaX11_canMake_0 ++ qtX11_canMake_1
theorem qeX11_canMake : cX11_canMake.data.toList.map UInt8.toNat = qtX11_canMake_0 := by decide +kernel
theorem qsX11_canMake_0 : ∀ i, dqNth qtX11_canMake_0 (0 + i) = dqNth qtX11_canMake_0 i := fun i => by rw [Nat.zero_add]
theorem qsX11_canMake_1 : ∀ i, dqNth qtX11_canMake_0 (16 + i) = dqNth qtX11_canMake_1 i := dq_step qsX11_canMake_0 rfl rfl
theorem qsX11_canMake_2 : ∀ i, dqNth qtX11_canMake_0 (32 + i) = dqNth qtX11_canMake_2 i := dq_step qsX11_canMake_1 rfl rfl
theorem qsX11_canMake_3 : ∀ i, dqNth qtX11_canMake_0 (48 + i) = dqNth qtX11_canMake_3 i := dq_step qsX11_canMake_2 rfl rfl
theorem qX11_canMake_0 (i b : Nat) (h : dqNth qaX11_canMake_0 i = some b) : DqBy cX11_canMake (0 + i) b := dqBy_of qeX11_canMake ((qsX11_canMake_0 i).trans (dq_in h))
theorem qX11_canMake_1 (i b : Nat) (h : dqNth qaX11_canMake_1 i = some b) : DqBy cX11_canMake (16 + i) b := dqBy_of qeX11_canMake ((qsX11_canMake_1 i).trans (dq_in h))
theorem qX11_canMake_2 (i b : Nat) (h : dqNth qaX11_canMake_2 i = some b) : DqBy cX11_canMake (32 + i) b := dqBy_of qeX11_canMake ((qsX11_canMake_2 i).trans (dq_in h))
theorem qX11_canMake_3 (i b : Nat) (h : dqNth qaX11_canMake_3 i = some b) : DqBy cX11_canMake (48 + i) b := dqBy_of qeX11_canMake ((qsX11_canMake_3 i).trans (dq_in h))
theorem dX11_canMake_0 : decode cX11_canMake 0 = .ok (.aload_n 0, 1) := @dq_o42 cX11_canMake 0 (qX11_canMake_0 0 42 rfl)
theorem dX11_canMake_1 : decode cX11_canMake 1 = .ok (.iconst 0, 1) := @dq_o3 cX11_canMake 1 (qX11_canMake_0 1 3 rfl)
theorem dX11_canMake_2 : decode cX11_canMake 2 = .ok (.putfield 430, 3) := @dq_o181 cX11_canMake 2 1 174 (qX11_canMake_0 2 181 rfl) (qX11_canMake_0 3 1 rfl) (qX11_canMake_0 4 174 rfl)
theorem dX11_canMake_5 : decode cX11_canMake 5 = .ok (.iconst 0, 1) := @dq_o3 cX11_canMake 5 (qX11_canMake_0 5 3 rfl)
theorem dX11_canMake_6 : decode cX11_canMake 6 = .ok (.istore_n 1, 1) := @dq_o60 cX11_canMake 6 (qX11_canMake_0 6 60 rfl)
theorem dX11_canMake_7 : decode cX11_canMake 7 = .ok (.iload_n 1, 1) := @dq_o27 cX11_canMake 7 (qX11_canMake_0 7 27 rfl)
theorem dX11_canMake_8 : decode cX11_canMake 8 = .ok (.bipush 6, 2) := @dq_o16 cX11_canMake 8 6 (qX11_canMake_0 8 16 rfl) (qX11_canMake_0 9 6 rfl)
theorem dX11_canMake_10 : decode cX11_canMake 10 = .ok (.if_icmp .ge 45, 3) := @dq_o162 cX11_canMake 10 0 45 (qX11_canMake_0 10 162 rfl) (qX11_canMake_0 11 0 rfl) (qX11_canMake_0 12 45 rfl)
theorem dX11_canMake_13 : decode cX11_canMake 13 = .ok (.aload_n 0, 1) := @dq_o42 cX11_canMake 13 (qX11_canMake_0 13 42 rfl)
theorem dX11_canMake_14 : decode cX11_canMake 14 = .ok (.iconst 0, 1) := @dq_o3 cX11_canMake 14 (qX11_canMake_0 14 3 rfl)
theorem dX11_canMake_15 : decode cX11_canMake 15 = .ok (.putfield 427, 3) := @dq_o181 cX11_canMake 15 1 171 (qX11_canMake_0 15 181 rfl) (qX11_canMake_1 0 1 rfl) (qX11_canMake_1 1 171 rfl)
theorem dX11_canMake_18 : decode cX11_canMake 18 = .ok (.aload_n 0, 1) := @dq_o42 cX11_canMake 18 (qX11_canMake_1 2 42 rfl)
theorem dX11_canMake_19 : decode cX11_canMake 19 = .ok (.aload_n 0, 1) := @dq_o42 cX11_canMake 19 (qX11_canMake_1 3 42 rfl)
theorem dX11_canMake_20 : decode cX11_canMake 20 = .ok (.getfield 430, 3) := @dq_o180 cX11_canMake 20 1 174 (qX11_canMake_1 4 180 rfl) (qX11_canMake_1 5 1 rfl) (qX11_canMake_1 6 174 rfl)
theorem dX11_canMake_23 : decode cX11_canMake 23 = .ok (.iload_n 1, 1) := @dq_o27 cX11_canMake 23 (qX11_canMake_1 7 27 rfl)
theorem dX11_canMake_24 : decode cX11_canMake 24 = .ok (.invokevirtual 433, 3) := @dq_o182 cX11_canMake 24 1 177 (qX11_canMake_1 8 182 rfl) (qX11_canMake_1 9 1 rfl) (qX11_canMake_1 10 177 rfl)
theorem dX11_canMake_27 : decode cX11_canMake 27 = .ok (.ifCond .ne 5, 3) := @dq_o154 cX11_canMake 27 0 5 (qX11_canMake_1 11 154 rfl) (qX11_canMake_1 12 0 rfl) (qX11_canMake_1 13 5 rfl)
theorem dX11_canMake_30 : decode cX11_canMake 30 = .ok (.iconst 0, 1) := @dq_o3 cX11_canMake 30 (qX11_canMake_1 14 3 rfl)
theorem dX11_canMake_31 : decode cX11_canMake 31 = .ok (.ireturn, 1) := @dq_o172 cX11_canMake 31 (qX11_canMake_1 15 172 rfl)
theorem dX11_canMake_32 : decode cX11_canMake 32 = .ok (.aload_n 0, 1) := @dq_o42 cX11_canMake 32 (qX11_canMake_2 0 42 rfl)
theorem dX11_canMake_33 : decode cX11_canMake 33 = .ok (.getfield 427, 3) := @dq_o180 cX11_canMake 33 1 171 (qX11_canMake_2 1 180 rfl) (qX11_canMake_2 2 1 rfl) (qX11_canMake_2 3 171 rfl)
theorem dX11_canMake_36 : decode cX11_canMake 36 = .ok (.ifCond .eq 13, 3) := @dq_o153 cX11_canMake 36 0 13 (qX11_canMake_2 4 153 rfl) (qX11_canMake_2 5 0 rfl) (qX11_canMake_2 6 13 rfl)
theorem dX11_canMake_39 : decode cX11_canMake 39 = .ok (.aload_n 0, 1) := @dq_o42 cX11_canMake 39 (qX11_canMake_2 7 42 rfl)
theorem dX11_canMake_40 : decode cX11_canMake 40 = .ok (.aload_n 0, 1) := @dq_o42 cX11_canMake 40 (qX11_canMake_2 8 42 rfl)
theorem dX11_canMake_41 : decode cX11_canMake 41 = .ok (.getfield 430, 3) := @dq_o180 cX11_canMake 41 1 174 (qX11_canMake_2 9 180 rfl) (qX11_canMake_2 10 1 rfl) (qX11_canMake_2 11 174 rfl)
theorem dX11_canMake_44 : decode cX11_canMake 44 = .ok (.iconst 1, 1) := @dq_o4 cX11_canMake 44 (qX11_canMake_2 12 4 rfl)
theorem dX11_canMake_45 : decode cX11_canMake 45 = .ok (.iadd, 1) := @dq_o96 cX11_canMake 45 (qX11_canMake_2 13 96 rfl)
theorem dX11_canMake_46 : decode cX11_canMake 46 = .ok (.putfield 430, 3) := @dq_o181 cX11_canMake 46 1 174 (qX11_canMake_2 14 181 rfl) (qX11_canMake_2 15 1 rfl) (qX11_canMake_3 0 174 rfl)
theorem dX11_canMake_49 : decode cX11_canMake 49 = .ok (.iinc 1 1, 3) := @dq_o132 cX11_canMake 49 1 1 (qX11_canMake_3 1 132 rfl) (qX11_canMake_3 2 1 rfl) (qX11_canMake_3 3 1 rfl)
theorem dX11_canMake_52 : decode cX11_canMake 52 = .ok (.goto (-45), 3) := @dq_o167 cX11_canMake 52 255 211 (qX11_canMake_3 4 167 rfl) (qX11_canMake_3 5 255 rfl) (qX11_canMake_3 6 211 rfl)
theorem dX11_canMake_55 : decode cX11_canMake 55 = .ok (.iconst 1, 1) := @dq_o4 cX11_canMake 55 (qX11_canMake_3 7 4 rfl)
theorem dX11_canMake_56 : decode cX11_canMake 56 = .ok (.ireturn, 1) := @dq_o172 cX11_canMake 56 (qX11_canMake_3 8 172 rfl)
abbrev qaX11_adds_0 : List Nat := [42, 27, 28, 16, 50, 182, 0, 254, 3, 54, 4, 21, 4, 16, 18, 162]
abbrev qaX11_adds_1 : List Nat := [0, 25, 42, 180, 0, 61, 16, 18, 42, 180, 1, 127, 104, 21, 4, 96]
abbrev qaX11_adds_2 : List Nat := [9, 80, 132, 4, 1, 167, 255, 230, 3, 54, 4, 21, 4, 42, 182, 0]
abbrev qaX11_adds_3 : List Nat := [88, 162, 0, 42, 42, 21, 4, 182, 0, 92, 29, 160, 0, 26, 42, 180]
abbrev qaX11_adds_4 : List Nat := [0, 61, 16, 18, 42, 180, 1, 127, 104, 21, 4, 96, 42, 16, 50, 21]
abbrev qaX11_adds_5 : List Nat := [4, 182, 0, 166, 80, 132, 4, 1, 167, 255, 211, 3, 54, 4, 21, 4]
abbrev qaX11_adds_6 : List Nat := [42, 182, 0, 88, 162, 0, 34, 42, 180, 0, 61, 16, 18, 42, 180, 1]
abbrev qaX11_adds_7 : List Nat := [127, 104, 16, 12, 96, 21, 4, 96, 42, 28, 21, 4, 182, 0, 166, 80]
abbrev qaX11_adds_8 : List Nat := [132, 4, 1, 167, 255, 219, 42, 42, 180, 1, 127, 4, 96, 181, 1, 127]
abbrev qaX11_adds_9 : List Nat := [177]
def qtX11_adds_10 : List Nat := []
def qtX11_adds_9 : List Nat := qaX11_adds_9 ++ qtX11_adds_10
def qtX11_adds_8 : List Nat := qaX11_adds_8 ++ qtX11_adds_9
def qtX11_adds_7 : List Nat := qaX11_adds_7 ++ qtX11_adds_8
def qtX11_adds_6 : List Nat := qaX11_adds_6 ++ qtX11_adds_7
def qtX11_adds_5 : List Nat := qaX11_adds_5 ++ qtX11_adds_6
def qtX11_adds_4 : List Nat := qaX11_adds_4 ++ qtX11_adds_5
def qtX11_adds_3 : List Nat := qaX11_adds_3 ++ qtX11_adds_4
def qtX11_adds_2 : List Nat := qaX11_adds_2 ++ qtX11_adds_3
def qtX11_adds_1 : List Nat := qaX11_adds_1 ++ qtX11_adds_2
def qtX11_adds_0 : List Nat := qaX11_adds_0 ++ qtX11_adds_1
theorem qeX11_adds : cX11_adds.data.toList.map UInt8.toNat = qtX11_adds_0 := by decide +kernel
theorem qsX11_adds_0 : ∀ i, dqNth qtX11_adds_0 (0 + i) = dqNth qtX11_adds_0 i := fun i => by rw [Nat.zero_add]
theorem qsX11_adds_1 : ∀ i, dqNth qtX11_adds_0 (16 + i) = dqNth qtX11_adds_1 i := dq_step qsX11_adds_0 rfl rfl
theorem qsX11_adds_2 : ∀ i, dqNth qtX11_adds_0 (32 + i) = dqNth qtX11_adds_2 i := dq_step qsX11_adds_1 rfl rfl
theorem qsX11_adds_3 : ∀ i, dqNth qtX11_adds_0 (48 + i) = dqNth qtX11_adds_3 i := dq_step qsX11_adds_2 rfl rfl
theorem qsX11_adds_4 : ∀ i, dqNth qtX11_adds_0 (64 + i) = dqNth qtX11_adds_4 i := dq_step qsX11_adds_3 rfl rfl
theorem qsX11_adds_5 : ∀ i, dqNth qtX11_adds_0 (80 + i) = dqNth qtX11_adds_5 i := dq_step qsX11_adds_4 rfl rfl
theorem qsX11_adds_6 : ∀ i, dqNth qtX11_adds_0 (96 + i) = dqNth qtX11_adds_6 i := dq_step qsX11_adds_5 rfl rfl
theorem qsX11_adds_7 : ∀ i, dqNth qtX11_adds_0 (112 + i) = dqNth qtX11_adds_7 i := dq_step qsX11_adds_6 rfl rfl
theorem qsX11_adds_8 : ∀ i, dqNth qtX11_adds_0 (128 + i) = dqNth qtX11_adds_8 i := dq_step qsX11_adds_7 rfl rfl
theorem qsX11_adds_9 : ∀ i, dqNth qtX11_adds_0 (144 + i) = dqNth qtX11_adds_9 i := dq_step qsX11_adds_8 rfl rfl
theorem qX11_adds_0 (i b : Nat) (h : dqNth qaX11_adds_0 i = some b) : DqBy cX11_adds (0 + i) b := dqBy_of qeX11_adds ((qsX11_adds_0 i).trans (dq_in h))
theorem qX11_adds_1 (i b : Nat) (h : dqNth qaX11_adds_1 i = some b) : DqBy cX11_adds (16 + i) b := dqBy_of qeX11_adds ((qsX11_adds_1 i).trans (dq_in h))
theorem qX11_adds_2 (i b : Nat) (h : dqNth qaX11_adds_2 i = some b) : DqBy cX11_adds (32 + i) b := dqBy_of qeX11_adds ((qsX11_adds_2 i).trans (dq_in h))
theorem qX11_adds_3 (i b : Nat) (h : dqNth qaX11_adds_3 i = some b) : DqBy cX11_adds (48 + i) b := dqBy_of qeX11_adds ((qsX11_adds_3 i).trans (dq_in h))
theorem qX11_adds_4 (i b : Nat) (h : dqNth qaX11_adds_4 i = some b) : DqBy cX11_adds (64 + i) b := dqBy_of qeX11_adds ((qsX11_adds_4 i).trans (dq_in h))
theorem qX11_adds_5 (i b : Nat) (h : dqNth qaX11_adds_5 i = some b) : DqBy cX11_adds (80 + i) b := dqBy_of qeX11_adds ((qsX11_adds_5 i).trans (dq_in h))
theorem qX11_adds_6 (i b : Nat) (h : dqNth qaX11_adds_6 i = some b) : DqBy cX11_adds (96 + i) b := dqBy_of qeX11_adds ((qsX11_adds_6 i).trans (dq_in h))
theorem qX11_adds_7 (i b : Nat) (h : dqNth qaX11_adds_7 i = some b) : DqBy cX11_adds (112 + i) b := dqBy_of qeX11_adds ((qsX11_adds_7 i).trans (dq_in h))
theorem qX11_adds_8 (i b : Nat) (h : dqNth qaX11_adds_8 i = some b) : DqBy cX11_adds (128 + i) b := dqBy_of qeX11_adds ((qsX11_adds_8 i).trans (dq_in h))
theorem qX11_adds_9 (i b : Nat) (h : dqNth qaX11_adds_9 i = some b) : DqBy cX11_adds (144 + i) b := dqBy_of qeX11_adds ((qsX11_adds_9 i).trans (dq_in h))
theorem dX11_adds_0 : decode cX11_adds 0 = .ok (.aload_n 0, 1) := @dq_o42 cX11_adds 0 (qX11_adds_0 0 42 rfl)
theorem dX11_adds_1 : decode cX11_adds 1 = .ok (.iload_n 1, 1) := @dq_o27 cX11_adds 1 (qX11_adds_0 1 27 rfl)
theorem dX11_adds_2 : decode cX11_adds 2 = .ok (.iload_n 2, 1) := @dq_o28 cX11_adds 2 (qX11_adds_0 2 28 rfl)
theorem dX11_adds_3 : decode cX11_adds 3 = .ok (.bipush 50, 2) := @dq_o16 cX11_adds 3 50 (qX11_adds_0 3 16 rfl) (qX11_adds_0 4 50 rfl)
theorem dX11_adds_5 : decode cX11_adds 5 = .ok (.invokevirtual 254, 3) := @dq_o182 cX11_adds 5 0 254 (qX11_adds_0 5 182 rfl) (qX11_adds_0 6 0 rfl) (qX11_adds_0 7 254 rfl)
theorem dX11_adds_8 : decode cX11_adds 8 = .ok (.iconst 0, 1) := @dq_o3 cX11_adds 8 (qX11_adds_0 8 3 rfl)
theorem dX11_adds_9 : decode cX11_adds 9 = .ok (.istore 4, 2) := @dq_o54 cX11_adds 9 4 (qX11_adds_0 9 54 rfl) (qX11_adds_0 10 4 rfl)
theorem dX11_adds_11 : decode cX11_adds 11 = .ok (.iload 4, 2) := @dq_o21 cX11_adds 11 4 (qX11_adds_0 11 21 rfl) (qX11_adds_0 12 4 rfl)
theorem dX11_adds_13 : decode cX11_adds 13 = .ok (.bipush 18, 2) := @dq_o16 cX11_adds 13 18 (qX11_adds_0 13 16 rfl) (qX11_adds_0 14 18 rfl)
theorem dX11_adds_15 : decode cX11_adds 15 = .ok (.if_icmp .ge 25, 3) := @dq_o162 cX11_adds 15 0 25 (qX11_adds_0 15 162 rfl) (qX11_adds_1 0 0 rfl) (qX11_adds_1 1 25 rfl)
theorem dX11_adds_18 : decode cX11_adds 18 = .ok (.aload_n 0, 1) := @dq_o42 cX11_adds 18 (qX11_adds_1 2 42 rfl)
theorem dX11_adds_19 : decode cX11_adds 19 = .ok (.getfield 61, 3) := @dq_o180 cX11_adds 19 0 61 (qX11_adds_1 3 180 rfl) (qX11_adds_1 4 0 rfl) (qX11_adds_1 5 61 rfl)
theorem dX11_adds_22 : decode cX11_adds 22 = .ok (.bipush 18, 2) := @dq_o16 cX11_adds 22 18 (qX11_adds_1 6 16 rfl) (qX11_adds_1 7 18 rfl)
theorem dX11_adds_24 : decode cX11_adds 24 = .ok (.aload_n 0, 1) := @dq_o42 cX11_adds 24 (qX11_adds_1 8 42 rfl)
theorem dX11_adds_25 : decode cX11_adds 25 = .ok (.getfield 383, 3) := @dq_o180 cX11_adds 25 1 127 (qX11_adds_1 9 180 rfl) (qX11_adds_1 10 1 rfl) (qX11_adds_1 11 127 rfl)
theorem dX11_adds_28 : decode cX11_adds 28 = .ok (.imul, 1) := @dq_o104 cX11_adds 28 (qX11_adds_1 12 104 rfl)
theorem dX11_adds_29 : decode cX11_adds 29 = .ok (.iload 4, 2) := @dq_o21 cX11_adds 29 4 (qX11_adds_1 13 21 rfl) (qX11_adds_1 14 4 rfl)
theorem dX11_adds_31 : decode cX11_adds 31 = .ok (.iadd, 1) := @dq_o96 cX11_adds 31 (qX11_adds_1 15 96 rfl)
theorem dX11_adds_32 : decode cX11_adds 32 = .ok (.lconst 0, 1) := @dq_o9 cX11_adds 32 (qX11_adds_2 0 9 rfl)
theorem dX11_adds_33 : decode cX11_adds 33 = .ok (.lastore, 1) := @dq_o80 cX11_adds 33 (qX11_adds_2 1 80 rfl)
theorem dX11_adds_34 : decode cX11_adds 34 = .ok (.iinc 4 1, 3) := @dq_o132 cX11_adds 34 4 1 (qX11_adds_2 2 132 rfl) (qX11_adds_2 3 4 rfl) (qX11_adds_2 4 1 rfl)
theorem dX11_adds_37 : decode cX11_adds 37 = .ok (.goto (-26), 3) := @dq_o167 cX11_adds 37 255 230 (qX11_adds_2 5 167 rfl) (qX11_adds_2 6 255 rfl) (qX11_adds_2 7 230 rfl)
theorem dX11_adds_40 : decode cX11_adds 40 = .ok (.iconst 0, 1) := @dq_o3 cX11_adds 40 (qX11_adds_2 8 3 rfl)
theorem dX11_adds_41 : decode cX11_adds 41 = .ok (.istore 4, 2) := @dq_o54 cX11_adds 41 4 (qX11_adds_2 9 54 rfl) (qX11_adds_2 10 4 rfl)
theorem dX11_adds_43 : decode cX11_adds 43 = .ok (.iload 4, 2) := @dq_o21 cX11_adds 43 4 (qX11_adds_2 11 21 rfl) (qX11_adds_2 12 4 rfl)
theorem dX11_adds_45 : decode cX11_adds 45 = .ok (.aload_n 0, 1) := @dq_o42 cX11_adds 45 (qX11_adds_2 13 42 rfl)
theorem dX11_adds_46 : decode cX11_adds 46 = .ok (.invokevirtual 88, 3) := @dq_o182 cX11_adds 46 0 88 (qX11_adds_2 14 182 rfl) (qX11_adds_2 15 0 rfl) (qX11_adds_3 0 88 rfl)
theorem dX11_adds_49 : decode cX11_adds 49 = .ok (.if_icmp .ge 42, 3) := @dq_o162 cX11_adds 49 0 42 (qX11_adds_3 1 162 rfl) (qX11_adds_3 2 0 rfl) (qX11_adds_3 3 42 rfl)
theorem dX11_adds_52 : decode cX11_adds 52 = .ok (.aload_n 0, 1) := @dq_o42 cX11_adds 52 (qX11_adds_3 4 42 rfl)
theorem dX11_adds_53 : decode cX11_adds 53 = .ok (.iload 4, 2) := @dq_o21 cX11_adds 53 4 (qX11_adds_3 5 21 rfl) (qX11_adds_3 6 4 rfl)
theorem dX11_adds_55 : decode cX11_adds 55 = .ok (.invokevirtual 92, 3) := @dq_o182 cX11_adds 55 0 92 (qX11_adds_3 7 182 rfl) (qX11_adds_3 8 0 rfl) (qX11_adds_3 9 92 rfl)
theorem dX11_adds_58 : decode cX11_adds 58 = .ok (.iload_n 3, 1) := @dq_o29 cX11_adds 58 (qX11_adds_3 10 29 rfl)
theorem dX11_adds_59 : decode cX11_adds 59 = .ok (.if_icmp .ne 26, 3) := @dq_o160 cX11_adds 59 0 26 (qX11_adds_3 11 160 rfl) (qX11_adds_3 12 0 rfl) (qX11_adds_3 13 26 rfl)
theorem dX11_adds_62 : decode cX11_adds 62 = .ok (.aload_n 0, 1) := @dq_o42 cX11_adds 62 (qX11_adds_3 14 42 rfl)
theorem dX11_adds_63 : decode cX11_adds 63 = .ok (.getfield 61, 3) := @dq_o180 cX11_adds 63 0 61 (qX11_adds_3 15 180 rfl) (qX11_adds_4 0 0 rfl) (qX11_adds_4 1 61 rfl)
theorem dX11_adds_66 : decode cX11_adds 66 = .ok (.bipush 18, 2) := @dq_o16 cX11_adds 66 18 (qX11_adds_4 2 16 rfl) (qX11_adds_4 3 18 rfl)
theorem dX11_adds_68 : decode cX11_adds 68 = .ok (.aload_n 0, 1) := @dq_o42 cX11_adds 68 (qX11_adds_4 4 42 rfl)
theorem dX11_adds_69 : decode cX11_adds 69 = .ok (.getfield 383, 3) := @dq_o180 cX11_adds 69 1 127 (qX11_adds_4 5 180 rfl) (qX11_adds_4 6 1 rfl) (qX11_adds_4 7 127 rfl)
theorem dX11_adds_72 : decode cX11_adds 72 = .ok (.imul, 1) := @dq_o104 cX11_adds 72 (qX11_adds_4 8 104 rfl)
theorem dX11_adds_73 : decode cX11_adds 73 = .ok (.iload 4, 2) := @dq_o21 cX11_adds 73 4 (qX11_adds_4 9 21 rfl) (qX11_adds_4 10 4 rfl)
theorem dX11_adds_75 : decode cX11_adds 75 = .ok (.iadd, 1) := @dq_o96 cX11_adds 75 (qX11_adds_4 11 96 rfl)
theorem dX11_adds_76 : decode cX11_adds 76 = .ok (.aload_n 0, 1) := @dq_o42 cX11_adds 76 (qX11_adds_4 12 42 rfl)
theorem dX11_adds_77 : decode cX11_adds 77 = .ok (.bipush 50, 2) := @dq_o16 cX11_adds 77 50 (qX11_adds_4 13 16 rfl) (qX11_adds_4 14 50 rfl)
theorem dX11_adds_79 : decode cX11_adds 79 = .ok (.iload 4, 2) := @dq_o21 cX11_adds 79 4 (qX11_adds_4 15 21 rfl) (qX11_adds_5 0 4 rfl)
theorem dX11_adds_81 : decode cX11_adds 81 = .ok (.invokevirtual 166, 3) := @dq_o182 cX11_adds 81 0 166 (qX11_adds_5 1 182 rfl) (qX11_adds_5 2 0 rfl) (qX11_adds_5 3 166 rfl)
theorem dX11_adds_84 : decode cX11_adds 84 = .ok (.lastore, 1) := @dq_o80 cX11_adds 84 (qX11_adds_5 4 80 rfl)
theorem dX11_adds_85 : decode cX11_adds 85 = .ok (.iinc 4 1, 3) := @dq_o132 cX11_adds 85 4 1 (qX11_adds_5 5 132 rfl) (qX11_adds_5 6 4 rfl) (qX11_adds_5 7 1 rfl)
theorem dX11_adds_88 : decode cX11_adds 88 = .ok (.goto (-45), 3) := @dq_o167 cX11_adds 88 255 211 (qX11_adds_5 8 167 rfl) (qX11_adds_5 9 255 rfl) (qX11_adds_5 10 211 rfl)
theorem dX11_adds_91 : decode cX11_adds 91 = .ok (.iconst 0, 1) := @dq_o3 cX11_adds 91 (qX11_adds_5 11 3 rfl)
theorem dX11_adds_92 : decode cX11_adds 92 = .ok (.istore 4, 2) := @dq_o54 cX11_adds 92 4 (qX11_adds_5 12 54 rfl) (qX11_adds_5 13 4 rfl)
theorem dX11_adds_94 : decode cX11_adds 94 = .ok (.iload 4, 2) := @dq_o21 cX11_adds 94 4 (qX11_adds_5 14 21 rfl) (qX11_adds_5 15 4 rfl)
theorem dX11_adds_96 : decode cX11_adds 96 = .ok (.aload_n 0, 1) := @dq_o42 cX11_adds 96 (qX11_adds_6 0 42 rfl)
theorem dX11_adds_97 : decode cX11_adds 97 = .ok (.invokevirtual 88, 3) := @dq_o182 cX11_adds 97 0 88 (qX11_adds_6 1 182 rfl) (qX11_adds_6 2 0 rfl) (qX11_adds_6 3 88 rfl)
theorem dX11_adds_100 : decode cX11_adds 100 = .ok (.if_icmp .ge 34, 3) := @dq_o162 cX11_adds 100 0 34 (qX11_adds_6 4 162 rfl) (qX11_adds_6 5 0 rfl) (qX11_adds_6 6 34 rfl)
theorem dX11_adds_103 : decode cX11_adds 103 = .ok (.aload_n 0, 1) := @dq_o42 cX11_adds 103 (qX11_adds_6 7 42 rfl)
theorem dX11_adds_104 : decode cX11_adds 104 = .ok (.getfield 61, 3) := @dq_o180 cX11_adds 104 0 61 (qX11_adds_6 8 180 rfl) (qX11_adds_6 9 0 rfl) (qX11_adds_6 10 61 rfl)
theorem dX11_adds_107 : decode cX11_adds 107 = .ok (.bipush 18, 2) := @dq_o16 cX11_adds 107 18 (qX11_adds_6 11 16 rfl) (qX11_adds_6 12 18 rfl)
theorem dX11_adds_109 : decode cX11_adds 109 = .ok (.aload_n 0, 1) := @dq_o42 cX11_adds 109 (qX11_adds_6 13 42 rfl)
theorem dX11_adds_110 : decode cX11_adds 110 = .ok (.getfield 383, 3) := @dq_o180 cX11_adds 110 1 127 (qX11_adds_6 14 180 rfl) (qX11_adds_6 15 1 rfl) (qX11_adds_7 0 127 rfl)
theorem dX11_adds_113 : decode cX11_adds 113 = .ok (.imul, 1) := @dq_o104 cX11_adds 113 (qX11_adds_7 1 104 rfl)
theorem dX11_adds_114 : decode cX11_adds 114 = .ok (.bipush 12, 2) := @dq_o16 cX11_adds 114 12 (qX11_adds_7 2 16 rfl) (qX11_adds_7 3 12 rfl)
theorem dX11_adds_116 : decode cX11_adds 116 = .ok (.iadd, 1) := @dq_o96 cX11_adds 116 (qX11_adds_7 4 96 rfl)
theorem dX11_adds_117 : decode cX11_adds 117 = .ok (.iload 4, 2) := @dq_o21 cX11_adds 117 4 (qX11_adds_7 5 21 rfl) (qX11_adds_7 6 4 rfl)
theorem dX11_adds_119 : decode cX11_adds 119 = .ok (.iadd, 1) := @dq_o96 cX11_adds 119 (qX11_adds_7 7 96 rfl)
theorem dX11_adds_120 : decode cX11_adds 120 = .ok (.aload_n 0, 1) := @dq_o42 cX11_adds 120 (qX11_adds_7 8 42 rfl)
theorem dX11_adds_121 : decode cX11_adds 121 = .ok (.iload_n 2, 1) := @dq_o28 cX11_adds 121 (qX11_adds_7 9 28 rfl)
theorem dX11_adds_122 : decode cX11_adds 122 = .ok (.iload 4, 2) := @dq_o21 cX11_adds 122 4 (qX11_adds_7 10 21 rfl) (qX11_adds_7 11 4 rfl)
theorem dX11_adds_124 : decode cX11_adds 124 = .ok (.invokevirtual 166, 3) := @dq_o182 cX11_adds 124 0 166 (qX11_adds_7 12 182 rfl) (qX11_adds_7 13 0 rfl) (qX11_adds_7 14 166 rfl)
theorem dX11_adds_127 : decode cX11_adds 127 = .ok (.lastore, 1) := @dq_o80 cX11_adds 127 (qX11_adds_7 15 80 rfl)
theorem dX11_adds_128 : decode cX11_adds 128 = .ok (.iinc 4 1, 3) := @dq_o132 cX11_adds 128 4 1 (qX11_adds_8 0 132 rfl) (qX11_adds_8 1 4 rfl) (qX11_adds_8 2 1 rfl)
theorem dX11_adds_131 : decode cX11_adds 131 = .ok (.goto (-37), 3) := @dq_o167 cX11_adds 131 255 219 (qX11_adds_8 3 167 rfl) (qX11_adds_8 4 255 rfl) (qX11_adds_8 5 219 rfl)
theorem dX11_adds_134 : decode cX11_adds 134 = .ok (.aload_n 0, 1) := @dq_o42 cX11_adds 134 (qX11_adds_8 6 42 rfl)
theorem dX11_adds_135 : decode cX11_adds 135 = .ok (.aload_n 0, 1) := @dq_o42 cX11_adds 135 (qX11_adds_8 7 42 rfl)
theorem dX11_adds_136 : decode cX11_adds 136 = .ok (.getfield 383, 3) := @dq_o180 cX11_adds 136 1 127 (qX11_adds_8 8 180 rfl) (qX11_adds_8 9 1 rfl) (qX11_adds_8 10 127 rfl)
theorem dX11_adds_139 : decode cX11_adds 139 = .ok (.iconst 1, 1) := @dq_o4 cX11_adds 139 (qX11_adds_8 11 4 rfl)
theorem dX11_adds_140 : decode cX11_adds 140 = .ok (.iadd, 1) := @dq_o96 cX11_adds 140 (qX11_adds_8 12 96 rfl)
theorem dX11_adds_141 : decode cX11_adds 141 = .ok (.putfield 383, 3) := @dq_o181 cX11_adds 141 1 127 (qX11_adds_8 13 181 rfl) (qX11_adds_8 14 1 rfl) (qX11_adds_8 15 127 rfl)
theorem dX11_adds_144 : decode cX11_adds 144 = .ok (.return_, 1) := @dq_o177 cX11_adds 144 (qX11_adds_9 0 177 rfl)
abbrev qaX11_letterAt_0 : List Nat := [42, 27, 182, 0, 190, 42, 27, 28, 33, 182, 0, 162, 177]
def qtX11_letterAt_1 : List Nat := []
def qtX11_letterAt_0 : List Nat := qaX11_letterAt_0 ++ qtX11_letterAt_1
theorem qeX11_letterAt : cX11_letterAt.data.toList.map UInt8.toNat = qtX11_letterAt_0 := by decide +kernel
theorem qsX11_letterAt_0 : ∀ i, dqNth qtX11_letterAt_0 (0 + i) = dqNth qtX11_letterAt_0 i := fun i => by rw [Nat.zero_add]
theorem qX11_letterAt_0 (i b : Nat) (h : dqNth qaX11_letterAt_0 i = some b) : DqBy cX11_letterAt (0 + i) b := dqBy_of qeX11_letterAt ((qsX11_letterAt_0 i).trans (dq_in h))
theorem dX11_letterAt_0 : decode cX11_letterAt 0 = .ok (.aload_n 0, 1) := @dq_o42 cX11_letterAt 0 (qX11_letterAt_0 0 42 rfl)
theorem dX11_letterAt_1 : decode cX11_letterAt 1 = .ok (.iload_n 1, 1) := @dq_o27 cX11_letterAt 1 (qX11_letterAt_0 1 27 rfl)
theorem dX11_letterAt_2 : decode cX11_letterAt 2 = .ok (.invokevirtual 190, 3) := @dq_o182 cX11_letterAt 2 0 190 (qX11_letterAt_0 2 182 rfl) (qX11_letterAt_0 3 0 rfl) (qX11_letterAt_0 4 190 rfl)
theorem dX11_letterAt_5 : decode cX11_letterAt 5 = .ok (.aload_n 0, 1) := @dq_o42 cX11_letterAt 5 (qX11_letterAt_0 5 42 rfl)
theorem dX11_letterAt_6 : decode cX11_letterAt 6 = .ok (.iload_n 1, 1) := @dq_o27 cX11_letterAt 6 (qX11_letterAt_0 6 27 rfl)
theorem dX11_letterAt_7 : decode cX11_letterAt 7 = .ok (.iload_n 2, 1) := @dq_o28 cX11_letterAt 7 (qX11_letterAt_0 7 28 rfl)
theorem dX11_letterAt_8 : decode cX11_letterAt 8 = .ok (.lload_n 3, 1) := @dq_o33 cX11_letterAt 8 (qX11_letterAt_0 8 33 rfl)
theorem dX11_letterAt_9 : decode cX11_letterAt 9 = .ok (.invokevirtual 162, 3) := @dq_o182 cX11_letterAt 9 0 162 (qX11_letterAt_0 9 182 rfl) (qX11_letterAt_0 10 0 rfl) (qX11_letterAt_0 11 162 rfl)
theorem dX11_letterAt_12 : decode cX11_letterAt 12 = .ok (.return_, 1) := @dq_o177 cX11_letterAt 12 (qX11_letterAt_0 12 177 rfl)
abbrev qaX11_areAlikeUpTo_0 : List Nat := [3, 54, 4, 21, 4, 42, 182, 0, 88, 162, 0, 39, 42, 21, 4, 182]
abbrev qaX11_areAlikeUpTo_1 : List Nat := [0, 92, 27, 163, 0, 23, 42, 28, 21, 4, 182, 0, 166, 42, 29, 21]
abbrev qaX11_areAlikeUpTo_2 : List Nat := [4, 182, 0, 166, 148, 153, 0, 5, 3, 172, 132, 4, 1, 167, 255, 214]
abbrev qaX11_areAlikeUpTo_3 : List Nat := [4, 172]
def qtX11_areAlikeUpTo_4 : List Nat := []
def qtX11_areAlikeUpTo_3 : List Nat := qaX11_areAlikeUpTo_3 ++ qtX11_areAlikeUpTo_4
def qtX11_areAlikeUpTo_2 : List Nat := qaX11_areAlikeUpTo_2 ++ qtX11_areAlikeUpTo_3
def qtX11_areAlikeUpTo_1 : List Nat := qaX11_areAlikeUpTo_1 ++ qtX11_areAlikeUpTo_2
def qtX11_areAlikeUpTo_0 : List Nat := qaX11_areAlikeUpTo_0 ++ qtX11_areAlikeUpTo_1
theorem qeX11_areAlikeUpTo : cX11_areAlikeUpTo.data.toList.map UInt8.toNat = qtX11_areAlikeUpTo_0 := by decide +kernel
theorem qsX11_areAlikeUpTo_0 : ∀ i, dqNth qtX11_areAlikeUpTo_0 (0 + i) = dqNth qtX11_areAlikeUpTo_0 i := fun i => by rw [Nat.zero_add]
theorem qsX11_areAlikeUpTo_1 : ∀ i, dqNth qtX11_areAlikeUpTo_0 (16 + i) = dqNth qtX11_areAlikeUpTo_1 i := dq_step qsX11_areAlikeUpTo_0 rfl rfl
theorem qsX11_areAlikeUpTo_2 : ∀ i, dqNth qtX11_areAlikeUpTo_0 (32 + i) = dqNth qtX11_areAlikeUpTo_2 i := dq_step qsX11_areAlikeUpTo_1 rfl rfl
theorem qsX11_areAlikeUpTo_3 : ∀ i, dqNth qtX11_areAlikeUpTo_0 (48 + i) = dqNth qtX11_areAlikeUpTo_3 i := dq_step qsX11_areAlikeUpTo_2 rfl rfl
theorem qX11_areAlikeUpTo_0 (i b : Nat) (h : dqNth qaX11_areAlikeUpTo_0 i = some b) : DqBy cX11_areAlikeUpTo (0 + i) b := dqBy_of qeX11_areAlikeUpTo ((qsX11_areAlikeUpTo_0 i).trans (dq_in h))
theorem qX11_areAlikeUpTo_1 (i b : Nat) (h : dqNth qaX11_areAlikeUpTo_1 i = some b) : DqBy cX11_areAlikeUpTo (16 + i) b := dqBy_of qeX11_areAlikeUpTo ((qsX11_areAlikeUpTo_1 i).trans (dq_in h))
theorem qX11_areAlikeUpTo_2 (i b : Nat) (h : dqNth qaX11_areAlikeUpTo_2 i = some b) : DqBy cX11_areAlikeUpTo (32 + i) b := dqBy_of qeX11_areAlikeUpTo ((qsX11_areAlikeUpTo_2 i).trans (dq_in h))
theorem qX11_areAlikeUpTo_3 (i b : Nat) (h : dqNth qaX11_areAlikeUpTo_3 i = some b) : DqBy cX11_areAlikeUpTo (48 + i) b := dqBy_of qeX11_areAlikeUpTo ((qsX11_areAlikeUpTo_3 i).trans (dq_in h))
theorem dX11_areAlikeUpTo_0 : decode cX11_areAlikeUpTo 0 = .ok (.iconst 0, 1) := @dq_o3 cX11_areAlikeUpTo 0 (qX11_areAlikeUpTo_0 0 3 rfl)
theorem dX11_areAlikeUpTo_1 : decode cX11_areAlikeUpTo 1 = .ok (.istore 4, 2) := @dq_o54 cX11_areAlikeUpTo 1 4 (qX11_areAlikeUpTo_0 1 54 rfl) (qX11_areAlikeUpTo_0 2 4 rfl)
theorem dX11_areAlikeUpTo_3 : decode cX11_areAlikeUpTo 3 = .ok (.iload 4, 2) := @dq_o21 cX11_areAlikeUpTo 3 4 (qX11_areAlikeUpTo_0 3 21 rfl) (qX11_areAlikeUpTo_0 4 4 rfl)
theorem dX11_areAlikeUpTo_5 : decode cX11_areAlikeUpTo 5 = .ok (.aload_n 0, 1) := @dq_o42 cX11_areAlikeUpTo 5 (qX11_areAlikeUpTo_0 5 42 rfl)
theorem dX11_areAlikeUpTo_6 : decode cX11_areAlikeUpTo 6 = .ok (.invokevirtual 88, 3) := @dq_o182 cX11_areAlikeUpTo 6 0 88 (qX11_areAlikeUpTo_0 6 182 rfl) (qX11_areAlikeUpTo_0 7 0 rfl) (qX11_areAlikeUpTo_0 8 88 rfl)
theorem dX11_areAlikeUpTo_9 : decode cX11_areAlikeUpTo 9 = .ok (.if_icmp .ge 39, 3) := @dq_o162 cX11_areAlikeUpTo 9 0 39 (qX11_areAlikeUpTo_0 9 162 rfl) (qX11_areAlikeUpTo_0 10 0 rfl) (qX11_areAlikeUpTo_0 11 39 rfl)
theorem dX11_areAlikeUpTo_12 : decode cX11_areAlikeUpTo 12 = .ok (.aload_n 0, 1) := @dq_o42 cX11_areAlikeUpTo 12 (qX11_areAlikeUpTo_0 12 42 rfl)
theorem dX11_areAlikeUpTo_13 : decode cX11_areAlikeUpTo 13 = .ok (.iload 4, 2) := @dq_o21 cX11_areAlikeUpTo 13 4 (qX11_areAlikeUpTo_0 13 21 rfl) (qX11_areAlikeUpTo_0 14 4 rfl)
theorem dX11_areAlikeUpTo_15 : decode cX11_areAlikeUpTo 15 = .ok (.invokevirtual 92, 3) := @dq_o182 cX11_areAlikeUpTo 15 0 92 (qX11_areAlikeUpTo_0 15 182 rfl) (qX11_areAlikeUpTo_1 0 0 rfl) (qX11_areAlikeUpTo_1 1 92 rfl)
theorem dX11_areAlikeUpTo_18 : decode cX11_areAlikeUpTo 18 = .ok (.iload_n 1, 1) := @dq_o27 cX11_areAlikeUpTo 18 (qX11_areAlikeUpTo_1 2 27 rfl)
theorem dX11_areAlikeUpTo_19 : decode cX11_areAlikeUpTo 19 = .ok (.if_icmp .gt 23, 3) := @dq_o163 cX11_areAlikeUpTo 19 0 23 (qX11_areAlikeUpTo_1 3 163 rfl) (qX11_areAlikeUpTo_1 4 0 rfl) (qX11_areAlikeUpTo_1 5 23 rfl)
theorem dX11_areAlikeUpTo_22 : decode cX11_areAlikeUpTo 22 = .ok (.aload_n 0, 1) := @dq_o42 cX11_areAlikeUpTo 22 (qX11_areAlikeUpTo_1 6 42 rfl)
theorem dX11_areAlikeUpTo_23 : decode cX11_areAlikeUpTo 23 = .ok (.iload_n 2, 1) := @dq_o28 cX11_areAlikeUpTo 23 (qX11_areAlikeUpTo_1 7 28 rfl)
theorem dX11_areAlikeUpTo_24 : decode cX11_areAlikeUpTo 24 = .ok (.iload 4, 2) := @dq_o21 cX11_areAlikeUpTo 24 4 (qX11_areAlikeUpTo_1 8 21 rfl) (qX11_areAlikeUpTo_1 9 4 rfl)
theorem dX11_areAlikeUpTo_26 : decode cX11_areAlikeUpTo 26 = .ok (.invokevirtual 166, 3) := @dq_o182 cX11_areAlikeUpTo 26 0 166 (qX11_areAlikeUpTo_1 10 182 rfl) (qX11_areAlikeUpTo_1 11 0 rfl) (qX11_areAlikeUpTo_1 12 166 rfl)
theorem dX11_areAlikeUpTo_29 : decode cX11_areAlikeUpTo 29 = .ok (.aload_n 0, 1) := @dq_o42 cX11_areAlikeUpTo 29 (qX11_areAlikeUpTo_1 13 42 rfl)
theorem dX11_areAlikeUpTo_30 : decode cX11_areAlikeUpTo 30 = .ok (.iload_n 3, 1) := @dq_o29 cX11_areAlikeUpTo 30 (qX11_areAlikeUpTo_1 14 29 rfl)
theorem dX11_areAlikeUpTo_31 : decode cX11_areAlikeUpTo 31 = .ok (.iload 4, 2) := @dq_o21 cX11_areAlikeUpTo 31 4 (qX11_areAlikeUpTo_1 15 21 rfl) (qX11_areAlikeUpTo_2 0 4 rfl)
theorem dX11_areAlikeUpTo_33 : decode cX11_areAlikeUpTo 33 = .ok (.invokevirtual 166, 3) := @dq_o182 cX11_areAlikeUpTo 33 0 166 (qX11_areAlikeUpTo_2 1 182 rfl) (qX11_areAlikeUpTo_2 2 0 rfl) (qX11_areAlikeUpTo_2 3 166 rfl)
theorem dX11_areAlikeUpTo_36 : decode cX11_areAlikeUpTo 36 = .ok (.lcmp, 1) := @dq_o148 cX11_areAlikeUpTo 36 (qX11_areAlikeUpTo_2 4 148 rfl)
theorem dX11_areAlikeUpTo_37 : decode cX11_areAlikeUpTo 37 = .ok (.ifCond .eq 5, 3) := @dq_o153 cX11_areAlikeUpTo 37 0 5 (qX11_areAlikeUpTo_2 5 153 rfl) (qX11_areAlikeUpTo_2 6 0 rfl) (qX11_areAlikeUpTo_2 7 5 rfl)
theorem dX11_areAlikeUpTo_40 : decode cX11_areAlikeUpTo 40 = .ok (.iconst 0, 1) := @dq_o3 cX11_areAlikeUpTo 40 (qX11_areAlikeUpTo_2 8 3 rfl)
theorem dX11_areAlikeUpTo_41 : decode cX11_areAlikeUpTo 41 = .ok (.ireturn, 1) := @dq_o172 cX11_areAlikeUpTo 41 (qX11_areAlikeUpTo_2 9 172 rfl)
theorem dX11_areAlikeUpTo_42 : decode cX11_areAlikeUpTo 42 = .ok (.iinc 4 1, 3) := @dq_o132 cX11_areAlikeUpTo 42 4 1 (qX11_areAlikeUpTo_2 10 132 rfl) (qX11_areAlikeUpTo_2 11 4 rfl) (qX11_areAlikeUpTo_2 12 1 rfl)
theorem dX11_areAlikeUpTo_45 : decode cX11_areAlikeUpTo 45 = .ok (.goto (-42), 3) := @dq_o167 cX11_areAlikeUpTo 45 255 214 (qX11_areAlikeUpTo_2 13 167 rfl) (qX11_areAlikeUpTo_2 14 255 rfl) (qX11_areAlikeUpTo_2 15 214 rfl)
theorem dX11_areAlikeUpTo_48 : decode cX11_areAlikeUpTo 48 = .ok (.iconst 1, 1) := @dq_o4 cX11_areAlikeUpTo 48 (qX11_areAlikeUpTo_3 0 4 rfl)
theorem dX11_areAlikeUpTo_49 : decode cX11_areAlikeUpTo 49 = .ok (.ireturn, 1) := @dq_o172 cX11_areAlikeUpTo 49 (qX11_areAlikeUpTo_3 1 172 rfl)
abbrev qaX11_laysDue_0 : List Nat := [3, 54, 4, 21, 4, 16, 18, 162, 0, 17, 42, 180, 0, 64, 21, 4]
abbrev qaX11_laysDue_1 : List Nat := [9, 80, 132, 4, 1, 167, 255, 238, 3, 54, 4, 21, 4, 42, 182, 0]
abbrev qaX11_laysDue_2 : List Nat := [88, 162, 0, 41, 42, 21, 4, 182, 0, 92, 29, 160, 0, 25, 42, 180]
abbrev qaX11_laysDue_3 : List Nat := [0, 64, 21, 4, 42, 28, 21, 4, 182, 0, 166, 42, 27, 21, 4, 182]
abbrev qaX11_laysDue_4 : List Nat := [0, 166, 101, 80, 132, 4, 1, 167, 255, 212, 177]
def qtX11_laysDue_5 : List Nat := []
def qtX11_laysDue_4 : List Nat := qaX11_laysDue_4 ++ qtX11_laysDue_5
def qtX11_laysDue_3 : List Nat := qaX11_laysDue_3 ++ qtX11_laysDue_4
def qtX11_laysDue_2 : List Nat := qaX11_laysDue_2 ++ qtX11_laysDue_3
def qtX11_laysDue_1 : List Nat := qaX11_laysDue_1 ++ qtX11_laysDue_2
def qtX11_laysDue_0 : List Nat := qaX11_laysDue_0 ++ qtX11_laysDue_1
theorem qeX11_laysDue : cX11_laysDue.data.toList.map UInt8.toNat = qtX11_laysDue_0 := by decide +kernel
theorem qsX11_laysDue_0 : ∀ i, dqNth qtX11_laysDue_0 (0 + i) = dqNth qtX11_laysDue_0 i := fun i => by rw [Nat.zero_add]
theorem qsX11_laysDue_1 : ∀ i, dqNth qtX11_laysDue_0 (16 + i) = dqNth qtX11_laysDue_1 i := dq_step qsX11_laysDue_0 rfl rfl
theorem qsX11_laysDue_2 : ∀ i, dqNth qtX11_laysDue_0 (32 + i) = dqNth qtX11_laysDue_2 i := dq_step qsX11_laysDue_1 rfl rfl
theorem qsX11_laysDue_3 : ∀ i, dqNth qtX11_laysDue_0 (48 + i) = dqNth qtX11_laysDue_3 i := dq_step qsX11_laysDue_2 rfl rfl
theorem qsX11_laysDue_4 : ∀ i, dqNth qtX11_laysDue_0 (64 + i) = dqNth qtX11_laysDue_4 i := dq_step qsX11_laysDue_3 rfl rfl
theorem qX11_laysDue_0 (i b : Nat) (h : dqNth qaX11_laysDue_0 i = some b) : DqBy cX11_laysDue (0 + i) b := dqBy_of qeX11_laysDue ((qsX11_laysDue_0 i).trans (dq_in h))
theorem qX11_laysDue_1 (i b : Nat) (h : dqNth qaX11_laysDue_1 i = some b) : DqBy cX11_laysDue (16 + i) b := dqBy_of qeX11_laysDue ((qsX11_laysDue_1 i).trans (dq_in h))
theorem qX11_laysDue_2 (i b : Nat) (h : dqNth qaX11_laysDue_2 i = some b) : DqBy cX11_laysDue (32 + i) b := dqBy_of qeX11_laysDue ((qsX11_laysDue_2 i).trans (dq_in h))
theorem qX11_laysDue_3 (i b : Nat) (h : dqNth qaX11_laysDue_3 i = some b) : DqBy cX11_laysDue (48 + i) b := dqBy_of qeX11_laysDue ((qsX11_laysDue_3 i).trans (dq_in h))
theorem qX11_laysDue_4 (i b : Nat) (h : dqNth qaX11_laysDue_4 i = some b) : DqBy cX11_laysDue (64 + i) b := dqBy_of qeX11_laysDue ((qsX11_laysDue_4 i).trans (dq_in h))
theorem dX11_laysDue_0 : decode cX11_laysDue 0 = .ok (.iconst 0, 1) := @dq_o3 cX11_laysDue 0 (qX11_laysDue_0 0 3 rfl)
theorem dX11_laysDue_1 : decode cX11_laysDue 1 = .ok (.istore 4, 2) := @dq_o54 cX11_laysDue 1 4 (qX11_laysDue_0 1 54 rfl) (qX11_laysDue_0 2 4 rfl)
theorem dX11_laysDue_3 : decode cX11_laysDue 3 = .ok (.iload 4, 2) := @dq_o21 cX11_laysDue 3 4 (qX11_laysDue_0 3 21 rfl) (qX11_laysDue_0 4 4 rfl)
theorem dX11_laysDue_5 : decode cX11_laysDue 5 = .ok (.bipush 18, 2) := @dq_o16 cX11_laysDue 5 18 (qX11_laysDue_0 5 16 rfl) (qX11_laysDue_0 6 18 rfl)
theorem dX11_laysDue_7 : decode cX11_laysDue 7 = .ok (.if_icmp .ge 17, 3) := @dq_o162 cX11_laysDue 7 0 17 (qX11_laysDue_0 7 162 rfl) (qX11_laysDue_0 8 0 rfl) (qX11_laysDue_0 9 17 rfl)
theorem dX11_laysDue_10 : decode cX11_laysDue 10 = .ok (.aload_n 0, 1) := @dq_o42 cX11_laysDue 10 (qX11_laysDue_0 10 42 rfl)
theorem dX11_laysDue_11 : decode cX11_laysDue 11 = .ok (.getfield 64, 3) := @dq_o180 cX11_laysDue 11 0 64 (qX11_laysDue_0 11 180 rfl) (qX11_laysDue_0 12 0 rfl) (qX11_laysDue_0 13 64 rfl)
theorem dX11_laysDue_14 : decode cX11_laysDue 14 = .ok (.iload 4, 2) := @dq_o21 cX11_laysDue 14 4 (qX11_laysDue_0 14 21 rfl) (qX11_laysDue_0 15 4 rfl)
theorem dX11_laysDue_16 : decode cX11_laysDue 16 = .ok (.lconst 0, 1) := @dq_o9 cX11_laysDue 16 (qX11_laysDue_1 0 9 rfl)
theorem dX11_laysDue_17 : decode cX11_laysDue 17 = .ok (.lastore, 1) := @dq_o80 cX11_laysDue 17 (qX11_laysDue_1 1 80 rfl)
theorem dX11_laysDue_18 : decode cX11_laysDue 18 = .ok (.iinc 4 1, 3) := @dq_o132 cX11_laysDue 18 4 1 (qX11_laysDue_1 2 132 rfl) (qX11_laysDue_1 3 4 rfl) (qX11_laysDue_1 4 1 rfl)
theorem dX11_laysDue_21 : decode cX11_laysDue 21 = .ok (.goto (-18), 3) := @dq_o167 cX11_laysDue 21 255 238 (qX11_laysDue_1 5 167 rfl) (qX11_laysDue_1 6 255 rfl) (qX11_laysDue_1 7 238 rfl)
theorem dX11_laysDue_24 : decode cX11_laysDue 24 = .ok (.iconst 0, 1) := @dq_o3 cX11_laysDue 24 (qX11_laysDue_1 8 3 rfl)
theorem dX11_laysDue_25 : decode cX11_laysDue 25 = .ok (.istore 4, 2) := @dq_o54 cX11_laysDue 25 4 (qX11_laysDue_1 9 54 rfl) (qX11_laysDue_1 10 4 rfl)
theorem dX11_laysDue_27 : decode cX11_laysDue 27 = .ok (.iload 4, 2) := @dq_o21 cX11_laysDue 27 4 (qX11_laysDue_1 11 21 rfl) (qX11_laysDue_1 12 4 rfl)
theorem dX11_laysDue_29 : decode cX11_laysDue 29 = .ok (.aload_n 0, 1) := @dq_o42 cX11_laysDue 29 (qX11_laysDue_1 13 42 rfl)
theorem dX11_laysDue_30 : decode cX11_laysDue 30 = .ok (.invokevirtual 88, 3) := @dq_o182 cX11_laysDue 30 0 88 (qX11_laysDue_1 14 182 rfl) (qX11_laysDue_1 15 0 rfl) (qX11_laysDue_2 0 88 rfl)
theorem dX11_laysDue_33 : decode cX11_laysDue 33 = .ok (.if_icmp .ge 41, 3) := @dq_o162 cX11_laysDue 33 0 41 (qX11_laysDue_2 1 162 rfl) (qX11_laysDue_2 2 0 rfl) (qX11_laysDue_2 3 41 rfl)
theorem dX11_laysDue_36 : decode cX11_laysDue 36 = .ok (.aload_n 0, 1) := @dq_o42 cX11_laysDue 36 (qX11_laysDue_2 4 42 rfl)
theorem dX11_laysDue_37 : decode cX11_laysDue 37 = .ok (.iload 4, 2) := @dq_o21 cX11_laysDue 37 4 (qX11_laysDue_2 5 21 rfl) (qX11_laysDue_2 6 4 rfl)
theorem dX11_laysDue_39 : decode cX11_laysDue 39 = .ok (.invokevirtual 92, 3) := @dq_o182 cX11_laysDue 39 0 92 (qX11_laysDue_2 7 182 rfl) (qX11_laysDue_2 8 0 rfl) (qX11_laysDue_2 9 92 rfl)
theorem dX11_laysDue_42 : decode cX11_laysDue 42 = .ok (.iload_n 3, 1) := @dq_o29 cX11_laysDue 42 (qX11_laysDue_2 10 29 rfl)
theorem dX11_laysDue_43 : decode cX11_laysDue 43 = .ok (.if_icmp .ne 25, 3) := @dq_o160 cX11_laysDue 43 0 25 (qX11_laysDue_2 11 160 rfl) (qX11_laysDue_2 12 0 rfl) (qX11_laysDue_2 13 25 rfl)
theorem dX11_laysDue_46 : decode cX11_laysDue 46 = .ok (.aload_n 0, 1) := @dq_o42 cX11_laysDue 46 (qX11_laysDue_2 14 42 rfl)
theorem dX11_laysDue_47 : decode cX11_laysDue 47 = .ok (.getfield 64, 3) := @dq_o180 cX11_laysDue 47 0 64 (qX11_laysDue_2 15 180 rfl) (qX11_laysDue_3 0 0 rfl) (qX11_laysDue_3 1 64 rfl)
theorem dX11_laysDue_50 : decode cX11_laysDue 50 = .ok (.iload 4, 2) := @dq_o21 cX11_laysDue 50 4 (qX11_laysDue_3 2 21 rfl) (qX11_laysDue_3 3 4 rfl)
theorem dX11_laysDue_52 : decode cX11_laysDue 52 = .ok (.aload_n 0, 1) := @dq_o42 cX11_laysDue 52 (qX11_laysDue_3 4 42 rfl)
theorem dX11_laysDue_53 : decode cX11_laysDue 53 = .ok (.iload_n 2, 1) := @dq_o28 cX11_laysDue 53 (qX11_laysDue_3 5 28 rfl)
theorem dX11_laysDue_54 : decode cX11_laysDue 54 = .ok (.iload 4, 2) := @dq_o21 cX11_laysDue 54 4 (qX11_laysDue_3 6 21 rfl) (qX11_laysDue_3 7 4 rfl)
theorem dX11_laysDue_56 : decode cX11_laysDue 56 = .ok (.invokevirtual 166, 3) := @dq_o182 cX11_laysDue 56 0 166 (qX11_laysDue_3 8 182 rfl) (qX11_laysDue_3 9 0 rfl) (qX11_laysDue_3 10 166 rfl)
theorem dX11_laysDue_59 : decode cX11_laysDue 59 = .ok (.aload_n 0, 1) := @dq_o42 cX11_laysDue 59 (qX11_laysDue_3 11 42 rfl)
theorem dX11_laysDue_60 : decode cX11_laysDue 60 = .ok (.iload_n 1, 1) := @dq_o27 cX11_laysDue 60 (qX11_laysDue_3 12 27 rfl)
theorem dX11_laysDue_61 : decode cX11_laysDue 61 = .ok (.iload 4, 2) := @dq_o21 cX11_laysDue 61 4 (qX11_laysDue_3 13 21 rfl) (qX11_laysDue_3 14 4 rfl)
theorem dX11_laysDue_63 : decode cX11_laysDue 63 = .ok (.invokevirtual 166, 3) := @dq_o182 cX11_laysDue 63 0 166 (qX11_laysDue_3 15 182 rfl) (qX11_laysDue_4 0 0 rfl) (qX11_laysDue_4 1 166 rfl)
theorem dX11_laysDue_66 : decode cX11_laysDue 66 = .ok (.lsub, 1) := @dq_o101 cX11_laysDue 66 (qX11_laysDue_4 2 101 rfl)
theorem dX11_laysDue_67 : decode cX11_laysDue 67 = .ok (.lastore, 1) := @dq_o80 cX11_laysDue 67 (qX11_laysDue_4 3 80 rfl)
theorem dX11_laysDue_68 : decode cX11_laysDue 68 = .ok (.iinc 4 1, 3) := @dq_o132 cX11_laysDue 68 4 1 (qX11_laysDue_4 4 132 rfl) (qX11_laysDue_4 5 4 rfl) (qX11_laysDue_4 6 1 rfl)
theorem dX11_laysDue_71 : decode cX11_laysDue 71 = .ok (.goto (-44), 3) := @dq_o167 cX11_laysDue 71 255 212 (qX11_laysDue_4 7 167 rfl) (qX11_laysDue_4 8 255 rfl) (qX11_laysDue_4 9 212 rfl)
theorem dX11_laysDue_74 : decode cX11_laysDue 74 = .ok (.return_, 1) := @dq_o177 cX11_laysDue 74 (qX11_laysDue_4 10 177 rfl)
abbrev qaX11_areAlike_0 : List Nat := [42, 4, 3, 4, 182, 1, 180, 154, 0, 5, 3, 172, 42, 3, 181, 1]
abbrev qaX11_areAlike_1 : List Nat := [127, 3, 60, 27, 42, 182, 0, 88, 162, 0, 37, 42, 27, 182, 0, 92]
abbrev qaX11_areAlike_2 : List Nat := [4, 164, 0, 6, 167, 0, 19, 42, 16, 40, 27, 10, 182, 1, 183, 42]
abbrev qaX11_areAlike_3 : List Nat := [3, 16, 40, 5, 182, 1, 186, 132, 1, 1, 167, 255, 217, 42, 3, 4]
abbrev qaX11_areAlike_4 : List Nat := [5, 182, 1, 189, 42, 182, 1, 133, 154, 0, 5, 3, 172, 42, 3, 181]
abbrev qaX11_areAlike_5 : List Nat := [1, 192, 42, 180, 1, 174, 60, 27, 42, 180, 1, 127, 162, 0, 56, 3]
abbrev qaX11_areAlike_6 : List Nat := [61, 28, 16, 6, 162, 0, 32, 42, 180, 0, 67, 16, 6, 42, 180, 1]
abbrev qaX11_areAlike_7 : List Nat := [192, 104, 28, 96, 42, 27, 16, 12, 28, 96, 182, 1, 159, 80, 132, 2]
abbrev qaX11_areAlike_8 : List Nat := [1, 167, 255, 224, 42, 42, 180, 1, 192, 4, 96, 181, 1, 192, 132, 1]
abbrev qaX11_areAlike_9 : List Nat := [1, 167, 255, 198, 42, 16, 41, 182, 0, 190, 3, 60, 27, 42, 182, 0]
abbrev qaX11_areAlike_10 : List Nat := [88, 162, 0, 26, 42, 16, 41, 27, 42, 180, 0, 64, 16, 12, 27, 96]
abbrev qaX11_areAlike_11 : List Nat := [47, 117, 182, 0, 162, 132, 1, 1, 167, 255, 228, 42, 3, 16, 41, 16]
abbrev qaX11_areAlike_12 : List Nat := [42, 182, 1, 1, 42, 16, 42, 5, 182, 0, 193, 42, 182, 1, 195, 172]
def qtX11_areAlike_13 : List Nat := []
def qtX11_areAlike_12 : List Nat := qaX11_areAlike_12 ++ qtX11_areAlike_13
def qtX11_areAlike_11 : List Nat := qaX11_areAlike_11 ++ qtX11_areAlike_12
def qtX11_areAlike_10 : List Nat := qaX11_areAlike_10 ++ qtX11_areAlike_11
def qtX11_areAlike_9 : List Nat := qaX11_areAlike_9 ++ qtX11_areAlike_10
def qtX11_areAlike_8 : List Nat := qaX11_areAlike_8 ++ qtX11_areAlike_9
def qtX11_areAlike_7 : List Nat := qaX11_areAlike_7 ++ qtX11_areAlike_8
def qtX11_areAlike_6 : List Nat := qaX11_areAlike_6 ++ qtX11_areAlike_7
def qtX11_areAlike_5 : List Nat := qaX11_areAlike_5 ++ qtX11_areAlike_6
def qtX11_areAlike_4 : List Nat := qaX11_areAlike_4 ++ qtX11_areAlike_5
def qtX11_areAlike_3 : List Nat := qaX11_areAlike_3 ++ qtX11_areAlike_4
def qtX11_areAlike_2 : List Nat := qaX11_areAlike_2 ++ qtX11_areAlike_3
def qtX11_areAlike_1 : List Nat := qaX11_areAlike_1 ++ qtX11_areAlike_2
def qtX11_areAlike_0 : List Nat := qaX11_areAlike_0 ++ qtX11_areAlike_1
theorem qeX11_areAlike : cX11_areAlike.data.toList.map UInt8.toNat = qtX11_areAlike_0 := by decide +kernel
theorem qsX11_areAlike_0 : ∀ i, dqNth qtX11_areAlike_0 (0 + i) = dqNth qtX11_areAlike_0 i := fun i => by rw [Nat.zero_add]
theorem qsX11_areAlike_1 : ∀ i, dqNth qtX11_areAlike_0 (16 + i) = dqNth qtX11_areAlike_1 i := dq_step qsX11_areAlike_0 rfl rfl
theorem qsX11_areAlike_2 : ∀ i, dqNth qtX11_areAlike_0 (32 + i) = dqNth qtX11_areAlike_2 i := dq_step qsX11_areAlike_1 rfl rfl
theorem qsX11_areAlike_3 : ∀ i, dqNth qtX11_areAlike_0 (48 + i) = dqNth qtX11_areAlike_3 i := dq_step qsX11_areAlike_2 rfl rfl
theorem qsX11_areAlike_4 : ∀ i, dqNth qtX11_areAlike_0 (64 + i) = dqNth qtX11_areAlike_4 i := dq_step qsX11_areAlike_3 rfl rfl
theorem qsX11_areAlike_5 : ∀ i, dqNth qtX11_areAlike_0 (80 + i) = dqNth qtX11_areAlike_5 i := dq_step qsX11_areAlike_4 rfl rfl
theorem qsX11_areAlike_6 : ∀ i, dqNth qtX11_areAlike_0 (96 + i) = dqNth qtX11_areAlike_6 i := dq_step qsX11_areAlike_5 rfl rfl
theorem qsX11_areAlike_7 : ∀ i, dqNth qtX11_areAlike_0 (112 + i) = dqNth qtX11_areAlike_7 i := dq_step qsX11_areAlike_6 rfl rfl
theorem qsX11_areAlike_8 : ∀ i, dqNth qtX11_areAlike_0 (128 + i) = dqNth qtX11_areAlike_8 i := dq_step qsX11_areAlike_7 rfl rfl
theorem qsX11_areAlike_9 : ∀ i, dqNth qtX11_areAlike_0 (144 + i) = dqNth qtX11_areAlike_9 i := dq_step qsX11_areAlike_8 rfl rfl
theorem qsX11_areAlike_10 : ∀ i, dqNth qtX11_areAlike_0 (160 + i) = dqNth qtX11_areAlike_10 i := dq_step qsX11_areAlike_9 rfl rfl
theorem qsX11_areAlike_11 : ∀ i, dqNth qtX11_areAlike_0 (176 + i) = dqNth qtX11_areAlike_11 i := dq_step qsX11_areAlike_10 rfl rfl
theorem qsX11_areAlike_12 : ∀ i, dqNth qtX11_areAlike_0 (192 + i) = dqNth qtX11_areAlike_12 i := dq_step qsX11_areAlike_11 rfl rfl
theorem qX11_areAlike_0 (i b : Nat) (h : dqNth qaX11_areAlike_0 i = some b) : DqBy cX11_areAlike (0 + i) b := dqBy_of qeX11_areAlike ((qsX11_areAlike_0 i).trans (dq_in h))
theorem qX11_areAlike_1 (i b : Nat) (h : dqNth qaX11_areAlike_1 i = some b) : DqBy cX11_areAlike (16 + i) b := dqBy_of qeX11_areAlike ((qsX11_areAlike_1 i).trans (dq_in h))
theorem qX11_areAlike_2 (i b : Nat) (h : dqNth qaX11_areAlike_2 i = some b) : DqBy cX11_areAlike (32 + i) b := dqBy_of qeX11_areAlike ((qsX11_areAlike_2 i).trans (dq_in h))
theorem qX11_areAlike_3 (i b : Nat) (h : dqNth qaX11_areAlike_3 i = some b) : DqBy cX11_areAlike (48 + i) b := dqBy_of qeX11_areAlike ((qsX11_areAlike_3 i).trans (dq_in h))
theorem qX11_areAlike_4 (i b : Nat) (h : dqNth qaX11_areAlike_4 i = some b) : DqBy cX11_areAlike (64 + i) b := dqBy_of qeX11_areAlike ((qsX11_areAlike_4 i).trans (dq_in h))
theorem qX11_areAlike_5 (i b : Nat) (h : dqNth qaX11_areAlike_5 i = some b) : DqBy cX11_areAlike (80 + i) b := dqBy_of qeX11_areAlike ((qsX11_areAlike_5 i).trans (dq_in h))
theorem qX11_areAlike_6 (i b : Nat) (h : dqNth qaX11_areAlike_6 i = some b) : DqBy cX11_areAlike (96 + i) b := dqBy_of qeX11_areAlike ((qsX11_areAlike_6 i).trans (dq_in h))
theorem qX11_areAlike_7 (i b : Nat) (h : dqNth qaX11_areAlike_7 i = some b) : DqBy cX11_areAlike (112 + i) b := dqBy_of qeX11_areAlike ((qsX11_areAlike_7 i).trans (dq_in h))
theorem qX11_areAlike_8 (i b : Nat) (h : dqNth qaX11_areAlike_8 i = some b) : DqBy cX11_areAlike (128 + i) b := dqBy_of qeX11_areAlike ((qsX11_areAlike_8 i).trans (dq_in h))
theorem qX11_areAlike_9 (i b : Nat) (h : dqNth qaX11_areAlike_9 i = some b) : DqBy cX11_areAlike (144 + i) b := dqBy_of qeX11_areAlike ((qsX11_areAlike_9 i).trans (dq_in h))
theorem qX11_areAlike_10 (i b : Nat) (h : dqNth qaX11_areAlike_10 i = some b) : DqBy cX11_areAlike (160 + i) b := dqBy_of qeX11_areAlike ((qsX11_areAlike_10 i).trans (dq_in h))
theorem qX11_areAlike_11 (i b : Nat) (h : dqNth qaX11_areAlike_11 i = some b) : DqBy cX11_areAlike (176 + i) b := dqBy_of qeX11_areAlike ((qsX11_areAlike_11 i).trans (dq_in h))
theorem qX11_areAlike_12 (i b : Nat) (h : dqNth qaX11_areAlike_12 i = some b) : DqBy cX11_areAlike (192 + i) b := dqBy_of qeX11_areAlike ((qsX11_areAlike_12 i).trans (dq_in h))
theorem dX11_areAlike_0 : decode cX11_areAlike 0 = .ok (.aload_n 0, 1) := @dq_o42 cX11_areAlike 0 (qX11_areAlike_0 0 42 rfl)
theorem dX11_areAlike_1 : decode cX11_areAlike 1 = .ok (.iconst 1, 1) := @dq_o4 cX11_areAlike 1 (qX11_areAlike_0 1 4 rfl)
theorem dX11_areAlike_2 : decode cX11_areAlike 2 = .ok (.iconst 0, 1) := @dq_o3 cX11_areAlike 2 (qX11_areAlike_0 2 3 rfl)
theorem dX11_areAlike_3 : decode cX11_areAlike 3 = .ok (.iconst 1, 1) := @dq_o4 cX11_areAlike 3 (qX11_areAlike_0 3 4 rfl)
theorem dX11_areAlike_4 : decode cX11_areAlike 4 = .ok (.invokevirtual 436, 3) := @dq_o182 cX11_areAlike 4 1 180 (qX11_areAlike_0 4 182 rfl) (qX11_areAlike_0 5 1 rfl) (qX11_areAlike_0 6 180 rfl)
theorem dX11_areAlike_7 : decode cX11_areAlike 7 = .ok (.ifCond .ne 5, 3) := @dq_o154 cX11_areAlike 7 0 5 (qX11_areAlike_0 7 154 rfl) (qX11_areAlike_0 8 0 rfl) (qX11_areAlike_0 9 5 rfl)
theorem dX11_areAlike_10 : decode cX11_areAlike 10 = .ok (.iconst 0, 1) := @dq_o3 cX11_areAlike 10 (qX11_areAlike_0 10 3 rfl)
theorem dX11_areAlike_11 : decode cX11_areAlike 11 = .ok (.ireturn, 1) := @dq_o172 cX11_areAlike 11 (qX11_areAlike_0 11 172 rfl)
theorem dX11_areAlike_12 : decode cX11_areAlike 12 = .ok (.aload_n 0, 1) := @dq_o42 cX11_areAlike 12 (qX11_areAlike_0 12 42 rfl)
theorem dX11_areAlike_13 : decode cX11_areAlike 13 = .ok (.iconst 0, 1) := @dq_o3 cX11_areAlike 13 (qX11_areAlike_0 13 3 rfl)
theorem dX11_areAlike_14 : decode cX11_areAlike 14 = .ok (.putfield 383, 3) := @dq_o181 cX11_areAlike 14 1 127 (qX11_areAlike_0 14 181 rfl) (qX11_areAlike_0 15 1 rfl) (qX11_areAlike_1 0 127 rfl)
theorem dX11_areAlike_17 : decode cX11_areAlike 17 = .ok (.iconst 0, 1) := @dq_o3 cX11_areAlike 17 (qX11_areAlike_1 1 3 rfl)
theorem dX11_areAlike_18 : decode cX11_areAlike 18 = .ok (.istore_n 1, 1) := @dq_o60 cX11_areAlike 18 (qX11_areAlike_1 2 60 rfl)
theorem dX11_areAlike_19 : decode cX11_areAlike 19 = .ok (.iload_n 1, 1) := @dq_o27 cX11_areAlike 19 (qX11_areAlike_1 3 27 rfl)
theorem dX11_areAlike_20 : decode cX11_areAlike 20 = .ok (.aload_n 0, 1) := @dq_o42 cX11_areAlike 20 (qX11_areAlike_1 4 42 rfl)
theorem dX11_areAlike_21 : decode cX11_areAlike 21 = .ok (.invokevirtual 88, 3) := @dq_o182 cX11_areAlike 21 0 88 (qX11_areAlike_1 5 182 rfl) (qX11_areAlike_1 6 0 rfl) (qX11_areAlike_1 7 88 rfl)
theorem dX11_areAlike_24 : decode cX11_areAlike 24 = .ok (.if_icmp .ge 37, 3) := @dq_o162 cX11_areAlike 24 0 37 (qX11_areAlike_1 8 162 rfl) (qX11_areAlike_1 9 0 rfl) (qX11_areAlike_1 10 37 rfl)
theorem dX11_areAlike_27 : decode cX11_areAlike 27 = .ok (.aload_n 0, 1) := @dq_o42 cX11_areAlike 27 (qX11_areAlike_1 11 42 rfl)
theorem dX11_areAlike_28 : decode cX11_areAlike 28 = .ok (.iload_n 1, 1) := @dq_o27 cX11_areAlike 28 (qX11_areAlike_1 12 27 rfl)
theorem dX11_areAlike_29 : decode cX11_areAlike 29 = .ok (.invokevirtual 92, 3) := @dq_o182 cX11_areAlike 29 0 92 (qX11_areAlike_1 13 182 rfl) (qX11_areAlike_1 14 0 rfl) (qX11_areAlike_1 15 92 rfl)
theorem dX11_areAlike_32 : decode cX11_areAlike 32 = .ok (.iconst 1, 1) := @dq_o4 cX11_areAlike 32 (qX11_areAlike_2 0 4 rfl)
theorem dX11_areAlike_33 : decode cX11_areAlike 33 = .ok (.if_icmp .le 6, 3) := @dq_o164 cX11_areAlike 33 0 6 (qX11_areAlike_2 1 164 rfl) (qX11_areAlike_2 2 0 rfl) (qX11_areAlike_2 3 6 rfl)
theorem dX11_areAlike_36 : decode cX11_areAlike 36 = .ok (.goto 19, 3) := @dq_o167 cX11_areAlike 36 0 19 (qX11_areAlike_2 4 167 rfl) (qX11_areAlike_2 5 0 rfl) (qX11_areAlike_2 6 19 rfl)
theorem dX11_areAlike_39 : decode cX11_areAlike 39 = .ok (.aload_n 0, 1) := @dq_o42 cX11_areAlike 39 (qX11_areAlike_2 7 42 rfl)
theorem dX11_areAlike_40 : decode cX11_areAlike 40 = .ok (.bipush 40, 2) := @dq_o16 cX11_areAlike 40 40 (qX11_areAlike_2 8 16 rfl) (qX11_areAlike_2 9 40 rfl)
theorem dX11_areAlike_42 : decode cX11_areAlike 42 = .ok (.iload_n 1, 1) := @dq_o27 cX11_areAlike 42 (qX11_areAlike_2 10 27 rfl)
theorem dX11_areAlike_43 : decode cX11_areAlike 43 = .ok (.lconst 1, 1) := @dq_o10 cX11_areAlike 43 (qX11_areAlike_2 11 10 rfl)
theorem dX11_areAlike_44 : decode cX11_areAlike 44 = .ok (.invokevirtual 439, 3) := @dq_o182 cX11_areAlike 44 1 183 (qX11_areAlike_2 12 182 rfl) (qX11_areAlike_2 13 1 rfl) (qX11_areAlike_2 14 183 rfl)
theorem dX11_areAlike_47 : decode cX11_areAlike 47 = .ok (.aload_n 0, 1) := @dq_o42 cX11_areAlike 47 (qX11_areAlike_2 15 42 rfl)
theorem dX11_areAlike_48 : decode cX11_areAlike 48 = .ok (.iconst 0, 1) := @dq_o3 cX11_areAlike 48 (qX11_areAlike_3 0 3 rfl)
theorem dX11_areAlike_49 : decode cX11_areAlike 49 = .ok (.bipush 40, 2) := @dq_o16 cX11_areAlike 49 40 (qX11_areAlike_3 1 16 rfl) (qX11_areAlike_3 2 40 rfl)
theorem dX11_areAlike_51 : decode cX11_areAlike 51 = .ok (.iconst 2, 1) := @dq_o5 cX11_areAlike 51 (qX11_areAlike_3 3 5 rfl)
theorem dX11_areAlike_52 : decode cX11_areAlike 52 = .ok (.invokevirtual 442, 3) := @dq_o182 cX11_areAlike 52 1 186 (qX11_areAlike_3 4 182 rfl) (qX11_areAlike_3 5 1 rfl) (qX11_areAlike_3 6 186 rfl)
theorem dX11_areAlike_55 : decode cX11_areAlike 55 = .ok (.iinc 1 1, 3) := @dq_o132 cX11_areAlike 55 1 1 (qX11_areAlike_3 7 132 rfl) (qX11_areAlike_3 8 1 rfl) (qX11_areAlike_3 9 1 rfl)
theorem dX11_areAlike_58 : decode cX11_areAlike 58 = .ok (.goto (-39), 3) := @dq_o167 cX11_areAlike 58 255 217 (qX11_areAlike_3 10 167 rfl) (qX11_areAlike_3 11 255 rfl) (qX11_areAlike_3 12 217 rfl)
theorem dX11_areAlike_61 : decode cX11_areAlike 61 = .ok (.aload_n 0, 1) := @dq_o42 cX11_areAlike 61 (qX11_areAlike_3 13 42 rfl)
theorem dX11_areAlike_62 : decode cX11_areAlike 62 = .ok (.iconst 0, 1) := @dq_o3 cX11_areAlike 62 (qX11_areAlike_3 14 3 rfl)
theorem dX11_areAlike_63 : decode cX11_areAlike 63 = .ok (.iconst 1, 1) := @dq_o4 cX11_areAlike 63 (qX11_areAlike_3 15 4 rfl)
theorem dX11_areAlike_64 : decode cX11_areAlike 64 = .ok (.iconst 2, 1) := @dq_o5 cX11_areAlike 64 (qX11_areAlike_4 0 5 rfl)
theorem dX11_areAlike_65 : decode cX11_areAlike 65 = .ok (.invokevirtual 445, 3) := @dq_o182 cX11_areAlike 65 1 189 (qX11_areAlike_4 1 182 rfl) (qX11_areAlike_4 2 1 rfl) (qX11_areAlike_4 3 189 rfl)
theorem dX11_areAlike_68 : decode cX11_areAlike 68 = .ok (.aload_n 0, 1) := @dq_o42 cX11_areAlike 68 (qX11_areAlike_4 4 42 rfl)
theorem dX11_areAlike_69 : decode cX11_areAlike 69 = .ok (.invokevirtual 389, 3) := @dq_o182 cX11_areAlike 69 1 133 (qX11_areAlike_4 5 182 rfl) (qX11_areAlike_4 6 1 rfl) (qX11_areAlike_4 7 133 rfl)
theorem dX11_areAlike_72 : decode cX11_areAlike 72 = .ok (.ifCond .ne 5, 3) := @dq_o154 cX11_areAlike 72 0 5 (qX11_areAlike_4 8 154 rfl) (qX11_areAlike_4 9 0 rfl) (qX11_areAlike_4 10 5 rfl)
theorem dX11_areAlike_75 : decode cX11_areAlike 75 = .ok (.iconst 0, 1) := @dq_o3 cX11_areAlike 75 (qX11_areAlike_4 11 3 rfl)
theorem dX11_areAlike_76 : decode cX11_areAlike 76 = .ok (.ireturn, 1) := @dq_o172 cX11_areAlike 76 (qX11_areAlike_4 12 172 rfl)
theorem dX11_areAlike_77 : decode cX11_areAlike 77 = .ok (.aload_n 0, 1) := @dq_o42 cX11_areAlike 77 (qX11_areAlike_4 13 42 rfl)
theorem dX11_areAlike_78 : decode cX11_areAlike 78 = .ok (.iconst 0, 1) := @dq_o3 cX11_areAlike 78 (qX11_areAlike_4 14 3 rfl)
theorem dX11_areAlike_79 : decode cX11_areAlike 79 = .ok (.putfield 448, 3) := @dq_o181 cX11_areAlike 79 1 192 (qX11_areAlike_4 15 181 rfl) (qX11_areAlike_5 0 1 rfl) (qX11_areAlike_5 1 192 rfl)
theorem dX11_areAlike_82 : decode cX11_areAlike 82 = .ok (.aload_n 0, 1) := @dq_o42 cX11_areAlike 82 (qX11_areAlike_5 2 42 rfl)
theorem dX11_areAlike_83 : decode cX11_areAlike 83 = .ok (.getfield 430, 3) := @dq_o180 cX11_areAlike 83 1 174 (qX11_areAlike_5 3 180 rfl) (qX11_areAlike_5 4 1 rfl) (qX11_areAlike_5 5 174 rfl)
theorem dX11_areAlike_86 : decode cX11_areAlike 86 = .ok (.istore_n 1, 1) := @dq_o60 cX11_areAlike 86 (qX11_areAlike_5 6 60 rfl)
theorem dX11_areAlike_87 : decode cX11_areAlike 87 = .ok (.iload_n 1, 1) := @dq_o27 cX11_areAlike 87 (qX11_areAlike_5 7 27 rfl)
theorem dX11_areAlike_88 : decode cX11_areAlike 88 = .ok (.aload_n 0, 1) := @dq_o42 cX11_areAlike 88 (qX11_areAlike_5 8 42 rfl)
theorem dX11_areAlike_89 : decode cX11_areAlike 89 = .ok (.getfield 383, 3) := @dq_o180 cX11_areAlike 89 1 127 (qX11_areAlike_5 9 180 rfl) (qX11_areAlike_5 10 1 rfl) (qX11_areAlike_5 11 127 rfl)
theorem dX11_areAlike_92 : decode cX11_areAlike 92 = .ok (.if_icmp .ge 56, 3) := @dq_o162 cX11_areAlike 92 0 56 (qX11_areAlike_5 12 162 rfl) (qX11_areAlike_5 13 0 rfl) (qX11_areAlike_5 14 56 rfl)
theorem dX11_areAlike_95 : decode cX11_areAlike 95 = .ok (.iconst 0, 1) := @dq_o3 cX11_areAlike 95 (qX11_areAlike_5 15 3 rfl)
theorem dX11_areAlike_96 : decode cX11_areAlike 96 = .ok (.istore_n 2, 1) := @dq_o61 cX11_areAlike 96 (qX11_areAlike_6 0 61 rfl)
theorem dX11_areAlike_97 : decode cX11_areAlike 97 = .ok (.iload_n 2, 1) := @dq_o28 cX11_areAlike 97 (qX11_areAlike_6 1 28 rfl)
theorem dX11_areAlike_98 : decode cX11_areAlike 98 = .ok (.bipush 6, 2) := @dq_o16 cX11_areAlike 98 6 (qX11_areAlike_6 2 16 rfl) (qX11_areAlike_6 3 6 rfl)
theorem dX11_areAlike_100 : decode cX11_areAlike 100 = .ok (.if_icmp .ge 32, 3) := @dq_o162 cX11_areAlike 100 0 32 (qX11_areAlike_6 4 162 rfl) (qX11_areAlike_6 5 0 rfl) (qX11_areAlike_6 6 32 rfl)
theorem dX11_areAlike_103 : decode cX11_areAlike 103 = .ok (.aload_n 0, 1) := @dq_o42 cX11_areAlike 103 (qX11_areAlike_6 7 42 rfl)
theorem dX11_areAlike_104 : decode cX11_areAlike 104 = .ok (.getfield 67, 3) := @dq_o180 cX11_areAlike 104 0 67 (qX11_areAlike_6 8 180 rfl) (qX11_areAlike_6 9 0 rfl) (qX11_areAlike_6 10 67 rfl)
theorem dX11_areAlike_107 : decode cX11_areAlike 107 = .ok (.bipush 6, 2) := @dq_o16 cX11_areAlike 107 6 (qX11_areAlike_6 11 16 rfl) (qX11_areAlike_6 12 6 rfl)
theorem dX11_areAlike_109 : decode cX11_areAlike 109 = .ok (.aload_n 0, 1) := @dq_o42 cX11_areAlike 109 (qX11_areAlike_6 13 42 rfl)
theorem dX11_areAlike_110 : decode cX11_areAlike 110 = .ok (.getfield 448, 3) := @dq_o180 cX11_areAlike 110 1 192 (qX11_areAlike_6 14 180 rfl) (qX11_areAlike_6 15 1 rfl) (qX11_areAlike_7 0 192 rfl)
theorem dX11_areAlike_113 : decode cX11_areAlike 113 = .ok (.imul, 1) := @dq_o104 cX11_areAlike 113 (qX11_areAlike_7 1 104 rfl)
theorem dX11_areAlike_114 : decode cX11_areAlike 114 = .ok (.iload_n 2, 1) := @dq_o28 cX11_areAlike 114 (qX11_areAlike_7 2 28 rfl)
theorem dX11_areAlike_115 : decode cX11_areAlike 115 = .ok (.iadd, 1) := @dq_o96 cX11_areAlike 115 (qX11_areAlike_7 3 96 rfl)
theorem dX11_areAlike_116 : decode cX11_areAlike 116 = .ok (.aload_n 0, 1) := @dq_o42 cX11_areAlike 116 (qX11_areAlike_7 4 42 rfl)
theorem dX11_areAlike_117 : decode cX11_areAlike 117 = .ok (.iload_n 1, 1) := @dq_o27 cX11_areAlike 117 (qX11_areAlike_7 5 27 rfl)
theorem dX11_areAlike_118 : decode cX11_areAlike 118 = .ok (.bipush 12, 2) := @dq_o16 cX11_areAlike 118 12 (qX11_areAlike_7 6 16 rfl) (qX11_areAlike_7 7 12 rfl)
theorem dX11_areAlike_120 : decode cX11_areAlike 120 = .ok (.iload_n 2, 1) := @dq_o28 cX11_areAlike 120 (qX11_areAlike_7 8 28 rfl)
theorem dX11_areAlike_121 : decode cX11_areAlike 121 = .ok (.iadd, 1) := @dq_o96 cX11_areAlike 121 (qX11_areAlike_7 9 96 rfl)
theorem dX11_areAlike_122 : decode cX11_areAlike 122 = .ok (.invokevirtual 415, 3) := @dq_o182 cX11_areAlike 122 1 159 (qX11_areAlike_7 10 182 rfl) (qX11_areAlike_7 11 1 rfl) (qX11_areAlike_7 12 159 rfl)
theorem dX11_areAlike_125 : decode cX11_areAlike 125 = .ok (.lastore, 1) := @dq_o80 cX11_areAlike 125 (qX11_areAlike_7 13 80 rfl)
theorem dX11_areAlike_126 : decode cX11_areAlike 126 = .ok (.iinc 2 1, 3) := @dq_o132 cX11_areAlike 126 2 1 (qX11_areAlike_7 14 132 rfl) (qX11_areAlike_7 15 2 rfl) (qX11_areAlike_8 0 1 rfl)
theorem dX11_areAlike_129 : decode cX11_areAlike 129 = .ok (.goto (-32), 3) := @dq_o167 cX11_areAlike 129 255 224 (qX11_areAlike_8 1 167 rfl) (qX11_areAlike_8 2 255 rfl) (qX11_areAlike_8 3 224 rfl)
theorem dX11_areAlike_132 : decode cX11_areAlike 132 = .ok (.aload_n 0, 1) := @dq_o42 cX11_areAlike 132 (qX11_areAlike_8 4 42 rfl)
theorem dX11_areAlike_133 : decode cX11_areAlike 133 = .ok (.aload_n 0, 1) := @dq_o42 cX11_areAlike 133 (qX11_areAlike_8 5 42 rfl)
theorem dX11_areAlike_134 : decode cX11_areAlike 134 = .ok (.getfield 448, 3) := @dq_o180 cX11_areAlike 134 1 192 (qX11_areAlike_8 6 180 rfl) (qX11_areAlike_8 7 1 rfl) (qX11_areAlike_8 8 192 rfl)
theorem dX11_areAlike_137 : decode cX11_areAlike 137 = .ok (.iconst 1, 1) := @dq_o4 cX11_areAlike 137 (qX11_areAlike_8 9 4 rfl)
theorem dX11_areAlike_138 : decode cX11_areAlike 138 = .ok (.iadd, 1) := @dq_o96 cX11_areAlike 138 (qX11_areAlike_8 10 96 rfl)
theorem dX11_areAlike_139 : decode cX11_areAlike 139 = .ok (.putfield 448, 3) := @dq_o181 cX11_areAlike 139 1 192 (qX11_areAlike_8 11 181 rfl) (qX11_areAlike_8 12 1 rfl) (qX11_areAlike_8 13 192 rfl)
theorem dX11_areAlike_142 : decode cX11_areAlike 142 = .ok (.iinc 1 1, 3) := @dq_o132 cX11_areAlike 142 1 1 (qX11_areAlike_8 14 132 rfl) (qX11_areAlike_8 15 1 rfl) (qX11_areAlike_9 0 1 rfl)
theorem dX11_areAlike_145 : decode cX11_areAlike 145 = .ok (.goto (-58), 3) := @dq_o167 cX11_areAlike 145 255 198 (qX11_areAlike_9 1 167 rfl) (qX11_areAlike_9 2 255 rfl) (qX11_areAlike_9 3 198 rfl)
theorem dX11_areAlike_148 : decode cX11_areAlike 148 = .ok (.aload_n 0, 1) := @dq_o42 cX11_areAlike 148 (qX11_areAlike_9 4 42 rfl)
theorem dX11_areAlike_149 : decode cX11_areAlike 149 = .ok (.bipush 41, 2) := @dq_o16 cX11_areAlike 149 41 (qX11_areAlike_9 5 16 rfl) (qX11_areAlike_9 6 41 rfl)
theorem dX11_areAlike_151 : decode cX11_areAlike 151 = .ok (.invokevirtual 190, 3) := @dq_o182 cX11_areAlike 151 0 190 (qX11_areAlike_9 7 182 rfl) (qX11_areAlike_9 8 0 rfl) (qX11_areAlike_9 9 190 rfl)
theorem dX11_areAlike_154 : decode cX11_areAlike 154 = .ok (.iconst 0, 1) := @dq_o3 cX11_areAlike 154 (qX11_areAlike_9 10 3 rfl)
theorem dX11_areAlike_155 : decode cX11_areAlike 155 = .ok (.istore_n 1, 1) := @dq_o60 cX11_areAlike 155 (qX11_areAlike_9 11 60 rfl)
theorem dX11_areAlike_156 : decode cX11_areAlike 156 = .ok (.iload_n 1, 1) := @dq_o27 cX11_areAlike 156 (qX11_areAlike_9 12 27 rfl)
theorem dX11_areAlike_157 : decode cX11_areAlike 157 = .ok (.aload_n 0, 1) := @dq_o42 cX11_areAlike 157 (qX11_areAlike_9 13 42 rfl)
theorem dX11_areAlike_158 : decode cX11_areAlike 158 = .ok (.invokevirtual 88, 3) := @dq_o182 cX11_areAlike 158 0 88 (qX11_areAlike_9 14 182 rfl) (qX11_areAlike_9 15 0 rfl) (qX11_areAlike_10 0 88 rfl)
theorem dX11_areAlike_161 : decode cX11_areAlike 161 = .ok (.if_icmp .ge 26, 3) := @dq_o162 cX11_areAlike 161 0 26 (qX11_areAlike_10 1 162 rfl) (qX11_areAlike_10 2 0 rfl) (qX11_areAlike_10 3 26 rfl)
theorem dX11_areAlike_164 : decode cX11_areAlike 164 = .ok (.aload_n 0, 1) := @dq_o42 cX11_areAlike 164 (qX11_areAlike_10 4 42 rfl)
theorem dX11_areAlike_165 : decode cX11_areAlike 165 = .ok (.bipush 41, 2) := @dq_o16 cX11_areAlike 165 41 (qX11_areAlike_10 5 16 rfl) (qX11_areAlike_10 6 41 rfl)
theorem dX11_areAlike_167 : decode cX11_areAlike 167 = .ok (.iload_n 1, 1) := @dq_o27 cX11_areAlike 167 (qX11_areAlike_10 7 27 rfl)
theorem dX11_areAlike_168 : decode cX11_areAlike 168 = .ok (.aload_n 0, 1) := @dq_o42 cX11_areAlike 168 (qX11_areAlike_10 8 42 rfl)
theorem dX11_areAlike_169 : decode cX11_areAlike 169 = .ok (.getfield 64, 3) := @dq_o180 cX11_areAlike 169 0 64 (qX11_areAlike_10 9 180 rfl) (qX11_areAlike_10 10 0 rfl) (qX11_areAlike_10 11 64 rfl)
theorem dX11_areAlike_172 : decode cX11_areAlike 172 = .ok (.bipush 12, 2) := @dq_o16 cX11_areAlike 172 12 (qX11_areAlike_10 12 16 rfl) (qX11_areAlike_10 13 12 rfl)
theorem dX11_areAlike_174 : decode cX11_areAlike 174 = .ok (.iload_n 1, 1) := @dq_o27 cX11_areAlike 174 (qX11_areAlike_10 14 27 rfl)
theorem dX11_areAlike_175 : decode cX11_areAlike 175 = .ok (.iadd, 1) := @dq_o96 cX11_areAlike 175 (qX11_areAlike_10 15 96 rfl)
theorem dX11_areAlike_176 : decode cX11_areAlike 176 = .ok (.laload, 1) := @dq_o47 cX11_areAlike 176 (qX11_areAlike_11 0 47 rfl)
theorem dX11_areAlike_177 : decode cX11_areAlike 177 = .ok (.lneg, 1) := @dq_o117 cX11_areAlike 177 (qX11_areAlike_11 1 117 rfl)
theorem dX11_areAlike_178 : decode cX11_areAlike 178 = .ok (.invokevirtual 162, 3) := @dq_o182 cX11_areAlike 178 0 162 (qX11_areAlike_11 2 182 rfl) (qX11_areAlike_11 3 0 rfl) (qX11_areAlike_11 4 162 rfl)
theorem dX11_areAlike_181 : decode cX11_areAlike 181 = .ok (.iinc 1 1, 3) := @dq_o132 cX11_areAlike 181 1 1 (qX11_areAlike_11 5 132 rfl) (qX11_areAlike_11 6 1 rfl) (qX11_areAlike_11 7 1 rfl)
theorem dX11_areAlike_184 : decode cX11_areAlike 184 = .ok (.goto (-28), 3) := @dq_o167 cX11_areAlike 184 255 228 (qX11_areAlike_11 8 167 rfl) (qX11_areAlike_11 9 255 rfl) (qX11_areAlike_11 10 228 rfl)
theorem dX11_areAlike_187 : decode cX11_areAlike 187 = .ok (.aload_n 0, 1) := @dq_o42 cX11_areAlike 187 (qX11_areAlike_11 11 42 rfl)
theorem dX11_areAlike_188 : decode cX11_areAlike 188 = .ok (.iconst 0, 1) := @dq_o3 cX11_areAlike 188 (qX11_areAlike_11 12 3 rfl)
theorem dX11_areAlike_189 : decode cX11_areAlike 189 = .ok (.bipush 41, 2) := @dq_o16 cX11_areAlike 189 41 (qX11_areAlike_11 13 16 rfl) (qX11_areAlike_11 14 41 rfl)
theorem dX11_areAlike_191 : decode cX11_areAlike 191 = .ok (.bipush 42, 2) := @dq_o16 cX11_areAlike 191 42 (qX11_areAlike_11 15 16 rfl) (qX11_areAlike_12 0 42 rfl)
theorem dX11_areAlike_193 : decode cX11_areAlike 193 = .ok (.invokevirtual 257, 3) := @dq_o182 cX11_areAlike 193 1 1 (qX11_areAlike_12 1 182 rfl) (qX11_areAlike_12 2 1 rfl) (qX11_areAlike_12 3 1 rfl)
theorem dX11_areAlike_196 : decode cX11_areAlike 196 = .ok (.aload_n 0, 1) := @dq_o42 cX11_areAlike 196 (qX11_areAlike_12 4 42 rfl)
theorem dX11_areAlike_197 : decode cX11_areAlike 197 = .ok (.bipush 42, 2) := @dq_o16 cX11_areAlike 197 42 (qX11_areAlike_12 5 16 rfl) (qX11_areAlike_12 6 42 rfl)
theorem dX11_areAlike_199 : decode cX11_areAlike 199 = .ok (.iconst 2, 1) := @dq_o5 cX11_areAlike 199 (qX11_areAlike_12 7 5 rfl)
theorem dX11_areAlike_200 : decode cX11_areAlike 200 = .ok (.invokevirtual 193, 3) := @dq_o182 cX11_areAlike 200 0 193 (qX11_areAlike_12 8 182 rfl) (qX11_areAlike_12 9 0 rfl) (qX11_areAlike_12 10 193 rfl)
theorem dX11_areAlike_203 : decode cX11_areAlike 203 = .ok (.aload_n 0, 1) := @dq_o42 cX11_areAlike 203 (qX11_areAlike_12 11 42 rfl)
theorem dX11_areAlike_204 : decode cX11_areAlike 204 = .ok (.invokevirtual 451, 3) := @dq_o182 cX11_areAlike 204 1 195 (qX11_areAlike_12 12 182 rfl) (qX11_areAlike_12 13 1 rfl) (qX11_areAlike_12 14 195 rfl)
theorem dX11_areAlike_207 : decode cX11_areAlike 207 = .ok (.ireturn, 1) := @dq_o172 cX11_areAlike 207 (qX11_areAlike_12 15 172 rfl)
abbrev qaX11_areAlikeInLast_0 : List Nat := [42, 5, 5, 4, 182, 1, 180, 154, 0, 5, 3, 172, 42, 3, 181, 1]
abbrev qaX11_areAlikeInLast_1 : List Nat := [127, 3, 60, 27, 42, 180, 1, 192, 162, 0, 49, 3, 61, 28, 16, 6]
abbrev qaX11_areAlikeInLast_2 : List Nat := [162, 0, 27, 42, 16, 40, 28, 42, 180, 0, 67, 16, 6, 27, 104, 28]
abbrev qaX11_areAlikeInLast_3 : List Nat := [96, 47, 182, 0, 162, 132, 2, 1, 167, 255, 229, 42, 5, 16, 40, 6]
abbrev qaX11_areAlikeInLast_4 : List Nat := [182, 1, 186, 132, 1, 1, 167, 255, 205, 3, 60, 27, 42, 182, 0, 88]
abbrev qaX11_areAlikeInLast_5 : List Nat := [162, 0, 37, 42, 27, 182, 0, 92, 5, 159, 0, 6, 167, 0, 19, 42]
abbrev qaX11_areAlikeInLast_6 : List Nat := [16, 40, 27, 10, 182, 1, 183, 42, 5, 16, 40, 6, 182, 1, 186, 132]
abbrev qaX11_areAlikeInLast_7 : List Nat := [1, 1, 167, 255, 217, 42, 5, 4, 6, 182, 1, 189, 42, 182, 1, 133]
abbrev qaX11_areAlikeInLast_8 : List Nat := [172]
def qtX11_areAlikeInLast_9 : List Nat := []
def qtX11_areAlikeInLast_8 : List Nat := qaX11_areAlikeInLast_8 ++ qtX11_areAlikeInLast_9
def qtX11_areAlikeInLast_7 : List Nat := qaX11_areAlikeInLast_7 ++ qtX11_areAlikeInLast_8
def qtX11_areAlikeInLast_6 : List Nat := qaX11_areAlikeInLast_6 ++ qtX11_areAlikeInLast_7
def qtX11_areAlikeInLast_5 : List Nat := qaX11_areAlikeInLast_5 ++ qtX11_areAlikeInLast_6
def qtX11_areAlikeInLast_4 : List Nat := qaX11_areAlikeInLast_4 ++ qtX11_areAlikeInLast_5
def qtX11_areAlikeInLast_3 : List Nat := qaX11_areAlikeInLast_3 ++ qtX11_areAlikeInLast_4
def qtX11_areAlikeInLast_2 : List Nat := qaX11_areAlikeInLast_2 ++ qtX11_areAlikeInLast_3
def qtX11_areAlikeInLast_1 : List Nat := qaX11_areAlikeInLast_1 ++ qtX11_areAlikeInLast_2
def qtX11_areAlikeInLast_0 : List Nat := qaX11_areAlikeInLast_0 ++ qtX11_areAlikeInLast_1
theorem qeX11_areAlikeInLast : cX11_areAlikeInLast.data.toList.map UInt8.toNat = qtX11_areAlikeInLast_0 := by decide +kernel
theorem qsX11_areAlikeInLast_0 : ∀ i, dqNth qtX11_areAlikeInLast_0 (0 + i) = dqNth qtX11_areAlikeInLast_0 i := fun i => by rw [Nat.zero_add]
theorem qsX11_areAlikeInLast_1 : ∀ i, dqNth qtX11_areAlikeInLast_0 (16 + i) = dqNth qtX11_areAlikeInLast_1 i := dq_step qsX11_areAlikeInLast_0 rfl rfl
theorem qsX11_areAlikeInLast_2 : ∀ i, dqNth qtX11_areAlikeInLast_0 (32 + i) = dqNth qtX11_areAlikeInLast_2 i := dq_step qsX11_areAlikeInLast_1 rfl rfl
theorem qsX11_areAlikeInLast_3 : ∀ i, dqNth qtX11_areAlikeInLast_0 (48 + i) = dqNth qtX11_areAlikeInLast_3 i := dq_step qsX11_areAlikeInLast_2 rfl rfl
theorem qsX11_areAlikeInLast_4 : ∀ i, dqNth qtX11_areAlikeInLast_0 (64 + i) = dqNth qtX11_areAlikeInLast_4 i := dq_step qsX11_areAlikeInLast_3 rfl rfl
theorem qsX11_areAlikeInLast_5 : ∀ i, dqNth qtX11_areAlikeInLast_0 (80 + i) = dqNth qtX11_areAlikeInLast_5 i := dq_step qsX11_areAlikeInLast_4 rfl rfl
theorem qsX11_areAlikeInLast_6 : ∀ i, dqNth qtX11_areAlikeInLast_0 (96 + i) = dqNth qtX11_areAlikeInLast_6 i := dq_step qsX11_areAlikeInLast_5 rfl rfl
theorem qsX11_areAlikeInLast_7 : ∀ i, dqNth qtX11_areAlikeInLast_0 (112 + i) = dqNth qtX11_areAlikeInLast_7 i := dq_step qsX11_areAlikeInLast_6 rfl rfl
theorem qsX11_areAlikeInLast_8 : ∀ i, dqNth qtX11_areAlikeInLast_0 (128 + i) = dqNth qtX11_areAlikeInLast_8 i := dq_step qsX11_areAlikeInLast_7 rfl rfl
theorem qX11_areAlikeInLast_0 (i b : Nat) (h : dqNth qaX11_areAlikeInLast_0 i = some b) : DqBy cX11_areAlikeInLast (0 + i) b := dqBy_of qeX11_areAlikeInLast ((qsX11_areAlikeInLast_0 i).trans (dq_in h))
theorem qX11_areAlikeInLast_1 (i b : Nat) (h : dqNth qaX11_areAlikeInLast_1 i = some b) : DqBy cX11_areAlikeInLast (16 + i) b := dqBy_of qeX11_areAlikeInLast ((qsX11_areAlikeInLast_1 i).trans (dq_in h))
theorem qX11_areAlikeInLast_2 (i b : Nat) (h : dqNth qaX11_areAlikeInLast_2 i = some b) : DqBy cX11_areAlikeInLast (32 + i) b := dqBy_of qeX11_areAlikeInLast ((qsX11_areAlikeInLast_2 i).trans (dq_in h))
theorem qX11_areAlikeInLast_3 (i b : Nat) (h : dqNth qaX11_areAlikeInLast_3 i = some b) : DqBy cX11_areAlikeInLast (48 + i) b := dqBy_of qeX11_areAlikeInLast ((qsX11_areAlikeInLast_3 i).trans (dq_in h))
theorem qX11_areAlikeInLast_4 (i b : Nat) (h : dqNth qaX11_areAlikeInLast_4 i = some b) : DqBy cX11_areAlikeInLast (64 + i) b := dqBy_of qeX11_areAlikeInLast ((qsX11_areAlikeInLast_4 i).trans (dq_in h))
theorem qX11_areAlikeInLast_5 (i b : Nat) (h : dqNth qaX11_areAlikeInLast_5 i = some b) : DqBy cX11_areAlikeInLast (80 + i) b := dqBy_of qeX11_areAlikeInLast ((qsX11_areAlikeInLast_5 i).trans (dq_in h))
theorem qX11_areAlikeInLast_6 (i b : Nat) (h : dqNth qaX11_areAlikeInLast_6 i = some b) : DqBy cX11_areAlikeInLast (96 + i) b := dqBy_of qeX11_areAlikeInLast ((qsX11_areAlikeInLast_6 i).trans (dq_in h))
theorem qX11_areAlikeInLast_7 (i b : Nat) (h : dqNth qaX11_areAlikeInLast_7 i = some b) : DqBy cX11_areAlikeInLast (112 + i) b := dqBy_of qeX11_areAlikeInLast ((qsX11_areAlikeInLast_7 i).trans (dq_in h))
theorem qX11_areAlikeInLast_8 (i b : Nat) (h : dqNth qaX11_areAlikeInLast_8 i = some b) : DqBy cX11_areAlikeInLast (128 + i) b := dqBy_of qeX11_areAlikeInLast ((qsX11_areAlikeInLast_8 i).trans (dq_in h))
theorem dX11_areAlikeInLast_0 : decode cX11_areAlikeInLast 0 = .ok (.aload_n 0, 1) := @dq_o42 cX11_areAlikeInLast 0 (qX11_areAlikeInLast_0 0 42 rfl)
theorem dX11_areAlikeInLast_1 : decode cX11_areAlikeInLast 1 = .ok (.iconst 2, 1) := @dq_o5 cX11_areAlikeInLast 1 (qX11_areAlikeInLast_0 1 5 rfl)
theorem dX11_areAlikeInLast_2 : decode cX11_areAlikeInLast 2 = .ok (.iconst 2, 1) := @dq_o5 cX11_areAlikeInLast 2 (qX11_areAlikeInLast_0 2 5 rfl)
theorem dX11_areAlikeInLast_3 : decode cX11_areAlikeInLast 3 = .ok (.iconst 1, 1) := @dq_o4 cX11_areAlikeInLast 3 (qX11_areAlikeInLast_0 3 4 rfl)
theorem dX11_areAlikeInLast_4 : decode cX11_areAlikeInLast 4 = .ok (.invokevirtual 436, 3) := @dq_o182 cX11_areAlikeInLast 4 1 180 (qX11_areAlikeInLast_0 4 182 rfl) (qX11_areAlikeInLast_0 5 1 rfl) (qX11_areAlikeInLast_0 6 180 rfl)
theorem dX11_areAlikeInLast_7 : decode cX11_areAlikeInLast 7 = .ok (.ifCond .ne 5, 3) := @dq_o154 cX11_areAlikeInLast 7 0 5 (qX11_areAlikeInLast_0 7 154 rfl) (qX11_areAlikeInLast_0 8 0 rfl) (qX11_areAlikeInLast_0 9 5 rfl)
theorem dX11_areAlikeInLast_10 : decode cX11_areAlikeInLast 10 = .ok (.iconst 0, 1) := @dq_o3 cX11_areAlikeInLast 10 (qX11_areAlikeInLast_0 10 3 rfl)
theorem dX11_areAlikeInLast_11 : decode cX11_areAlikeInLast 11 = .ok (.ireturn, 1) := @dq_o172 cX11_areAlikeInLast 11 (qX11_areAlikeInLast_0 11 172 rfl)
theorem dX11_areAlikeInLast_12 : decode cX11_areAlikeInLast 12 = .ok (.aload_n 0, 1) := @dq_o42 cX11_areAlikeInLast 12 (qX11_areAlikeInLast_0 12 42 rfl)
theorem dX11_areAlikeInLast_13 : decode cX11_areAlikeInLast 13 = .ok (.iconst 0, 1) := @dq_o3 cX11_areAlikeInLast 13 (qX11_areAlikeInLast_0 13 3 rfl)
theorem dX11_areAlikeInLast_14 : decode cX11_areAlikeInLast 14 = .ok (.putfield 383, 3) := @dq_o181 cX11_areAlikeInLast 14 1 127 (qX11_areAlikeInLast_0 14 181 rfl) (qX11_areAlikeInLast_0 15 1 rfl) (qX11_areAlikeInLast_1 0 127 rfl)
theorem dX11_areAlikeInLast_17 : decode cX11_areAlikeInLast 17 = .ok (.iconst 0, 1) := @dq_o3 cX11_areAlikeInLast 17 (qX11_areAlikeInLast_1 1 3 rfl)
theorem dX11_areAlikeInLast_18 : decode cX11_areAlikeInLast 18 = .ok (.istore_n 1, 1) := @dq_o60 cX11_areAlikeInLast 18 (qX11_areAlikeInLast_1 2 60 rfl)
theorem dX11_areAlikeInLast_19 : decode cX11_areAlikeInLast 19 = .ok (.iload_n 1, 1) := @dq_o27 cX11_areAlikeInLast 19 (qX11_areAlikeInLast_1 3 27 rfl)
theorem dX11_areAlikeInLast_20 : decode cX11_areAlikeInLast 20 = .ok (.aload_n 0, 1) := @dq_o42 cX11_areAlikeInLast 20 (qX11_areAlikeInLast_1 4 42 rfl)
theorem dX11_areAlikeInLast_21 : decode cX11_areAlikeInLast 21 = .ok (.getfield 448, 3) := @dq_o180 cX11_areAlikeInLast 21 1 192 (qX11_areAlikeInLast_1 5 180 rfl) (qX11_areAlikeInLast_1 6 1 rfl) (qX11_areAlikeInLast_1 7 192 rfl)
theorem dX11_areAlikeInLast_24 : decode cX11_areAlikeInLast 24 = .ok (.if_icmp .ge 49, 3) := @dq_o162 cX11_areAlikeInLast 24 0 49 (qX11_areAlikeInLast_1 8 162 rfl) (qX11_areAlikeInLast_1 9 0 rfl) (qX11_areAlikeInLast_1 10 49 rfl)
theorem dX11_areAlikeInLast_27 : decode cX11_areAlikeInLast 27 = .ok (.iconst 0, 1) := @dq_o3 cX11_areAlikeInLast 27 (qX11_areAlikeInLast_1 11 3 rfl)
theorem dX11_areAlikeInLast_28 : decode cX11_areAlikeInLast 28 = .ok (.istore_n 2, 1) := @dq_o61 cX11_areAlikeInLast 28 (qX11_areAlikeInLast_1 12 61 rfl)
theorem dX11_areAlikeInLast_29 : decode cX11_areAlikeInLast 29 = .ok (.iload_n 2, 1) := @dq_o28 cX11_areAlikeInLast 29 (qX11_areAlikeInLast_1 13 28 rfl)
theorem dX11_areAlikeInLast_30 : decode cX11_areAlikeInLast 30 = .ok (.bipush 6, 2) := @dq_o16 cX11_areAlikeInLast 30 6 (qX11_areAlikeInLast_1 14 16 rfl) (qX11_areAlikeInLast_1 15 6 rfl)
theorem dX11_areAlikeInLast_32 : decode cX11_areAlikeInLast 32 = .ok (.if_icmp .ge 27, 3) := @dq_o162 cX11_areAlikeInLast 32 0 27 (qX11_areAlikeInLast_2 0 162 rfl) (qX11_areAlikeInLast_2 1 0 rfl) (qX11_areAlikeInLast_2 2 27 rfl)
theorem dX11_areAlikeInLast_35 : decode cX11_areAlikeInLast 35 = .ok (.aload_n 0, 1) := @dq_o42 cX11_areAlikeInLast 35 (qX11_areAlikeInLast_2 3 42 rfl)
theorem dX11_areAlikeInLast_36 : decode cX11_areAlikeInLast 36 = .ok (.bipush 40, 2) := @dq_o16 cX11_areAlikeInLast 36 40 (qX11_areAlikeInLast_2 4 16 rfl) (qX11_areAlikeInLast_2 5 40 rfl)
theorem dX11_areAlikeInLast_38 : decode cX11_areAlikeInLast 38 = .ok (.iload_n 2, 1) := @dq_o28 cX11_areAlikeInLast 38 (qX11_areAlikeInLast_2 6 28 rfl)
theorem dX11_areAlikeInLast_39 : decode cX11_areAlikeInLast 39 = .ok (.aload_n 0, 1) := @dq_o42 cX11_areAlikeInLast 39 (qX11_areAlikeInLast_2 7 42 rfl)
theorem dX11_areAlikeInLast_40 : decode cX11_areAlikeInLast 40 = .ok (.getfield 67, 3) := @dq_o180 cX11_areAlikeInLast 40 0 67 (qX11_areAlikeInLast_2 8 180 rfl) (qX11_areAlikeInLast_2 9 0 rfl) (qX11_areAlikeInLast_2 10 67 rfl)
theorem dX11_areAlikeInLast_43 : decode cX11_areAlikeInLast 43 = .ok (.bipush 6, 2) := @dq_o16 cX11_areAlikeInLast 43 6 (qX11_areAlikeInLast_2 11 16 rfl) (qX11_areAlikeInLast_2 12 6 rfl)
theorem dX11_areAlikeInLast_45 : decode cX11_areAlikeInLast 45 = .ok (.iload_n 1, 1) := @dq_o27 cX11_areAlikeInLast 45 (qX11_areAlikeInLast_2 13 27 rfl)
theorem dX11_areAlikeInLast_46 : decode cX11_areAlikeInLast 46 = .ok (.imul, 1) := @dq_o104 cX11_areAlikeInLast 46 (qX11_areAlikeInLast_2 14 104 rfl)
theorem dX11_areAlikeInLast_47 : decode cX11_areAlikeInLast 47 = .ok (.iload_n 2, 1) := @dq_o28 cX11_areAlikeInLast 47 (qX11_areAlikeInLast_2 15 28 rfl)
theorem dX11_areAlikeInLast_48 : decode cX11_areAlikeInLast 48 = .ok (.iadd, 1) := @dq_o96 cX11_areAlikeInLast 48 (qX11_areAlikeInLast_3 0 96 rfl)
theorem dX11_areAlikeInLast_49 : decode cX11_areAlikeInLast 49 = .ok (.laload, 1) := @dq_o47 cX11_areAlikeInLast 49 (qX11_areAlikeInLast_3 1 47 rfl)
theorem dX11_areAlikeInLast_50 : decode cX11_areAlikeInLast 50 = .ok (.invokevirtual 162, 3) := @dq_o182 cX11_areAlikeInLast 50 0 162 (qX11_areAlikeInLast_3 2 182 rfl) (qX11_areAlikeInLast_3 3 0 rfl) (qX11_areAlikeInLast_3 4 162 rfl)
theorem dX11_areAlikeInLast_53 : decode cX11_areAlikeInLast 53 = .ok (.iinc 2 1, 3) := @dq_o132 cX11_areAlikeInLast 53 2 1 (qX11_areAlikeInLast_3 5 132 rfl) (qX11_areAlikeInLast_3 6 2 rfl) (qX11_areAlikeInLast_3 7 1 rfl)
theorem dX11_areAlikeInLast_56 : decode cX11_areAlikeInLast 56 = .ok (.goto (-27), 3) := @dq_o167 cX11_areAlikeInLast 56 255 229 (qX11_areAlikeInLast_3 8 167 rfl) (qX11_areAlikeInLast_3 9 255 rfl) (qX11_areAlikeInLast_3 10 229 rfl)
theorem dX11_areAlikeInLast_59 : decode cX11_areAlikeInLast 59 = .ok (.aload_n 0, 1) := @dq_o42 cX11_areAlikeInLast 59 (qX11_areAlikeInLast_3 11 42 rfl)
theorem dX11_areAlikeInLast_60 : decode cX11_areAlikeInLast 60 = .ok (.iconst 2, 1) := @dq_o5 cX11_areAlikeInLast 60 (qX11_areAlikeInLast_3 12 5 rfl)
theorem dX11_areAlikeInLast_61 : decode cX11_areAlikeInLast 61 = .ok (.bipush 40, 2) := @dq_o16 cX11_areAlikeInLast 61 40 (qX11_areAlikeInLast_3 13 16 rfl) (qX11_areAlikeInLast_3 14 40 rfl)
theorem dX11_areAlikeInLast_63 : decode cX11_areAlikeInLast 63 = .ok (.iconst 3, 1) := @dq_o6 cX11_areAlikeInLast 63 (qX11_areAlikeInLast_3 15 6 rfl)
theorem dX11_areAlikeInLast_64 : decode cX11_areAlikeInLast 64 = .ok (.invokevirtual 442, 3) := @dq_o182 cX11_areAlikeInLast 64 1 186 (qX11_areAlikeInLast_4 0 182 rfl) (qX11_areAlikeInLast_4 1 1 rfl) (qX11_areAlikeInLast_4 2 186 rfl)
theorem dX11_areAlikeInLast_67 : decode cX11_areAlikeInLast 67 = .ok (.iinc 1 1, 3) := @dq_o132 cX11_areAlikeInLast 67 1 1 (qX11_areAlikeInLast_4 3 132 rfl) (qX11_areAlikeInLast_4 4 1 rfl) (qX11_areAlikeInLast_4 5 1 rfl)
theorem dX11_areAlikeInLast_70 : decode cX11_areAlikeInLast 70 = .ok (.goto (-51), 3) := @dq_o167 cX11_areAlikeInLast 70 255 205 (qX11_areAlikeInLast_4 6 167 rfl) (qX11_areAlikeInLast_4 7 255 rfl) (qX11_areAlikeInLast_4 8 205 rfl)
theorem dX11_areAlikeInLast_73 : decode cX11_areAlikeInLast 73 = .ok (.iconst 0, 1) := @dq_o3 cX11_areAlikeInLast 73 (qX11_areAlikeInLast_4 9 3 rfl)
theorem dX11_areAlikeInLast_74 : decode cX11_areAlikeInLast 74 = .ok (.istore_n 1, 1) := @dq_o60 cX11_areAlikeInLast 74 (qX11_areAlikeInLast_4 10 60 rfl)
theorem dX11_areAlikeInLast_75 : decode cX11_areAlikeInLast 75 = .ok (.iload_n 1, 1) := @dq_o27 cX11_areAlikeInLast 75 (qX11_areAlikeInLast_4 11 27 rfl)
theorem dX11_areAlikeInLast_76 : decode cX11_areAlikeInLast 76 = .ok (.aload_n 0, 1) := @dq_o42 cX11_areAlikeInLast 76 (qX11_areAlikeInLast_4 12 42 rfl)
theorem dX11_areAlikeInLast_77 : decode cX11_areAlikeInLast 77 = .ok (.invokevirtual 88, 3) := @dq_o182 cX11_areAlikeInLast 77 0 88 (qX11_areAlikeInLast_4 13 182 rfl) (qX11_areAlikeInLast_4 14 0 rfl) (qX11_areAlikeInLast_4 15 88 rfl)
theorem dX11_areAlikeInLast_80 : decode cX11_areAlikeInLast 80 = .ok (.if_icmp .ge 37, 3) := @dq_o162 cX11_areAlikeInLast 80 0 37 (qX11_areAlikeInLast_5 0 162 rfl) (qX11_areAlikeInLast_5 1 0 rfl) (qX11_areAlikeInLast_5 2 37 rfl)
theorem dX11_areAlikeInLast_83 : decode cX11_areAlikeInLast 83 = .ok (.aload_n 0, 1) := @dq_o42 cX11_areAlikeInLast 83 (qX11_areAlikeInLast_5 3 42 rfl)
theorem dX11_areAlikeInLast_84 : decode cX11_areAlikeInLast 84 = .ok (.iload_n 1, 1) := @dq_o27 cX11_areAlikeInLast 84 (qX11_areAlikeInLast_5 4 27 rfl)
theorem dX11_areAlikeInLast_85 : decode cX11_areAlikeInLast 85 = .ok (.invokevirtual 92, 3) := @dq_o182 cX11_areAlikeInLast 85 0 92 (qX11_areAlikeInLast_5 5 182 rfl) (qX11_areAlikeInLast_5 6 0 rfl) (qX11_areAlikeInLast_5 7 92 rfl)
theorem dX11_areAlikeInLast_88 : decode cX11_areAlikeInLast 88 = .ok (.iconst 2, 1) := @dq_o5 cX11_areAlikeInLast 88 (qX11_areAlikeInLast_5 8 5 rfl)
theorem dX11_areAlikeInLast_89 : decode cX11_areAlikeInLast 89 = .ok (.if_icmp .eq 6, 3) := @dq_o159 cX11_areAlikeInLast 89 0 6 (qX11_areAlikeInLast_5 9 159 rfl) (qX11_areAlikeInLast_5 10 0 rfl) (qX11_areAlikeInLast_5 11 6 rfl)
theorem dX11_areAlikeInLast_92 : decode cX11_areAlikeInLast 92 = .ok (.goto 19, 3) := @dq_o167 cX11_areAlikeInLast 92 0 19 (qX11_areAlikeInLast_5 12 167 rfl) (qX11_areAlikeInLast_5 13 0 rfl) (qX11_areAlikeInLast_5 14 19 rfl)
theorem dX11_areAlikeInLast_95 : decode cX11_areAlikeInLast 95 = .ok (.aload_n 0, 1) := @dq_o42 cX11_areAlikeInLast 95 (qX11_areAlikeInLast_5 15 42 rfl)
theorem dX11_areAlikeInLast_96 : decode cX11_areAlikeInLast 96 = .ok (.bipush 40, 2) := @dq_o16 cX11_areAlikeInLast 96 40 (qX11_areAlikeInLast_6 0 16 rfl) (qX11_areAlikeInLast_6 1 40 rfl)
theorem dX11_areAlikeInLast_98 : decode cX11_areAlikeInLast 98 = .ok (.iload_n 1, 1) := @dq_o27 cX11_areAlikeInLast 98 (qX11_areAlikeInLast_6 2 27 rfl)
theorem dX11_areAlikeInLast_99 : decode cX11_areAlikeInLast 99 = .ok (.lconst 1, 1) := @dq_o10 cX11_areAlikeInLast 99 (qX11_areAlikeInLast_6 3 10 rfl)
theorem dX11_areAlikeInLast_100 : decode cX11_areAlikeInLast 100 = .ok (.invokevirtual 439, 3) := @dq_o182 cX11_areAlikeInLast 100 1 183 (qX11_areAlikeInLast_6 4 182 rfl) (qX11_areAlikeInLast_6 5 1 rfl) (qX11_areAlikeInLast_6 6 183 rfl)
theorem dX11_areAlikeInLast_103 : decode cX11_areAlikeInLast 103 = .ok (.aload_n 0, 1) := @dq_o42 cX11_areAlikeInLast 103 (qX11_areAlikeInLast_6 7 42 rfl)
theorem dX11_areAlikeInLast_104 : decode cX11_areAlikeInLast 104 = .ok (.iconst 2, 1) := @dq_o5 cX11_areAlikeInLast 104 (qX11_areAlikeInLast_6 8 5 rfl)
theorem dX11_areAlikeInLast_105 : decode cX11_areAlikeInLast 105 = .ok (.bipush 40, 2) := @dq_o16 cX11_areAlikeInLast 105 40 (qX11_areAlikeInLast_6 9 16 rfl) (qX11_areAlikeInLast_6 10 40 rfl)
theorem dX11_areAlikeInLast_107 : decode cX11_areAlikeInLast 107 = .ok (.iconst 3, 1) := @dq_o6 cX11_areAlikeInLast 107 (qX11_areAlikeInLast_6 11 6 rfl)
theorem dX11_areAlikeInLast_108 : decode cX11_areAlikeInLast 108 = .ok (.invokevirtual 442, 3) := @dq_o182 cX11_areAlikeInLast 108 1 186 (qX11_areAlikeInLast_6 12 182 rfl) (qX11_areAlikeInLast_6 13 1 rfl) (qX11_areAlikeInLast_6 14 186 rfl)
theorem dX11_areAlikeInLast_111 : decode cX11_areAlikeInLast 111 = .ok (.iinc 1 1, 3) := @dq_o132 cX11_areAlikeInLast 111 1 1 (qX11_areAlikeInLast_6 15 132 rfl) (qX11_areAlikeInLast_7 0 1 rfl) (qX11_areAlikeInLast_7 1 1 rfl)
theorem dX11_areAlikeInLast_114 : decode cX11_areAlikeInLast 114 = .ok (.goto (-39), 3) := @dq_o167 cX11_areAlikeInLast 114 255 217 (qX11_areAlikeInLast_7 2 167 rfl) (qX11_areAlikeInLast_7 3 255 rfl) (qX11_areAlikeInLast_7 4 217 rfl)
theorem dX11_areAlikeInLast_117 : decode cX11_areAlikeInLast 117 = .ok (.aload_n 0, 1) := @dq_o42 cX11_areAlikeInLast 117 (qX11_areAlikeInLast_7 5 42 rfl)
theorem dX11_areAlikeInLast_118 : decode cX11_areAlikeInLast 118 = .ok (.iconst 2, 1) := @dq_o5 cX11_areAlikeInLast 118 (qX11_areAlikeInLast_7 6 5 rfl)
theorem dX11_areAlikeInLast_119 : decode cX11_areAlikeInLast 119 = .ok (.iconst 1, 1) := @dq_o4 cX11_areAlikeInLast 119 (qX11_areAlikeInLast_7 7 4 rfl)
theorem dX11_areAlikeInLast_120 : decode cX11_areAlikeInLast 120 = .ok (.iconst 3, 1) := @dq_o6 cX11_areAlikeInLast 120 (qX11_areAlikeInLast_7 8 6 rfl)
theorem dX11_areAlikeInLast_121 : decode cX11_areAlikeInLast 121 = .ok (.invokevirtual 445, 3) := @dq_o182 cX11_areAlikeInLast 121 1 189 (qX11_areAlikeInLast_7 9 182 rfl) (qX11_areAlikeInLast_7 10 1 rfl) (qX11_areAlikeInLast_7 11 189 rfl)
theorem dX11_areAlikeInLast_124 : decode cX11_areAlikeInLast 124 = .ok (.aload_n 0, 1) := @dq_o42 cX11_areAlikeInLast 124 (qX11_areAlikeInLast_7 12 42 rfl)
theorem dX11_areAlikeInLast_125 : decode cX11_areAlikeInLast 125 = .ok (.invokevirtual 389, 3) := @dq_o182 cX11_areAlikeInLast 125 1 133 (qX11_areAlikeInLast_7 13 182 rfl) (qX11_areAlikeInLast_7 14 1 rfl) (qX11_areAlikeInLast_7 15 133 rfl)
theorem dX11_areAlikeInLast_128 : decode cX11_areAlikeInLast 128 = .ok (.ireturn, 1) := @dq_o172 cX11_areAlikeInLast 128 (qX11_areAlikeInLast_8 0 172 rfl)
abbrev qaX11_alike_0 : List Nat := [42, 3, 181, 0, 1, 42, 27, 182, 0, 232, 153, 0, 18, 42, 28, 182]
abbrev qaX11_alike_1 : List Nat := [0, 232, 153, 0, 10, 42, 182, 0, 235, 154, 0, 5, 2, 172, 42, 3]
abbrev qaX11_alike_2 : List Nat := [27, 182, 0, 241, 42, 4, 28, 182, 0, 241, 3, 62, 29, 42, 182, 0]
abbrev qaX11_alike_3 : List Nat := [88, 162, 0, 50, 42, 42, 3, 29, 182, 0, 166, 20, 1, 198, 20, 1]
abbrev qaX11_alike_4 : List Nat := [200, 182, 0, 101, 153, 0, 22, 42, 42, 4, 29, 182, 0, 166, 20, 1]
abbrev qaX11_alike_5 : List Nat := [198, 20, 1, 200, 182, 0, 101, 154, 0, 6, 16, 254, 172, 132, 3, 1]
abbrev qaX11_alike_6 : List Nat := [167, 255, 204, 42, 182, 1, 202, 153, 0, 7, 4, 167, 0, 4, 3, 172]
def qtX11_alike_7 : List Nat := []
def qtX11_alike_6 : List Nat := qaX11_alike_6 ++ qtX11_alike_7
def qtX11_alike_5 : List Nat := qaX11_alike_5 ++ qtX11_alike_6
def qtX11_alike_4 : List Nat := qaX11_alike_4 ++ qtX11_alike_5
def qtX11_alike_3 : List Nat := qaX11_alike_3 ++ qtX11_alike_4
def qtX11_alike_2 : List Nat := qaX11_alike_2 ++ qtX11_alike_3
def qtX11_alike_1 : List Nat := qaX11_alike_1 ++ qtX11_alike_2
def qtX11_alike_0 : List Nat := qaX11_alike_0 ++ qtX11_alike_1
theorem qeX11_alike : cX11_alike.data.toList.map UInt8.toNat = qtX11_alike_0 := by decide +kernel
theorem qsX11_alike_0 : ∀ i, dqNth qtX11_alike_0 (0 + i) = dqNth qtX11_alike_0 i := fun i => by rw [Nat.zero_add]
theorem qsX11_alike_1 : ∀ i, dqNth qtX11_alike_0 (16 + i) = dqNth qtX11_alike_1 i := dq_step qsX11_alike_0 rfl rfl
theorem qsX11_alike_2 : ∀ i, dqNth qtX11_alike_0 (32 + i) = dqNth qtX11_alike_2 i := dq_step qsX11_alike_1 rfl rfl
theorem qsX11_alike_3 : ∀ i, dqNth qtX11_alike_0 (48 + i) = dqNth qtX11_alike_3 i := dq_step qsX11_alike_2 rfl rfl
theorem qsX11_alike_4 : ∀ i, dqNth qtX11_alike_0 (64 + i) = dqNth qtX11_alike_4 i := dq_step qsX11_alike_3 rfl rfl
theorem qsX11_alike_5 : ∀ i, dqNth qtX11_alike_0 (80 + i) = dqNth qtX11_alike_5 i := dq_step qsX11_alike_4 rfl rfl
theorem qsX11_alike_6 : ∀ i, dqNth qtX11_alike_0 (96 + i) = dqNth qtX11_alike_6 i := dq_step qsX11_alike_5 rfl rfl
theorem qX11_alike_0 (i b : Nat) (h : dqNth qaX11_alike_0 i = some b) : DqBy cX11_alike (0 + i) b := dqBy_of qeX11_alike ((qsX11_alike_0 i).trans (dq_in h))
theorem qX11_alike_1 (i b : Nat) (h : dqNth qaX11_alike_1 i = some b) : DqBy cX11_alike (16 + i) b := dqBy_of qeX11_alike ((qsX11_alike_1 i).trans (dq_in h))
theorem qX11_alike_2 (i b : Nat) (h : dqNth qaX11_alike_2 i = some b) : DqBy cX11_alike (32 + i) b := dqBy_of qeX11_alike ((qsX11_alike_2 i).trans (dq_in h))
theorem qX11_alike_3 (i b : Nat) (h : dqNth qaX11_alike_3 i = some b) : DqBy cX11_alike (48 + i) b := dqBy_of qeX11_alike ((qsX11_alike_3 i).trans (dq_in h))
theorem qX11_alike_4 (i b : Nat) (h : dqNth qaX11_alike_4 i = some b) : DqBy cX11_alike (64 + i) b := dqBy_of qeX11_alike ((qsX11_alike_4 i).trans (dq_in h))
theorem qX11_alike_5 (i b : Nat) (h : dqNth qaX11_alike_5 i = some b) : DqBy cX11_alike (80 + i) b := dqBy_of qeX11_alike ((qsX11_alike_5 i).trans (dq_in h))
theorem qX11_alike_6 (i b : Nat) (h : dqNth qaX11_alike_6 i = some b) : DqBy cX11_alike (96 + i) b := dqBy_of qeX11_alike ((qsX11_alike_6 i).trans (dq_in h))
theorem dX11_alike_0 : decode cX11_alike 0 = .ok (.aload_n 0, 1) := @dq_o42 cX11_alike 0 (qX11_alike_0 0 42 rfl)
theorem dX11_alike_1 : decode cX11_alike 1 = .ok (.iconst 0, 1) := @dq_o3 cX11_alike 1 (qX11_alike_0 1 3 rfl)
theorem dX11_alike_2 : decode cX11_alike 2 = .ok (.putfield 1, 3) := @dq_o181 cX11_alike 2 0 1 (qX11_alike_0 2 181 rfl) (qX11_alike_0 3 0 rfl) (qX11_alike_0 4 1 rfl)
theorem dX11_alike_5 : decode cX11_alike 5 = .ok (.aload_n 0, 1) := @dq_o42 cX11_alike 5 (qX11_alike_0 5 42 rfl)
theorem dX11_alike_6 : decode cX11_alike 6 = .ok (.iload_n 1, 1) := @dq_o27 cX11_alike 6 (qX11_alike_0 6 27 rfl)
theorem dX11_alike_7 : decode cX11_alike 7 = .ok (.invokevirtual 232, 3) := @dq_o182 cX11_alike 7 0 232 (qX11_alike_0 7 182 rfl) (qX11_alike_0 8 0 rfl) (qX11_alike_0 9 232 rfl)
theorem dX11_alike_10 : decode cX11_alike 10 = .ok (.ifCond .eq 18, 3) := @dq_o153 cX11_alike 10 0 18 (qX11_alike_0 10 153 rfl) (qX11_alike_0 11 0 rfl) (qX11_alike_0 12 18 rfl)
theorem dX11_alike_13 : decode cX11_alike 13 = .ok (.aload_n 0, 1) := @dq_o42 cX11_alike 13 (qX11_alike_0 13 42 rfl)
theorem dX11_alike_14 : decode cX11_alike 14 = .ok (.iload_n 2, 1) := @dq_o28 cX11_alike 14 (qX11_alike_0 14 28 rfl)
theorem dX11_alike_15 : decode cX11_alike 15 = .ok (.invokevirtual 232, 3) := @dq_o182 cX11_alike 15 0 232 (qX11_alike_0 15 182 rfl) (qX11_alike_1 0 0 rfl) (qX11_alike_1 1 232 rfl)
theorem dX11_alike_18 : decode cX11_alike 18 = .ok (.ifCond .eq 10, 3) := @dq_o153 cX11_alike 18 0 10 (qX11_alike_1 2 153 rfl) (qX11_alike_1 3 0 rfl) (qX11_alike_1 4 10 rfl)
theorem dX11_alike_21 : decode cX11_alike 21 = .ok (.aload_n 0, 1) := @dq_o42 cX11_alike 21 (qX11_alike_1 5 42 rfl)
theorem dX11_alike_22 : decode cX11_alike 22 = .ok (.invokevirtual 235, 3) := @dq_o182 cX11_alike 22 0 235 (qX11_alike_1 6 182 rfl) (qX11_alike_1 7 0 rfl) (qX11_alike_1 8 235 rfl)
theorem dX11_alike_25 : decode cX11_alike 25 = .ok (.ifCond .ne 5, 3) := @dq_o154 cX11_alike 25 0 5 (qX11_alike_1 9 154 rfl) (qX11_alike_1 10 0 rfl) (qX11_alike_1 11 5 rfl)
theorem dX11_alike_28 : decode cX11_alike 28 = .ok (.iconst (-1), 1) := @dq_o2 cX11_alike 28 (qX11_alike_1 12 2 rfl)
theorem dX11_alike_29 : decode cX11_alike 29 = .ok (.ireturn, 1) := @dq_o172 cX11_alike 29 (qX11_alike_1 13 172 rfl)
theorem dX11_alike_30 : decode cX11_alike 30 = .ok (.aload_n 0, 1) := @dq_o42 cX11_alike 30 (qX11_alike_1 14 42 rfl)
theorem dX11_alike_31 : decode cX11_alike 31 = .ok (.iconst 0, 1) := @dq_o3 cX11_alike 31 (qX11_alike_1 15 3 rfl)
theorem dX11_alike_32 : decode cX11_alike 32 = .ok (.iload_n 1, 1) := @dq_o27 cX11_alike 32 (qX11_alike_2 0 27 rfl)
theorem dX11_alike_33 : decode cX11_alike 33 = .ok (.invokevirtual 241, 3) := @dq_o182 cX11_alike 33 0 241 (qX11_alike_2 1 182 rfl) (qX11_alike_2 2 0 rfl) (qX11_alike_2 3 241 rfl)
theorem dX11_alike_36 : decode cX11_alike 36 = .ok (.aload_n 0, 1) := @dq_o42 cX11_alike 36 (qX11_alike_2 4 42 rfl)
theorem dX11_alike_37 : decode cX11_alike 37 = .ok (.iconst 1, 1) := @dq_o4 cX11_alike 37 (qX11_alike_2 5 4 rfl)
theorem dX11_alike_38 : decode cX11_alike 38 = .ok (.iload_n 2, 1) := @dq_o28 cX11_alike 38 (qX11_alike_2 6 28 rfl)
theorem dX11_alike_39 : decode cX11_alike 39 = .ok (.invokevirtual 241, 3) := @dq_o182 cX11_alike 39 0 241 (qX11_alike_2 7 182 rfl) (qX11_alike_2 8 0 rfl) (qX11_alike_2 9 241 rfl)
theorem dX11_alike_42 : decode cX11_alike 42 = .ok (.iconst 0, 1) := @dq_o3 cX11_alike 42 (qX11_alike_2 10 3 rfl)
theorem dX11_alike_43 : decode cX11_alike 43 = .ok (.istore_n 3, 1) := @dq_o62 cX11_alike 43 (qX11_alike_2 11 62 rfl)
theorem dX11_alike_44 : decode cX11_alike 44 = .ok (.iload_n 3, 1) := @dq_o29 cX11_alike 44 (qX11_alike_2 12 29 rfl)
theorem dX11_alike_45 : decode cX11_alike 45 = .ok (.aload_n 0, 1) := @dq_o42 cX11_alike 45 (qX11_alike_2 13 42 rfl)
theorem dX11_alike_46 : decode cX11_alike 46 = .ok (.invokevirtual 88, 3) := @dq_o182 cX11_alike 46 0 88 (qX11_alike_2 14 182 rfl) (qX11_alike_2 15 0 rfl) (qX11_alike_3 0 88 rfl)
theorem dX11_alike_49 : decode cX11_alike 49 = .ok (.if_icmp .ge 50, 3) := @dq_o162 cX11_alike 49 0 50 (qX11_alike_3 1 162 rfl) (qX11_alike_3 2 0 rfl) (qX11_alike_3 3 50 rfl)
theorem dX11_alike_52 : decode cX11_alike 52 = .ok (.aload_n 0, 1) := @dq_o42 cX11_alike 52 (qX11_alike_3 4 42 rfl)
theorem dX11_alike_53 : decode cX11_alike 53 = .ok (.aload_n 0, 1) := @dq_o42 cX11_alike 53 (qX11_alike_3 5 42 rfl)
theorem dX11_alike_54 : decode cX11_alike 54 = .ok (.iconst 0, 1) := @dq_o3 cX11_alike 54 (qX11_alike_3 6 3 rfl)
theorem dX11_alike_55 : decode cX11_alike 55 = .ok (.iload_n 3, 1) := @dq_o29 cX11_alike 55 (qX11_alike_3 7 29 rfl)
theorem dX11_alike_56 : decode cX11_alike 56 = .ok (.invokevirtual 166, 3) := @dq_o182 cX11_alike 56 0 166 (qX11_alike_3 8 182 rfl) (qX11_alike_3 9 0 rfl) (qX11_alike_3 10 166 rfl)
theorem dX11_alike_59 : decode cX11_alike 59 = .ok (.ldc2_w 454, 3) := @dq_o20 cX11_alike 59 1 198 (qX11_alike_3 11 20 rfl) (qX11_alike_3 12 1 rfl) (qX11_alike_3 13 198 rfl)
theorem dX11_alike_62 : decode cX11_alike 62 = .ok (.ldc2_w 456, 3) := @dq_o20 cX11_alike 62 1 200 (qX11_alike_3 14 20 rfl) (qX11_alike_3 15 1 rfl) (qX11_alike_4 0 200 rfl)
theorem dX11_alike_65 : decode cX11_alike 65 = .ok (.invokevirtual 101, 3) := @dq_o182 cX11_alike 65 0 101 (qX11_alike_4 1 182 rfl) (qX11_alike_4 2 0 rfl) (qX11_alike_4 3 101 rfl)
theorem dX11_alike_68 : decode cX11_alike 68 = .ok (.ifCond .eq 22, 3) := @dq_o153 cX11_alike 68 0 22 (qX11_alike_4 4 153 rfl) (qX11_alike_4 5 0 rfl) (qX11_alike_4 6 22 rfl)
theorem dX11_alike_71 : decode cX11_alike 71 = .ok (.aload_n 0, 1) := @dq_o42 cX11_alike 71 (qX11_alike_4 7 42 rfl)
theorem dX11_alike_72 : decode cX11_alike 72 = .ok (.aload_n 0, 1) := @dq_o42 cX11_alike 72 (qX11_alike_4 8 42 rfl)
theorem dX11_alike_73 : decode cX11_alike 73 = .ok (.iconst 1, 1) := @dq_o4 cX11_alike 73 (qX11_alike_4 9 4 rfl)
theorem dX11_alike_74 : decode cX11_alike 74 = .ok (.iload_n 3, 1) := @dq_o29 cX11_alike 74 (qX11_alike_4 10 29 rfl)
theorem dX11_alike_75 : decode cX11_alike 75 = .ok (.invokevirtual 166, 3) := @dq_o182 cX11_alike 75 0 166 (qX11_alike_4 11 182 rfl) (qX11_alike_4 12 0 rfl) (qX11_alike_4 13 166 rfl)
theorem dX11_alike_78 : decode cX11_alike 78 = .ok (.ldc2_w 454, 3) := @dq_o20 cX11_alike 78 1 198 (qX11_alike_4 14 20 rfl) (qX11_alike_4 15 1 rfl) (qX11_alike_5 0 198 rfl)
theorem dX11_alike_81 : decode cX11_alike 81 = .ok (.ldc2_w 456, 3) := @dq_o20 cX11_alike 81 1 200 (qX11_alike_5 1 20 rfl) (qX11_alike_5 2 1 rfl) (qX11_alike_5 3 200 rfl)
theorem dX11_alike_84 : decode cX11_alike 84 = .ok (.invokevirtual 101, 3) := @dq_o182 cX11_alike 84 0 101 (qX11_alike_5 4 182 rfl) (qX11_alike_5 5 0 rfl) (qX11_alike_5 6 101 rfl)
theorem dX11_alike_87 : decode cX11_alike 87 = .ok (.ifCond .ne 6, 3) := @dq_o154 cX11_alike 87 0 6 (qX11_alike_5 7 154 rfl) (qX11_alike_5 8 0 rfl) (qX11_alike_5 9 6 rfl)
theorem dX11_alike_90 : decode cX11_alike 90 = .ok (.bipush (-2), 2) := @dq_o16 cX11_alike 90 254 (qX11_alike_5 10 16 rfl) (qX11_alike_5 11 254 rfl)
theorem dX11_alike_92 : decode cX11_alike 92 = .ok (.ireturn, 1) := @dq_o172 cX11_alike 92 (qX11_alike_5 12 172 rfl)
theorem dX11_alike_93 : decode cX11_alike 93 = .ok (.iinc 3 1, 3) := @dq_o132 cX11_alike 93 3 1 (qX11_alike_5 13 132 rfl) (qX11_alike_5 14 3 rfl) (qX11_alike_5 15 1 rfl)
theorem dX11_alike_96 : decode cX11_alike 96 = .ok (.goto (-52), 3) := @dq_o167 cX11_alike 96 255 204 (qX11_alike_6 0 167 rfl) (qX11_alike_6 1 255 rfl) (qX11_alike_6 2 204 rfl)
theorem dX11_alike_99 : decode cX11_alike 99 = .ok (.aload_n 0, 1) := @dq_o42 cX11_alike 99 (qX11_alike_6 3 42 rfl)
theorem dX11_alike_100 : decode cX11_alike 100 = .ok (.invokevirtual 458, 3) := @dq_o182 cX11_alike 100 1 202 (qX11_alike_6 4 182 rfl) (qX11_alike_6 5 1 rfl) (qX11_alike_6 6 202 rfl)
theorem dX11_alike_103 : decode cX11_alike 103 = .ok (.ifCond .eq 7, 3) := @dq_o153 cX11_alike 103 0 7 (qX11_alike_6 7 153 rfl) (qX11_alike_6 8 0 rfl) (qX11_alike_6 9 7 rfl)
theorem dX11_alike_106 : decode cX11_alike 106 = .ok (.iconst 1, 1) := @dq_o4 cX11_alike 106 (qX11_alike_6 10 4 rfl)
theorem dX11_alike_107 : decode cX11_alike 107 = .ok (.goto 4, 3) := @dq_o167 cX11_alike 107 0 4 (qX11_alike_6 11 167 rfl) (qX11_alike_6 12 0 rfl) (qX11_alike_6 13 4 rfl)
theorem dX11_alike_110 : decode cX11_alike 110 = .ok (.iconst 0, 1) := @dq_o3 cX11_alike 110 (qX11_alike_6 14 3 rfl)
theorem dX11_alike_111 : decode cX11_alike 111 = .ok (.ireturn, 1) := @dq_o172 cX11_alike 111 (qX11_alike_6 15 172 rfl)
abbrev qaX11_powers_0 : List Nat := [42, 3, 181, 0, 1, 42, 27, 182, 0, 232, 153, 0, 38, 42, 182, 0]
abbrev qaX11_powers_1 : List Nat := [235, 153, 0, 31, 42, 28, 133, 10, 42, 182, 0, 88, 133, 182, 0, 101]
abbrev qaX11_powers_2 : List Nat := [153, 0, 16, 42, 29, 133, 9, 20, 0, 118, 182, 0, 101, 154, 0, 7]
abbrev qaX11_powers_3 : List Nat := [20, 1, 205, 173, 42, 3, 27, 182, 0, 241, 9, 55, 4, 3, 54, 6]
abbrev qaX11_powers_4 : List Nat := [21, 6, 29, 163, 0, 55, 42, 3, 4, 21, 6, 182, 0, 251, 22, 4]
abbrev qaX11_powers_5 : List Nat := [29, 21, 6, 100, 5, 112, 154, 0, 7, 10, 167, 0, 6, 20, 0, 221]
abbrev qaX11_powers_6 : List Nat := [42, 29, 21, 6, 182, 0, 218, 105, 42, 4, 28, 4, 100, 182, 0, 166]
abbrev qaX11_powers_7 : List Nat := [105, 97, 55, 4, 132, 6, 1, 167, 255, 201, 22, 4, 173]
def qtX11_powers_8 : List Nat := []
def qtX11_powers_7 : List Nat := qaX11_powers_7 ++ qtX11_powers_8
def qtX11_powers_6 : List Nat := qaX11_powers_6 ++ qtX11_powers_7
def qtX11_powers_5 : List Nat := qaX11_powers_5 ++ qtX11_powers_6
def qtX11_powers_4 : List Nat := qaX11_powers_4 ++ qtX11_powers_5
def qtX11_powers_3 : List Nat := qaX11_powers_3 ++ qtX11_powers_4
def qtX11_powers_2 : List Nat := qaX11_powers_2 ++ qtX11_powers_3
def qtX11_powers_1 : List Nat := qaX11_powers_1 ++ qtX11_powers_2
def qtX11_powers_0 : List Nat := qaX11_powers_0 ++ qtX11_powers_1
theorem qeX11_powers : cX11_powers.data.toList.map UInt8.toNat = qtX11_powers_0 := by decide +kernel
theorem qsX11_powers_0 : ∀ i, dqNth qtX11_powers_0 (0 + i) = dqNth qtX11_powers_0 i := fun i => by rw [Nat.zero_add]
theorem qsX11_powers_1 : ∀ i, dqNth qtX11_powers_0 (16 + i) = dqNth qtX11_powers_1 i := dq_step qsX11_powers_0 rfl rfl
theorem qsX11_powers_2 : ∀ i, dqNth qtX11_powers_0 (32 + i) = dqNth qtX11_powers_2 i := dq_step qsX11_powers_1 rfl rfl
theorem qsX11_powers_3 : ∀ i, dqNth qtX11_powers_0 (48 + i) = dqNth qtX11_powers_3 i := dq_step qsX11_powers_2 rfl rfl
theorem qsX11_powers_4 : ∀ i, dqNth qtX11_powers_0 (64 + i) = dqNth qtX11_powers_4 i := dq_step qsX11_powers_3 rfl rfl
theorem qsX11_powers_5 : ∀ i, dqNth qtX11_powers_0 (80 + i) = dqNth qtX11_powers_5 i := dq_step qsX11_powers_4 rfl rfl
theorem qsX11_powers_6 : ∀ i, dqNth qtX11_powers_0 (96 + i) = dqNth qtX11_powers_6 i := dq_step qsX11_powers_5 rfl rfl
theorem qsX11_powers_7 : ∀ i, dqNth qtX11_powers_0 (112 + i) = dqNth qtX11_powers_7 i := dq_step qsX11_powers_6 rfl rfl
theorem qX11_powers_0 (i b : Nat) (h : dqNth qaX11_powers_0 i = some b) : DqBy cX11_powers (0 + i) b := dqBy_of qeX11_powers ((qsX11_powers_0 i).trans (dq_in h))
theorem qX11_powers_1 (i b : Nat) (h : dqNth qaX11_powers_1 i = some b) : DqBy cX11_powers (16 + i) b := dqBy_of qeX11_powers ((qsX11_powers_1 i).trans (dq_in h))
theorem qX11_powers_2 (i b : Nat) (h : dqNth qaX11_powers_2 i = some b) : DqBy cX11_powers (32 + i) b := dqBy_of qeX11_powers ((qsX11_powers_2 i).trans (dq_in h))
theorem qX11_powers_3 (i b : Nat) (h : dqNth qaX11_powers_3 i = some b) : DqBy cX11_powers (48 + i) b := dqBy_of qeX11_powers ((qsX11_powers_3 i).trans (dq_in h))
theorem qX11_powers_4 (i b : Nat) (h : dqNth qaX11_powers_4 i = some b) : DqBy cX11_powers (64 + i) b := dqBy_of qeX11_powers ((qsX11_powers_4 i).trans (dq_in h))
theorem qX11_powers_5 (i b : Nat) (h : dqNth qaX11_powers_5 i = some b) : DqBy cX11_powers (80 + i) b := dqBy_of qeX11_powers ((qsX11_powers_5 i).trans (dq_in h))
theorem qX11_powers_6 (i b : Nat) (h : dqNth qaX11_powers_6 i = some b) : DqBy cX11_powers (96 + i) b := dqBy_of qeX11_powers ((qsX11_powers_6 i).trans (dq_in h))
theorem qX11_powers_7 (i b : Nat) (h : dqNth qaX11_powers_7 i = some b) : DqBy cX11_powers (112 + i) b := dqBy_of qeX11_powers ((qsX11_powers_7 i).trans (dq_in h))
theorem dX11_powers_0 : decode cX11_powers 0 = .ok (.aload_n 0, 1) := @dq_o42 cX11_powers 0 (qX11_powers_0 0 42 rfl)
theorem dX11_powers_1 : decode cX11_powers 1 = .ok (.iconst 0, 1) := @dq_o3 cX11_powers 1 (qX11_powers_0 1 3 rfl)
theorem dX11_powers_2 : decode cX11_powers 2 = .ok (.putfield 1, 3) := @dq_o181 cX11_powers 2 0 1 (qX11_powers_0 2 181 rfl) (qX11_powers_0 3 0 rfl) (qX11_powers_0 4 1 rfl)
theorem dX11_powers_5 : decode cX11_powers 5 = .ok (.aload_n 0, 1) := @dq_o42 cX11_powers 5 (qX11_powers_0 5 42 rfl)
theorem dX11_powers_6 : decode cX11_powers 6 = .ok (.iload_n 1, 1) := @dq_o27 cX11_powers 6 (qX11_powers_0 6 27 rfl)
theorem dX11_powers_7 : decode cX11_powers 7 = .ok (.invokevirtual 232, 3) := @dq_o182 cX11_powers 7 0 232 (qX11_powers_0 7 182 rfl) (qX11_powers_0 8 0 rfl) (qX11_powers_0 9 232 rfl)
theorem dX11_powers_10 : decode cX11_powers 10 = .ok (.ifCond .eq 38, 3) := @dq_o153 cX11_powers 10 0 38 (qX11_powers_0 10 153 rfl) (qX11_powers_0 11 0 rfl) (qX11_powers_0 12 38 rfl)
theorem dX11_powers_13 : decode cX11_powers 13 = .ok (.aload_n 0, 1) := @dq_o42 cX11_powers 13 (qX11_powers_0 13 42 rfl)
theorem dX11_powers_14 : decode cX11_powers 14 = .ok (.invokevirtual 235, 3) := @dq_o182 cX11_powers 14 0 235 (qX11_powers_0 14 182 rfl) (qX11_powers_0 15 0 rfl) (qX11_powers_1 0 235 rfl)
theorem dX11_powers_17 : decode cX11_powers 17 = .ok (.ifCond .eq 31, 3) := @dq_o153 cX11_powers 17 0 31 (qX11_powers_1 1 153 rfl) (qX11_powers_1 2 0 rfl) (qX11_powers_1 3 31 rfl)
theorem dX11_powers_20 : decode cX11_powers 20 = .ok (.aload_n 0, 1) := @dq_o42 cX11_powers 20 (qX11_powers_1 4 42 rfl)
theorem dX11_powers_21 : decode cX11_powers 21 = .ok (.iload_n 2, 1) := @dq_o28 cX11_powers 21 (qX11_powers_1 5 28 rfl)
theorem dX11_powers_22 : decode cX11_powers 22 = .ok (.i2l, 1) := @dq_o133 cX11_powers 22 (qX11_powers_1 6 133 rfl)
theorem dX11_powers_23 : decode cX11_powers 23 = .ok (.lconst 1, 1) := @dq_o10 cX11_powers 23 (qX11_powers_1 7 10 rfl)
theorem dX11_powers_24 : decode cX11_powers 24 = .ok (.aload_n 0, 1) := @dq_o42 cX11_powers 24 (qX11_powers_1 8 42 rfl)
theorem dX11_powers_25 : decode cX11_powers 25 = .ok (.invokevirtual 88, 3) := @dq_o182 cX11_powers 25 0 88 (qX11_powers_1 9 182 rfl) (qX11_powers_1 10 0 rfl) (qX11_powers_1 11 88 rfl)
theorem dX11_powers_28 : decode cX11_powers 28 = .ok (.i2l, 1) := @dq_o133 cX11_powers 28 (qX11_powers_1 12 133 rfl)
theorem dX11_powers_29 : decode cX11_powers 29 = .ok (.invokevirtual 101, 3) := @dq_o182 cX11_powers 29 0 101 (qX11_powers_1 13 182 rfl) (qX11_powers_1 14 0 rfl) (qX11_powers_1 15 101 rfl)
theorem dX11_powers_32 : decode cX11_powers 32 = .ok (.ifCond .eq 16, 3) := @dq_o153 cX11_powers 32 0 16 (qX11_powers_2 0 153 rfl) (qX11_powers_2 1 0 rfl) (qX11_powers_2 2 16 rfl)
theorem dX11_powers_35 : decode cX11_powers 35 = .ok (.aload_n 0, 1) := @dq_o42 cX11_powers 35 (qX11_powers_2 3 42 rfl)
theorem dX11_powers_36 : decode cX11_powers 36 = .ok (.iload_n 3, 1) := @dq_o29 cX11_powers 36 (qX11_powers_2 4 29 rfl)
theorem dX11_powers_37 : decode cX11_powers 37 = .ok (.i2l, 1) := @dq_o133 cX11_powers 37 (qX11_powers_2 5 133 rfl)
theorem dX11_powers_38 : decode cX11_powers 38 = .ok (.lconst 0, 1) := @dq_o9 cX11_powers 38 (qX11_powers_2 6 9 rfl)
theorem dX11_powers_39 : decode cX11_powers 39 = .ok (.ldc2_w 118, 3) := @dq_o20 cX11_powers 39 0 118 (qX11_powers_2 7 20 rfl) (qX11_powers_2 8 0 rfl) (qX11_powers_2 9 118 rfl)
theorem dX11_powers_42 : decode cX11_powers 42 = .ok (.invokevirtual 101, 3) := @dq_o182 cX11_powers 42 0 101 (qX11_powers_2 10 182 rfl) (qX11_powers_2 11 0 rfl) (qX11_powers_2 12 101 rfl)
theorem dX11_powers_45 : decode cX11_powers 45 = .ok (.ifCond .ne 7, 3) := @dq_o154 cX11_powers 45 0 7 (qX11_powers_2 13 154 rfl) (qX11_powers_2 14 0 rfl) (qX11_powers_2 15 7 rfl)
theorem dX11_powers_48 : decode cX11_powers 48 = .ok (.ldc2_w 461, 3) := @dq_o20 cX11_powers 48 1 205 (qX11_powers_3 0 20 rfl) (qX11_powers_3 1 1 rfl) (qX11_powers_3 2 205 rfl)
theorem dX11_powers_51 : decode cX11_powers 51 = .ok (.lreturn, 1) := @dq_o173 cX11_powers 51 (qX11_powers_3 3 173 rfl)
theorem dX11_powers_52 : decode cX11_powers 52 = .ok (.aload_n 0, 1) := @dq_o42 cX11_powers 52 (qX11_powers_3 4 42 rfl)
theorem dX11_powers_53 : decode cX11_powers 53 = .ok (.iconst 0, 1) := @dq_o3 cX11_powers 53 (qX11_powers_3 5 3 rfl)
theorem dX11_powers_54 : decode cX11_powers 54 = .ok (.iload_n 1, 1) := @dq_o27 cX11_powers 54 (qX11_powers_3 6 27 rfl)
theorem dX11_powers_55 : decode cX11_powers 55 = .ok (.invokevirtual 241, 3) := @dq_o182 cX11_powers 55 0 241 (qX11_powers_3 7 182 rfl) (qX11_powers_3 8 0 rfl) (qX11_powers_3 9 241 rfl)
theorem dX11_powers_58 : decode cX11_powers 58 = .ok (.lconst 0, 1) := @dq_o9 cX11_powers 58 (qX11_powers_3 10 9 rfl)
theorem dX11_powers_59 : decode cX11_powers 59 = .ok (.lstore 4, 2) := @dq_o55 cX11_powers 59 4 (qX11_powers_3 11 55 rfl) (qX11_powers_3 12 4 rfl)
theorem dX11_powers_61 : decode cX11_powers 61 = .ok (.iconst 0, 1) := @dq_o3 cX11_powers 61 (qX11_powers_3 13 3 rfl)
theorem dX11_powers_62 : decode cX11_powers 62 = .ok (.istore 6, 2) := @dq_o54 cX11_powers 62 6 (qX11_powers_3 14 54 rfl) (qX11_powers_3 15 6 rfl)
theorem dX11_powers_64 : decode cX11_powers 64 = .ok (.iload 6, 2) := @dq_o21 cX11_powers 64 6 (qX11_powers_4 0 21 rfl) (qX11_powers_4 1 6 rfl)
theorem dX11_powers_66 : decode cX11_powers 66 = .ok (.iload_n 3, 1) := @dq_o29 cX11_powers 66 (qX11_powers_4 2 29 rfl)
theorem dX11_powers_67 : decode cX11_powers 67 = .ok (.if_icmp .gt 55, 3) := @dq_o163 cX11_powers 67 0 55 (qX11_powers_4 3 163 rfl) (qX11_powers_4 4 0 rfl) (qX11_powers_4 5 55 rfl)
theorem dX11_powers_70 : decode cX11_powers 70 = .ok (.aload_n 0, 1) := @dq_o42 cX11_powers 70 (qX11_powers_4 6 42 rfl)
theorem dX11_powers_71 : decode cX11_powers 71 = .ok (.iconst 0, 1) := @dq_o3 cX11_powers 71 (qX11_powers_4 7 3 rfl)
theorem dX11_powers_72 : decode cX11_powers 72 = .ok (.iconst 1, 1) := @dq_o4 cX11_powers 72 (qX11_powers_4 8 4 rfl)
theorem dX11_powers_73 : decode cX11_powers 73 = .ok (.iload 6, 2) := @dq_o21 cX11_powers 73 6 (qX11_powers_4 9 21 rfl) (qX11_powers_4 10 6 rfl)
theorem dX11_powers_75 : decode cX11_powers 75 = .ok (.invokevirtual 251, 3) := @dq_o182 cX11_powers 75 0 251 (qX11_powers_4 11 182 rfl) (qX11_powers_4 12 0 rfl) (qX11_powers_4 13 251 rfl)
theorem dX11_powers_78 : decode cX11_powers 78 = .ok (.lload 4, 2) := @dq_o22 cX11_powers 78 4 (qX11_powers_4 14 22 rfl) (qX11_powers_4 15 4 rfl)
theorem dX11_powers_80 : decode cX11_powers 80 = .ok (.iload_n 3, 1) := @dq_o29 cX11_powers 80 (qX11_powers_5 0 29 rfl)
theorem dX11_powers_81 : decode cX11_powers 81 = .ok (.iload 6, 2) := @dq_o21 cX11_powers 81 6 (qX11_powers_5 1 21 rfl) (qX11_powers_5 2 6 rfl)
theorem dX11_powers_83 : decode cX11_powers 83 = .ok (.isub, 1) := @dq_o100 cX11_powers 83 (qX11_powers_5 3 100 rfl)
theorem dX11_powers_84 : decode cX11_powers 84 = .ok (.iconst 2, 1) := @dq_o5 cX11_powers 84 (qX11_powers_5 4 5 rfl)
theorem dX11_powers_85 : decode cX11_powers 85 = .ok (.irem, 1) := @dq_o112 cX11_powers 85 (qX11_powers_5 5 112 rfl)
theorem dX11_powers_86 : decode cX11_powers 86 = .ok (.ifCond .ne 7, 3) := @dq_o154 cX11_powers 86 0 7 (qX11_powers_5 6 154 rfl) (qX11_powers_5 7 0 rfl) (qX11_powers_5 8 7 rfl)
theorem dX11_powers_89 : decode cX11_powers 89 = .ok (.lconst 1, 1) := @dq_o10 cX11_powers 89 (qX11_powers_5 9 10 rfl)
theorem dX11_powers_90 : decode cX11_powers 90 = .ok (.goto 6, 3) := @dq_o167 cX11_powers 90 0 6 (qX11_powers_5 10 167 rfl) (qX11_powers_5 11 0 rfl) (qX11_powers_5 12 6 rfl)
theorem dX11_powers_93 : decode cX11_powers 93 = .ok (.ldc2_w 221, 3) := @dq_o20 cX11_powers 93 0 221 (qX11_powers_5 13 20 rfl) (qX11_powers_5 14 0 rfl) (qX11_powers_5 15 221 rfl)
theorem dX11_powers_96 : decode cX11_powers 96 = .ok (.aload_n 0, 1) := @dq_o42 cX11_powers 96 (qX11_powers_6 0 42 rfl)
theorem dX11_powers_97 : decode cX11_powers 97 = .ok (.iload_n 3, 1) := @dq_o29 cX11_powers 97 (qX11_powers_6 1 29 rfl)
theorem dX11_powers_98 : decode cX11_powers 98 = .ok (.iload 6, 2) := @dq_o21 cX11_powers 98 6 (qX11_powers_6 2 21 rfl) (qX11_powers_6 3 6 rfl)
theorem dX11_powers_100 : decode cX11_powers 100 = .ok (.invokevirtual 218, 3) := @dq_o182 cX11_powers 100 0 218 (qX11_powers_6 4 182 rfl) (qX11_powers_6 5 0 rfl) (qX11_powers_6 6 218 rfl)
theorem dX11_powers_103 : decode cX11_powers 103 = .ok (.lmul, 1) := @dq_o105 cX11_powers 103 (qX11_powers_6 7 105 rfl)
theorem dX11_powers_104 : decode cX11_powers 104 = .ok (.aload_n 0, 1) := @dq_o42 cX11_powers 104 (qX11_powers_6 8 42 rfl)
theorem dX11_powers_105 : decode cX11_powers 105 = .ok (.iconst 1, 1) := @dq_o4 cX11_powers 105 (qX11_powers_6 9 4 rfl)
theorem dX11_powers_106 : decode cX11_powers 106 = .ok (.iload_n 2, 1) := @dq_o28 cX11_powers 106 (qX11_powers_6 10 28 rfl)
theorem dX11_powers_107 : decode cX11_powers 107 = .ok (.iconst 1, 1) := @dq_o4 cX11_powers 107 (qX11_powers_6 11 4 rfl)
theorem dX11_powers_108 : decode cX11_powers 108 = .ok (.isub, 1) := @dq_o100 cX11_powers 108 (qX11_powers_6 12 100 rfl)
theorem dX11_powers_109 : decode cX11_powers 109 = .ok (.invokevirtual 166, 3) := @dq_o182 cX11_powers 109 0 166 (qX11_powers_6 13 182 rfl) (qX11_powers_6 14 0 rfl) (qX11_powers_6 15 166 rfl)
theorem dX11_powers_112 : decode cX11_powers 112 = .ok (.lmul, 1) := @dq_o105 cX11_powers 112 (qX11_powers_7 0 105 rfl)
theorem dX11_powers_113 : decode cX11_powers 113 = .ok (.ladd, 1) := @dq_o97 cX11_powers 113 (qX11_powers_7 1 97 rfl)
theorem dX11_powers_114 : decode cX11_powers 114 = .ok (.lstore 4, 2) := @dq_o55 cX11_powers 114 4 (qX11_powers_7 2 55 rfl) (qX11_powers_7 3 4 rfl)
theorem dX11_powers_116 : decode cX11_powers 116 = .ok (.iinc 6 1, 3) := @dq_o132 cX11_powers 116 6 1 (qX11_powers_7 4 132 rfl) (qX11_powers_7 5 6 rfl) (qX11_powers_7 6 1 rfl)
theorem dX11_powers_119 : decode cX11_powers 119 = .ok (.goto (-55), 3) := @dq_o167 cX11_powers 119 255 201 (qX11_powers_7 7 167 rfl) (qX11_powers_7 8 255 rfl) (qX11_powers_7 9 201 rfl)
theorem dX11_powers_122 : decode cX11_powers 122 = .ok (.lload 4, 2) := @dq_o22 cX11_powers 122 4 (qX11_powers_7 10 22 rfl) (qX11_powers_7 11 4 rfl)
theorem dX11_powers_124 : decode cX11_powers 124 = .ok (.lreturn, 1) := @dq_o173 cX11_powers 124 (qX11_powers_7 12 173 rfl)
abbrev qaX11_associates_0 : List Nat := [42, 3, 181, 0, 1, 42, 27, 182, 0, 232, 153, 0, 26, 42, 28, 182]
abbrev qaX11_associates_1 : List Nat := [0, 232, 153, 0, 18, 42, 29, 182, 0, 232, 153, 0, 10, 42, 182, 0]
abbrev qaX11_associates_2 : List Nat := [235, 154, 0, 5, 2, 172, 42, 3, 27, 182, 0, 241, 42, 4, 28, 182]
abbrev qaX11_associates_3 : List Nat := [0, 241, 42, 5, 29, 182, 0, 241, 42, 3, 6, 182, 0, 193, 42, 6]
abbrev qaX11_associates_4 : List Nat := [4, 182, 0, 197, 42, 6, 5, 182, 0, 197, 42, 4, 7, 182, 0, 193]
abbrev qaX11_associates_5 : List Nat := [42, 7, 5, 182, 0, 197, 42, 3, 7, 182, 0, 197, 42, 3, 6, 182]
abbrev qaX11_associates_6 : List Nat := [1, 10, 153, 0, 7, 4, 167, 0, 4, 3, 172]
def qtX11_associates_7 : List Nat := []
def qtX11_associates_6 : List Nat := qaX11_associates_6 ++ qtX11_associates_7
def qtX11_associates_5 : List Nat := qaX11_associates_5 ++ qtX11_associates_6
def qtX11_associates_4 : List Nat := qaX11_associates_4 ++ qtX11_associates_5
def qtX11_associates_3 : List Nat := qaX11_associates_3 ++ qtX11_associates_4
def qtX11_associates_2 : List Nat := qaX11_associates_2 ++ qtX11_associates_3
def qtX11_associates_1 : List Nat := qaX11_associates_1 ++ qtX11_associates_2
def qtX11_associates_0 : List Nat := qaX11_associates_0 ++ qtX11_associates_1
theorem qeX11_associates : cX11_associates.data.toList.map UInt8.toNat = qtX11_associates_0 := by decide +kernel
theorem qsX11_associates_0 : ∀ i, dqNth qtX11_associates_0 (0 + i) = dqNth qtX11_associates_0 i := fun i => by rw [Nat.zero_add]
theorem qsX11_associates_1 : ∀ i, dqNth qtX11_associates_0 (16 + i) = dqNth qtX11_associates_1 i := dq_step qsX11_associates_0 rfl rfl
theorem qsX11_associates_2 : ∀ i, dqNth qtX11_associates_0 (32 + i) = dqNth qtX11_associates_2 i := dq_step qsX11_associates_1 rfl rfl
theorem qsX11_associates_3 : ∀ i, dqNth qtX11_associates_0 (48 + i) = dqNth qtX11_associates_3 i := dq_step qsX11_associates_2 rfl rfl
theorem qsX11_associates_4 : ∀ i, dqNth qtX11_associates_0 (64 + i) = dqNth qtX11_associates_4 i := dq_step qsX11_associates_3 rfl rfl
theorem qsX11_associates_5 : ∀ i, dqNth qtX11_associates_0 (80 + i) = dqNth qtX11_associates_5 i := dq_step qsX11_associates_4 rfl rfl
theorem qsX11_associates_6 : ∀ i, dqNth qtX11_associates_0 (96 + i) = dqNth qtX11_associates_6 i := dq_step qsX11_associates_5 rfl rfl
theorem qX11_associates_0 (i b : Nat) (h : dqNth qaX11_associates_0 i = some b) : DqBy cX11_associates (0 + i) b := dqBy_of qeX11_associates ((qsX11_associates_0 i).trans (dq_in h))
theorem qX11_associates_1 (i b : Nat) (h : dqNth qaX11_associates_1 i = some b) : DqBy cX11_associates (16 + i) b := dqBy_of qeX11_associates ((qsX11_associates_1 i).trans (dq_in h))
theorem qX11_associates_2 (i b : Nat) (h : dqNth qaX11_associates_2 i = some b) : DqBy cX11_associates (32 + i) b := dqBy_of qeX11_associates ((qsX11_associates_2 i).trans (dq_in h))
theorem qX11_associates_3 (i b : Nat) (h : dqNth qaX11_associates_3 i = some b) : DqBy cX11_associates (48 + i) b := dqBy_of qeX11_associates ((qsX11_associates_3 i).trans (dq_in h))
theorem qX11_associates_4 (i b : Nat) (h : dqNth qaX11_associates_4 i = some b) : DqBy cX11_associates (64 + i) b := dqBy_of qeX11_associates ((qsX11_associates_4 i).trans (dq_in h))
theorem qX11_associates_5 (i b : Nat) (h : dqNth qaX11_associates_5 i = some b) : DqBy cX11_associates (80 + i) b := dqBy_of qeX11_associates ((qsX11_associates_5 i).trans (dq_in h))
theorem qX11_associates_6 (i b : Nat) (h : dqNth qaX11_associates_6 i = some b) : DqBy cX11_associates (96 + i) b := dqBy_of qeX11_associates ((qsX11_associates_6 i).trans (dq_in h))
theorem dX11_associates_0 : decode cX11_associates 0 = .ok (.aload_n 0, 1) := @dq_o42 cX11_associates 0 (qX11_associates_0 0 42 rfl)
theorem dX11_associates_1 : decode cX11_associates 1 = .ok (.iconst 0, 1) := @dq_o3 cX11_associates 1 (qX11_associates_0 1 3 rfl)
theorem dX11_associates_2 : decode cX11_associates 2 = .ok (.putfield 1, 3) := @dq_o181 cX11_associates 2 0 1 (qX11_associates_0 2 181 rfl) (qX11_associates_0 3 0 rfl) (qX11_associates_0 4 1 rfl)
theorem dX11_associates_5 : decode cX11_associates 5 = .ok (.aload_n 0, 1) := @dq_o42 cX11_associates 5 (qX11_associates_0 5 42 rfl)
theorem dX11_associates_6 : decode cX11_associates 6 = .ok (.iload_n 1, 1) := @dq_o27 cX11_associates 6 (qX11_associates_0 6 27 rfl)
theorem dX11_associates_7 : decode cX11_associates 7 = .ok (.invokevirtual 232, 3) := @dq_o182 cX11_associates 7 0 232 (qX11_associates_0 7 182 rfl) (qX11_associates_0 8 0 rfl) (qX11_associates_0 9 232 rfl)
theorem dX11_associates_10 : decode cX11_associates 10 = .ok (.ifCond .eq 26, 3) := @dq_o153 cX11_associates 10 0 26 (qX11_associates_0 10 153 rfl) (qX11_associates_0 11 0 rfl) (qX11_associates_0 12 26 rfl)
theorem dX11_associates_13 : decode cX11_associates 13 = .ok (.aload_n 0, 1) := @dq_o42 cX11_associates 13 (qX11_associates_0 13 42 rfl)
theorem dX11_associates_14 : decode cX11_associates 14 = .ok (.iload_n 2, 1) := @dq_o28 cX11_associates 14 (qX11_associates_0 14 28 rfl)
theorem dX11_associates_15 : decode cX11_associates 15 = .ok (.invokevirtual 232, 3) := @dq_o182 cX11_associates 15 0 232 (qX11_associates_0 15 182 rfl) (qX11_associates_1 0 0 rfl) (qX11_associates_1 1 232 rfl)
theorem dX11_associates_18 : decode cX11_associates 18 = .ok (.ifCond .eq 18, 3) := @dq_o153 cX11_associates 18 0 18 (qX11_associates_1 2 153 rfl) (qX11_associates_1 3 0 rfl) (qX11_associates_1 4 18 rfl)
theorem dX11_associates_21 : decode cX11_associates 21 = .ok (.aload_n 0, 1) := @dq_o42 cX11_associates 21 (qX11_associates_1 5 42 rfl)
theorem dX11_associates_22 : decode cX11_associates 22 = .ok (.iload_n 3, 1) := @dq_o29 cX11_associates 22 (qX11_associates_1 6 29 rfl)
theorem dX11_associates_23 : decode cX11_associates 23 = .ok (.invokevirtual 232, 3) := @dq_o182 cX11_associates 23 0 232 (qX11_associates_1 7 182 rfl) (qX11_associates_1 8 0 rfl) (qX11_associates_1 9 232 rfl)
theorem dX11_associates_26 : decode cX11_associates 26 = .ok (.ifCond .eq 10, 3) := @dq_o153 cX11_associates 26 0 10 (qX11_associates_1 10 153 rfl) (qX11_associates_1 11 0 rfl) (qX11_associates_1 12 10 rfl)
theorem dX11_associates_29 : decode cX11_associates 29 = .ok (.aload_n 0, 1) := @dq_o42 cX11_associates 29 (qX11_associates_1 13 42 rfl)
theorem dX11_associates_30 : decode cX11_associates 30 = .ok (.invokevirtual 235, 3) := @dq_o182 cX11_associates 30 0 235 (qX11_associates_1 14 182 rfl) (qX11_associates_1 15 0 rfl) (qX11_associates_2 0 235 rfl)
theorem dX11_associates_33 : decode cX11_associates 33 = .ok (.ifCond .ne 5, 3) := @dq_o154 cX11_associates 33 0 5 (qX11_associates_2 1 154 rfl) (qX11_associates_2 2 0 rfl) (qX11_associates_2 3 5 rfl)
theorem dX11_associates_36 : decode cX11_associates 36 = .ok (.iconst (-1), 1) := @dq_o2 cX11_associates 36 (qX11_associates_2 4 2 rfl)
theorem dX11_associates_37 : decode cX11_associates 37 = .ok (.ireturn, 1) := @dq_o172 cX11_associates 37 (qX11_associates_2 5 172 rfl)
theorem dX11_associates_38 : decode cX11_associates 38 = .ok (.aload_n 0, 1) := @dq_o42 cX11_associates 38 (qX11_associates_2 6 42 rfl)
theorem dX11_associates_39 : decode cX11_associates 39 = .ok (.iconst 0, 1) := @dq_o3 cX11_associates 39 (qX11_associates_2 7 3 rfl)
theorem dX11_associates_40 : decode cX11_associates 40 = .ok (.iload_n 1, 1) := @dq_o27 cX11_associates 40 (qX11_associates_2 8 27 rfl)
theorem dX11_associates_41 : decode cX11_associates 41 = .ok (.invokevirtual 241, 3) := @dq_o182 cX11_associates 41 0 241 (qX11_associates_2 9 182 rfl) (qX11_associates_2 10 0 rfl) (qX11_associates_2 11 241 rfl)
theorem dX11_associates_44 : decode cX11_associates 44 = .ok (.aload_n 0, 1) := @dq_o42 cX11_associates 44 (qX11_associates_2 12 42 rfl)
theorem dX11_associates_45 : decode cX11_associates 45 = .ok (.iconst 1, 1) := @dq_o4 cX11_associates 45 (qX11_associates_2 13 4 rfl)
theorem dX11_associates_46 : decode cX11_associates 46 = .ok (.iload_n 2, 1) := @dq_o28 cX11_associates 46 (qX11_associates_2 14 28 rfl)
theorem dX11_associates_47 : decode cX11_associates 47 = .ok (.invokevirtual 241, 3) := @dq_o182 cX11_associates 47 0 241 (qX11_associates_2 15 182 rfl) (qX11_associates_3 0 0 rfl) (qX11_associates_3 1 241 rfl)
theorem dX11_associates_50 : decode cX11_associates 50 = .ok (.aload_n 0, 1) := @dq_o42 cX11_associates 50 (qX11_associates_3 2 42 rfl)
theorem dX11_associates_51 : decode cX11_associates 51 = .ok (.iconst 2, 1) := @dq_o5 cX11_associates 51 (qX11_associates_3 3 5 rfl)
theorem dX11_associates_52 : decode cX11_associates 52 = .ok (.iload_n 3, 1) := @dq_o29 cX11_associates 52 (qX11_associates_3 4 29 rfl)
theorem dX11_associates_53 : decode cX11_associates 53 = .ok (.invokevirtual 241, 3) := @dq_o182 cX11_associates 53 0 241 (qX11_associates_3 5 182 rfl) (qX11_associates_3 6 0 rfl) (qX11_associates_3 7 241 rfl)
theorem dX11_associates_56 : decode cX11_associates 56 = .ok (.aload_n 0, 1) := @dq_o42 cX11_associates 56 (qX11_associates_3 8 42 rfl)
theorem dX11_associates_57 : decode cX11_associates 57 = .ok (.iconst 0, 1) := @dq_o3 cX11_associates 57 (qX11_associates_3 9 3 rfl)
theorem dX11_associates_58 : decode cX11_associates 58 = .ok (.iconst 3, 1) := @dq_o6 cX11_associates 58 (qX11_associates_3 10 6 rfl)
theorem dX11_associates_59 : decode cX11_associates 59 = .ok (.invokevirtual 193, 3) := @dq_o182 cX11_associates 59 0 193 (qX11_associates_3 11 182 rfl) (qX11_associates_3 12 0 rfl) (qX11_associates_3 13 193 rfl)
theorem dX11_associates_62 : decode cX11_associates 62 = .ok (.aload_n 0, 1) := @dq_o42 cX11_associates 62 (qX11_associates_3 14 42 rfl)
theorem dX11_associates_63 : decode cX11_associates 63 = .ok (.iconst 3, 1) := @dq_o6 cX11_associates 63 (qX11_associates_3 15 6 rfl)
theorem dX11_associates_64 : decode cX11_associates 64 = .ok (.iconst 1, 1) := @dq_o4 cX11_associates 64 (qX11_associates_4 0 4 rfl)
theorem dX11_associates_65 : decode cX11_associates 65 = .ok (.invokevirtual 197, 3) := @dq_o182 cX11_associates 65 0 197 (qX11_associates_4 1 182 rfl) (qX11_associates_4 2 0 rfl) (qX11_associates_4 3 197 rfl)
theorem dX11_associates_68 : decode cX11_associates 68 = .ok (.aload_n 0, 1) := @dq_o42 cX11_associates 68 (qX11_associates_4 4 42 rfl)
theorem dX11_associates_69 : decode cX11_associates 69 = .ok (.iconst 3, 1) := @dq_o6 cX11_associates 69 (qX11_associates_4 5 6 rfl)
theorem dX11_associates_70 : decode cX11_associates 70 = .ok (.iconst 2, 1) := @dq_o5 cX11_associates 70 (qX11_associates_4 6 5 rfl)
theorem dX11_associates_71 : decode cX11_associates 71 = .ok (.invokevirtual 197, 3) := @dq_o182 cX11_associates 71 0 197 (qX11_associates_4 7 182 rfl) (qX11_associates_4 8 0 rfl) (qX11_associates_4 9 197 rfl)
theorem dX11_associates_74 : decode cX11_associates 74 = .ok (.aload_n 0, 1) := @dq_o42 cX11_associates 74 (qX11_associates_4 10 42 rfl)
theorem dX11_associates_75 : decode cX11_associates 75 = .ok (.iconst 1, 1) := @dq_o4 cX11_associates 75 (qX11_associates_4 11 4 rfl)
theorem dX11_associates_76 : decode cX11_associates 76 = .ok (.iconst 4, 1) := @dq_o7 cX11_associates 76 (qX11_associates_4 12 7 rfl)
theorem dX11_associates_77 : decode cX11_associates 77 = .ok (.invokevirtual 193, 3) := @dq_o182 cX11_associates 77 0 193 (qX11_associates_4 13 182 rfl) (qX11_associates_4 14 0 rfl) (qX11_associates_4 15 193 rfl)
theorem dX11_associates_80 : decode cX11_associates 80 = .ok (.aload_n 0, 1) := @dq_o42 cX11_associates 80 (qX11_associates_5 0 42 rfl)
theorem dX11_associates_81 : decode cX11_associates 81 = .ok (.iconst 4, 1) := @dq_o7 cX11_associates 81 (qX11_associates_5 1 7 rfl)
theorem dX11_associates_82 : decode cX11_associates 82 = .ok (.iconst 2, 1) := @dq_o5 cX11_associates 82 (qX11_associates_5 2 5 rfl)
theorem dX11_associates_83 : decode cX11_associates 83 = .ok (.invokevirtual 197, 3) := @dq_o182 cX11_associates 83 0 197 (qX11_associates_5 3 182 rfl) (qX11_associates_5 4 0 rfl) (qX11_associates_5 5 197 rfl)
theorem dX11_associates_86 : decode cX11_associates 86 = .ok (.aload_n 0, 1) := @dq_o42 cX11_associates 86 (qX11_associates_5 6 42 rfl)
theorem dX11_associates_87 : decode cX11_associates 87 = .ok (.iconst 0, 1) := @dq_o3 cX11_associates 87 (qX11_associates_5 7 3 rfl)
theorem dX11_associates_88 : decode cX11_associates 88 = .ok (.iconst 4, 1) := @dq_o7 cX11_associates 88 (qX11_associates_5 8 7 rfl)
theorem dX11_associates_89 : decode cX11_associates 89 = .ok (.invokevirtual 197, 3) := @dq_o182 cX11_associates 89 0 197 (qX11_associates_5 9 182 rfl) (qX11_associates_5 10 0 rfl) (qX11_associates_5 11 197 rfl)
theorem dX11_associates_92 : decode cX11_associates 92 = .ok (.aload_n 0, 1) := @dq_o42 cX11_associates 92 (qX11_associates_5 12 42 rfl)
theorem dX11_associates_93 : decode cX11_associates 93 = .ok (.iconst 0, 1) := @dq_o3 cX11_associates 93 (qX11_associates_5 13 3 rfl)
theorem dX11_associates_94 : decode cX11_associates 94 = .ok (.iconst 3, 1) := @dq_o6 cX11_associates 94 (qX11_associates_5 14 6 rfl)
theorem dX11_associates_95 : decode cX11_associates 95 = .ok (.invokevirtual 266, 3) := @dq_o182 cX11_associates 95 1 10 (qX11_associates_5 15 182 rfl) (qX11_associates_6 0 1 rfl) (qX11_associates_6 1 10 rfl)
theorem dX11_associates_98 : decode cX11_associates 98 = .ok (.ifCond .eq 7, 3) := @dq_o153 cX11_associates 98 0 7 (qX11_associates_6 2 153 rfl) (qX11_associates_6 3 0 rfl) (qX11_associates_6 4 7 rfl)
theorem dX11_associates_101 : decode cX11_associates 101 = .ok (.iconst 1, 1) := @dq_o4 cX11_associates 101 (qX11_associates_6 5 4 rfl)
theorem dX11_associates_102 : decode cX11_associates 102 = .ok (.goto 4, 3) := @dq_o167 cX11_associates 102 0 4 (qX11_associates_6 6 167 rfl) (qX11_associates_6 7 0 rfl) (qX11_associates_6 8 4 rfl)
theorem dX11_associates_105 : decode cX11_associates 105 = .ok (.iconst 0, 1) := @dq_o3 cX11_associates 105 (qX11_associates_6 9 3 rfl)
theorem dX11_associates_106 : decode cX11_associates 106 = .ok (.ireturn, 1) := @dq_o172 cX11_associates 106 (qX11_associates_6 10 172 rfl)
abbrev qaX11_image_0 : List Nat := [42, 3, 181, 0, 1, 27, 154, 0, 12, 42, 180, 1, 207, 154, 0, 5]
abbrev qaX11_image_1 : List Nat := [3, 172, 42, 4, 181, 1, 207, 27, 153, 0, 86, 3, 61, 28, 17, 1]
abbrev qaX11_image_2 : List Nat := [27, 162, 0, 21, 42, 180, 0, 70, 28, 42, 180, 0, 13, 28, 46, 79]
abbrev qaX11_image_3 : List Nat := [132, 2, 1, 167, 255, 234, 3, 61, 28, 16, 6, 162, 0, 25, 42, 180]
abbrev qaX11_image_4 : List Nat := [0, 70, 17, 1, 27, 28, 96, 42, 180, 0, 55, 28, 46, 79, 132, 2]
abbrev qaX11_image_5 : List Nat := [1, 167, 255, 231, 42, 180, 0, 70, 17, 1, 33, 42, 180, 1, 78, 79]
abbrev qaX11_image_6 : List Nat := [42, 180, 0, 70, 17, 1, 34, 42, 180, 0, 229, 79, 4, 172, 3, 61]
abbrev qaX11_image_7 : List Nat := [28, 17, 1, 27, 162, 0, 21, 42, 180, 0, 13, 28, 42, 180, 0, 70]
abbrev qaX11_image_8 : List Nat := [28, 46, 79, 132, 2, 1, 167, 255, 234, 3, 61, 28, 16, 6, 162, 0]
abbrev qaX11_image_9 : List Nat := [25, 42, 180, 0, 55, 28, 42, 180, 0, 70, 17, 1, 27, 28, 96, 46]
abbrev qaX11_image_10 : List Nat := [79, 132, 2, 1, 167, 255, 231, 42, 42, 180, 0, 70, 17, 1, 33, 46]
abbrev qaX11_image_11 : List Nat := [181, 1, 78, 42, 42, 180, 0, 70, 17, 1, 34, 46, 181, 0, 229, 42]
abbrev qaX11_image_12 : List Nat := [3, 181, 0, 96, 42, 3, 181, 0, 84, 4, 172]
def qtX11_image_13 : List Nat := []
def qtX11_image_12 : List Nat := qaX11_image_12 ++ qtX11_image_13
def qtX11_image_11 : List Nat := qaX11_image_11 ++ qtX11_image_12
def qtX11_image_10 : List Nat := qaX11_image_10 ++ qtX11_image_11
def qtX11_image_9 : List Nat := qaX11_image_9 ++ qtX11_image_10
def qtX11_image_8 : List Nat := qaX11_image_8 ++ qtX11_image_9
def qtX11_image_7 : List Nat := qaX11_image_7 ++ qtX11_image_8
def qtX11_image_6 : List Nat := qaX11_image_6 ++ qtX11_image_7
def qtX11_image_5 : List Nat := qaX11_image_5 ++ qtX11_image_6
def qtX11_image_4 : List Nat := qaX11_image_4 ++ qtX11_image_5
def qtX11_image_3 : List Nat := qaX11_image_3 ++ qtX11_image_4
def qtX11_image_2 : List Nat := qaX11_image_2 ++ qtX11_image_3
def qtX11_image_1 : List Nat := qaX11_image_1 ++ qtX11_image_2
def qtX11_image_0 : List Nat := qaX11_image_0 ++ qtX11_image_1
theorem qeX11_image : cX11_image.data.toList.map UInt8.toNat = qtX11_image_0 := by decide +kernel
theorem qsX11_image_0 : ∀ i, dqNth qtX11_image_0 (0 + i) = dqNth qtX11_image_0 i := fun i => by rw [Nat.zero_add]
theorem qsX11_image_1 : ∀ i, dqNth qtX11_image_0 (16 + i) = dqNth qtX11_image_1 i := dq_step qsX11_image_0 rfl rfl
theorem qsX11_image_2 : ∀ i, dqNth qtX11_image_0 (32 + i) = dqNth qtX11_image_2 i := dq_step qsX11_image_1 rfl rfl
theorem qsX11_image_3 : ∀ i, dqNth qtX11_image_0 (48 + i) = dqNth qtX11_image_3 i := dq_step qsX11_image_2 rfl rfl
theorem qsX11_image_4 : ∀ i, dqNth qtX11_image_0 (64 + i) = dqNth qtX11_image_4 i := dq_step qsX11_image_3 rfl rfl
theorem qsX11_image_5 : ∀ i, dqNth qtX11_image_0 (80 + i) = dqNth qtX11_image_5 i := dq_step qsX11_image_4 rfl rfl
theorem qsX11_image_6 : ∀ i, dqNth qtX11_image_0 (96 + i) = dqNth qtX11_image_6 i := dq_step qsX11_image_5 rfl rfl
theorem qsX11_image_7 : ∀ i, dqNth qtX11_image_0 (112 + i) = dqNth qtX11_image_7 i := dq_step qsX11_image_6 rfl rfl
theorem qsX11_image_8 : ∀ i, dqNth qtX11_image_0 (128 + i) = dqNth qtX11_image_8 i := dq_step qsX11_image_7 rfl rfl
theorem qsX11_image_9 : ∀ i, dqNth qtX11_image_0 (144 + i) = dqNth qtX11_image_9 i := dq_step qsX11_image_8 rfl rfl
theorem qsX11_image_10 : ∀ i, dqNth qtX11_image_0 (160 + i) = dqNth qtX11_image_10 i := dq_step qsX11_image_9 rfl rfl
theorem qsX11_image_11 : ∀ i, dqNth qtX11_image_0 (176 + i) = dqNth qtX11_image_11 i := dq_step qsX11_image_10 rfl rfl
theorem qsX11_image_12 : ∀ i, dqNth qtX11_image_0 (192 + i) = dqNth qtX11_image_12 i := dq_step qsX11_image_11 rfl rfl
theorem qX11_image_0 (i b : Nat) (h : dqNth qaX11_image_0 i = some b) : DqBy cX11_image (0 + i) b := dqBy_of qeX11_image ((qsX11_image_0 i).trans (dq_in h))
theorem qX11_image_1 (i b : Nat) (h : dqNth qaX11_image_1 i = some b) : DqBy cX11_image (16 + i) b := dqBy_of qeX11_image ((qsX11_image_1 i).trans (dq_in h))
theorem qX11_image_2 (i b : Nat) (h : dqNth qaX11_image_2 i = some b) : DqBy cX11_image (32 + i) b := dqBy_of qeX11_image ((qsX11_image_2 i).trans (dq_in h))
theorem qX11_image_3 (i b : Nat) (h : dqNth qaX11_image_3 i = some b) : DqBy cX11_image (48 + i) b := dqBy_of qeX11_image ((qsX11_image_3 i).trans (dq_in h))
theorem qX11_image_4 (i b : Nat) (h : dqNth qaX11_image_4 i = some b) : DqBy cX11_image (64 + i) b := dqBy_of qeX11_image ((qsX11_image_4 i).trans (dq_in h))
theorem qX11_image_5 (i b : Nat) (h : dqNth qaX11_image_5 i = some b) : DqBy cX11_image (80 + i) b := dqBy_of qeX11_image ((qsX11_image_5 i).trans (dq_in h))
theorem qX11_image_6 (i b : Nat) (h : dqNth qaX11_image_6 i = some b) : DqBy cX11_image (96 + i) b := dqBy_of qeX11_image ((qsX11_image_6 i).trans (dq_in h))
theorem qX11_image_7 (i b : Nat) (h : dqNth qaX11_image_7 i = some b) : DqBy cX11_image (112 + i) b := dqBy_of qeX11_image ((qsX11_image_7 i).trans (dq_in h))
theorem qX11_image_8 (i b : Nat) (h : dqNth qaX11_image_8 i = some b) : DqBy cX11_image (128 + i) b := dqBy_of qeX11_image ((qsX11_image_8 i).trans (dq_in h))
theorem qX11_image_9 (i b : Nat) (h : dqNth qaX11_image_9 i = some b) : DqBy cX11_image (144 + i) b := dqBy_of qeX11_image ((qsX11_image_9 i).trans (dq_in h))
theorem qX11_image_10 (i b : Nat) (h : dqNth qaX11_image_10 i = some b) : DqBy cX11_image (160 + i) b := dqBy_of qeX11_image ((qsX11_image_10 i).trans (dq_in h))
theorem qX11_image_11 (i b : Nat) (h : dqNth qaX11_image_11 i = some b) : DqBy cX11_image (176 + i) b := dqBy_of qeX11_image ((qsX11_image_11 i).trans (dq_in h))
theorem qX11_image_12 (i b : Nat) (h : dqNth qaX11_image_12 i = some b) : DqBy cX11_image (192 + i) b := dqBy_of qeX11_image ((qsX11_image_12 i).trans (dq_in h))
theorem dX11_image_0 : decode cX11_image 0 = .ok (.aload_n 0, 1) := @dq_o42 cX11_image 0 (qX11_image_0 0 42 rfl)
theorem dX11_image_1 : decode cX11_image 1 = .ok (.iconst 0, 1) := @dq_o3 cX11_image 1 (qX11_image_0 1 3 rfl)
theorem dX11_image_2 : decode cX11_image 2 = .ok (.putfield 1, 3) := @dq_o181 cX11_image 2 0 1 (qX11_image_0 2 181 rfl) (qX11_image_0 3 0 rfl) (qX11_image_0 4 1 rfl)
theorem dX11_image_5 : decode cX11_image 5 = .ok (.iload_n 1, 1) := @dq_o27 cX11_image 5 (qX11_image_0 5 27 rfl)
theorem dX11_image_6 : decode cX11_image 6 = .ok (.ifCond .ne 12, 3) := @dq_o154 cX11_image 6 0 12 (qX11_image_0 6 154 rfl) (qX11_image_0 7 0 rfl) (qX11_image_0 8 12 rfl)
theorem dX11_image_9 : decode cX11_image 9 = .ok (.aload_n 0, 1) := @dq_o42 cX11_image 9 (qX11_image_0 9 42 rfl)
theorem dX11_image_10 : decode cX11_image 10 = .ok (.getfield 463, 3) := @dq_o180 cX11_image 10 1 207 (qX11_image_0 10 180 rfl) (qX11_image_0 11 1 rfl) (qX11_image_0 12 207 rfl)
theorem dX11_image_13 : decode cX11_image 13 = .ok (.ifCond .ne 5, 3) := @dq_o154 cX11_image 13 0 5 (qX11_image_0 13 154 rfl) (qX11_image_0 14 0 rfl) (qX11_image_0 15 5 rfl)
theorem dX11_image_16 : decode cX11_image 16 = .ok (.iconst 0, 1) := @dq_o3 cX11_image 16 (qX11_image_1 0 3 rfl)
theorem dX11_image_17 : decode cX11_image 17 = .ok (.ireturn, 1) := @dq_o172 cX11_image 17 (qX11_image_1 1 172 rfl)
theorem dX11_image_18 : decode cX11_image 18 = .ok (.aload_n 0, 1) := @dq_o42 cX11_image 18 (qX11_image_1 2 42 rfl)
theorem dX11_image_19 : decode cX11_image 19 = .ok (.iconst 1, 1) := @dq_o4 cX11_image 19 (qX11_image_1 3 4 rfl)
theorem dX11_image_20 : decode cX11_image 20 = .ok (.putfield 463, 3) := @dq_o181 cX11_image 20 1 207 (qX11_image_1 4 181 rfl) (qX11_image_1 5 1 rfl) (qX11_image_1 6 207 rfl)
theorem dX11_image_23 : decode cX11_image 23 = .ok (.iload_n 1, 1) := @dq_o27 cX11_image 23 (qX11_image_1 7 27 rfl)
theorem dX11_image_24 : decode cX11_image 24 = .ok (.ifCond .eq 86, 3) := @dq_o153 cX11_image 24 0 86 (qX11_image_1 8 153 rfl) (qX11_image_1 9 0 rfl) (qX11_image_1 10 86 rfl)
theorem dX11_image_27 : decode cX11_image 27 = .ok (.iconst 0, 1) := @dq_o3 cX11_image 27 (qX11_image_1 11 3 rfl)
theorem dX11_image_28 : decode cX11_image 28 = .ok (.istore_n 2, 1) := @dq_o61 cX11_image 28 (qX11_image_1 12 61 rfl)
theorem dX11_image_29 : decode cX11_image 29 = .ok (.iload_n 2, 1) := @dq_o28 cX11_image 29 (qX11_image_1 13 28 rfl)
theorem dX11_image_30 : decode cX11_image 30 = .ok (.sipush 283, 3) := @dq_o17 cX11_image 30 1 27 (qX11_image_1 14 17 rfl) (qX11_image_1 15 1 rfl) (qX11_image_2 0 27 rfl)
theorem dX11_image_33 : decode cX11_image 33 = .ok (.if_icmp .ge 21, 3) := @dq_o162 cX11_image 33 0 21 (qX11_image_2 1 162 rfl) (qX11_image_2 2 0 rfl) (qX11_image_2 3 21 rfl)
theorem dX11_image_36 : decode cX11_image 36 = .ok (.aload_n 0, 1) := @dq_o42 cX11_image 36 (qX11_image_2 4 42 rfl)
theorem dX11_image_37 : decode cX11_image 37 = .ok (.getfield 70, 3) := @dq_o180 cX11_image 37 0 70 (qX11_image_2 5 180 rfl) (qX11_image_2 6 0 rfl) (qX11_image_2 7 70 rfl)
theorem dX11_image_40 : decode cX11_image 40 = .ok (.iload_n 2, 1) := @dq_o28 cX11_image 40 (qX11_image_2 8 28 rfl)
theorem dX11_image_41 : decode cX11_image 41 = .ok (.aload_n 0, 1) := @dq_o42 cX11_image 41 (qX11_image_2 9 42 rfl)
theorem dX11_image_42 : decode cX11_image 42 = .ok (.getfield 13, 3) := @dq_o180 cX11_image 42 0 13 (qX11_image_2 10 180 rfl) (qX11_image_2 11 0 rfl) (qX11_image_2 12 13 rfl)
theorem dX11_image_45 : decode cX11_image 45 = .ok (.iload_n 2, 1) := @dq_o28 cX11_image 45 (qX11_image_2 13 28 rfl)
theorem dX11_image_46 : decode cX11_image 46 = .ok (.iaload, 1) := @dq_o46 cX11_image 46 (qX11_image_2 14 46 rfl)
theorem dX11_image_47 : decode cX11_image 47 = .ok (.iastore, 1) := @dq_o79 cX11_image 47 (qX11_image_2 15 79 rfl)
theorem dX11_image_48 : decode cX11_image 48 = .ok (.iinc 2 1, 3) := @dq_o132 cX11_image 48 2 1 (qX11_image_3 0 132 rfl) (qX11_image_3 1 2 rfl) (qX11_image_3 2 1 rfl)
theorem dX11_image_51 : decode cX11_image 51 = .ok (.goto (-22), 3) := @dq_o167 cX11_image 51 255 234 (qX11_image_3 3 167 rfl) (qX11_image_3 4 255 rfl) (qX11_image_3 5 234 rfl)
theorem dX11_image_54 : decode cX11_image 54 = .ok (.iconst 0, 1) := @dq_o3 cX11_image 54 (qX11_image_3 6 3 rfl)
theorem dX11_image_55 : decode cX11_image 55 = .ok (.istore_n 2, 1) := @dq_o61 cX11_image 55 (qX11_image_3 7 61 rfl)
theorem dX11_image_56 : decode cX11_image 56 = .ok (.iload_n 2, 1) := @dq_o28 cX11_image 56 (qX11_image_3 8 28 rfl)
theorem dX11_image_57 : decode cX11_image 57 = .ok (.bipush 6, 2) := @dq_o16 cX11_image 57 6 (qX11_image_3 9 16 rfl) (qX11_image_3 10 6 rfl)
theorem dX11_image_59 : decode cX11_image 59 = .ok (.if_icmp .ge 25, 3) := @dq_o162 cX11_image 59 0 25 (qX11_image_3 11 162 rfl) (qX11_image_3 12 0 rfl) (qX11_image_3 13 25 rfl)
theorem dX11_image_62 : decode cX11_image 62 = .ok (.aload_n 0, 1) := @dq_o42 cX11_image 62 (qX11_image_3 14 42 rfl)
theorem dX11_image_63 : decode cX11_image 63 = .ok (.getfield 70, 3) := @dq_o180 cX11_image 63 0 70 (qX11_image_3 15 180 rfl) (qX11_image_4 0 0 rfl) (qX11_image_4 1 70 rfl)
theorem dX11_image_66 : decode cX11_image 66 = .ok (.sipush 283, 3) := @dq_o17 cX11_image 66 1 27 (qX11_image_4 2 17 rfl) (qX11_image_4 3 1 rfl) (qX11_image_4 4 27 rfl)
theorem dX11_image_69 : decode cX11_image 69 = .ok (.iload_n 2, 1) := @dq_o28 cX11_image 69 (qX11_image_4 5 28 rfl)
theorem dX11_image_70 : decode cX11_image 70 = .ok (.iadd, 1) := @dq_o96 cX11_image 70 (qX11_image_4 6 96 rfl)
theorem dX11_image_71 : decode cX11_image 71 = .ok (.aload_n 0, 1) := @dq_o42 cX11_image 71 (qX11_image_4 7 42 rfl)
theorem dX11_image_72 : decode cX11_image 72 = .ok (.getfield 55, 3) := @dq_o180 cX11_image 72 0 55 (qX11_image_4 8 180 rfl) (qX11_image_4 9 0 rfl) (qX11_image_4 10 55 rfl)
theorem dX11_image_75 : decode cX11_image 75 = .ok (.iload_n 2, 1) := @dq_o28 cX11_image 75 (qX11_image_4 11 28 rfl)
theorem dX11_image_76 : decode cX11_image 76 = .ok (.iaload, 1) := @dq_o46 cX11_image 76 (qX11_image_4 12 46 rfl)
theorem dX11_image_77 : decode cX11_image 77 = .ok (.iastore, 1) := @dq_o79 cX11_image 77 (qX11_image_4 13 79 rfl)
theorem dX11_image_78 : decode cX11_image 78 = .ok (.iinc 2 1, 3) := @dq_o132 cX11_image 78 2 1 (qX11_image_4 14 132 rfl) (qX11_image_4 15 2 rfl) (qX11_image_5 0 1 rfl)
theorem dX11_image_81 : decode cX11_image 81 = .ok (.goto (-25), 3) := @dq_o167 cX11_image 81 255 231 (qX11_image_5 1 167 rfl) (qX11_image_5 2 255 rfl) (qX11_image_5 3 231 rfl)
theorem dX11_image_84 : decode cX11_image 84 = .ok (.aload_n 0, 1) := @dq_o42 cX11_image 84 (qX11_image_5 4 42 rfl)
theorem dX11_image_85 : decode cX11_image 85 = .ok (.getfield 70, 3) := @dq_o180 cX11_image 85 0 70 (qX11_image_5 5 180 rfl) (qX11_image_5 6 0 rfl) (qX11_image_5 7 70 rfl)
theorem dX11_image_88 : decode cX11_image 88 = .ok (.sipush 289, 3) := @dq_o17 cX11_image 88 1 33 (qX11_image_5 8 17 rfl) (qX11_image_5 9 1 rfl) (qX11_image_5 10 33 rfl)
theorem dX11_image_91 : decode cX11_image 91 = .ok (.aload_n 0, 1) := @dq_o42 cX11_image 91 (qX11_image_5 11 42 rfl)
theorem dX11_image_92 : decode cX11_image 92 = .ok (.getfield 334, 3) := @dq_o180 cX11_image 92 1 78 (qX11_image_5 12 180 rfl) (qX11_image_5 13 1 rfl) (qX11_image_5 14 78 rfl)
theorem dX11_image_95 : decode cX11_image 95 = .ok (.iastore, 1) := @dq_o79 cX11_image 95 (qX11_image_5 15 79 rfl)
theorem dX11_image_96 : decode cX11_image 96 = .ok (.aload_n 0, 1) := @dq_o42 cX11_image 96 (qX11_image_6 0 42 rfl)
theorem dX11_image_97 : decode cX11_image 97 = .ok (.getfield 70, 3) := @dq_o180 cX11_image 97 0 70 (qX11_image_6 1 180 rfl) (qX11_image_6 2 0 rfl) (qX11_image_6 3 70 rfl)
theorem dX11_image_100 : decode cX11_image 100 = .ok (.sipush 290, 3) := @dq_o17 cX11_image 100 1 34 (qX11_image_6 4 17 rfl) (qX11_image_6 5 1 rfl) (qX11_image_6 6 34 rfl)
theorem dX11_image_103 : decode cX11_image 103 = .ok (.aload_n 0, 1) := @dq_o42 cX11_image 103 (qX11_image_6 7 42 rfl)
theorem dX11_image_104 : decode cX11_image 104 = .ok (.getfield 229, 3) := @dq_o180 cX11_image 104 0 229 (qX11_image_6 8 180 rfl) (qX11_image_6 9 0 rfl) (qX11_image_6 10 229 rfl)
theorem dX11_image_107 : decode cX11_image 107 = .ok (.iastore, 1) := @dq_o79 cX11_image 107 (qX11_image_6 11 79 rfl)
theorem dX11_image_108 : decode cX11_image 108 = .ok (.iconst 1, 1) := @dq_o4 cX11_image 108 (qX11_image_6 12 4 rfl)
theorem dX11_image_109 : decode cX11_image 109 = .ok (.ireturn, 1) := @dq_o172 cX11_image 109 (qX11_image_6 13 172 rfl)
theorem dX11_image_110 : decode cX11_image 110 = .ok (.iconst 0, 1) := @dq_o3 cX11_image 110 (qX11_image_6 14 3 rfl)
theorem dX11_image_111 : decode cX11_image 111 = .ok (.istore_n 2, 1) := @dq_o61 cX11_image 111 (qX11_image_6 15 61 rfl)
theorem dX11_image_112 : decode cX11_image 112 = .ok (.iload_n 2, 1) := @dq_o28 cX11_image 112 (qX11_image_7 0 28 rfl)
theorem dX11_image_113 : decode cX11_image 113 = .ok (.sipush 283, 3) := @dq_o17 cX11_image 113 1 27 (qX11_image_7 1 17 rfl) (qX11_image_7 2 1 rfl) (qX11_image_7 3 27 rfl)
theorem dX11_image_116 : decode cX11_image 116 = .ok (.if_icmp .ge 21, 3) := @dq_o162 cX11_image 116 0 21 (qX11_image_7 4 162 rfl) (qX11_image_7 5 0 rfl) (qX11_image_7 6 21 rfl)
theorem dX11_image_119 : decode cX11_image 119 = .ok (.aload_n 0, 1) := @dq_o42 cX11_image 119 (qX11_image_7 7 42 rfl)
theorem dX11_image_120 : decode cX11_image 120 = .ok (.getfield 13, 3) := @dq_o180 cX11_image 120 0 13 (qX11_image_7 8 180 rfl) (qX11_image_7 9 0 rfl) (qX11_image_7 10 13 rfl)
theorem dX11_image_123 : decode cX11_image 123 = .ok (.iload_n 2, 1) := @dq_o28 cX11_image 123 (qX11_image_7 11 28 rfl)
theorem dX11_image_124 : decode cX11_image 124 = .ok (.aload_n 0, 1) := @dq_o42 cX11_image 124 (qX11_image_7 12 42 rfl)
theorem dX11_image_125 : decode cX11_image 125 = .ok (.getfield 70, 3) := @dq_o180 cX11_image 125 0 70 (qX11_image_7 13 180 rfl) (qX11_image_7 14 0 rfl) (qX11_image_7 15 70 rfl)
theorem dX11_image_128 : decode cX11_image 128 = .ok (.iload_n 2, 1) := @dq_o28 cX11_image 128 (qX11_image_8 0 28 rfl)
theorem dX11_image_129 : decode cX11_image 129 = .ok (.iaload, 1) := @dq_o46 cX11_image 129 (qX11_image_8 1 46 rfl)
theorem dX11_image_130 : decode cX11_image 130 = .ok (.iastore, 1) := @dq_o79 cX11_image 130 (qX11_image_8 2 79 rfl)
theorem dX11_image_131 : decode cX11_image 131 = .ok (.iinc 2 1, 3) := @dq_o132 cX11_image 131 2 1 (qX11_image_8 3 132 rfl) (qX11_image_8 4 2 rfl) (qX11_image_8 5 1 rfl)
theorem dX11_image_134 : decode cX11_image 134 = .ok (.goto (-22), 3) := @dq_o167 cX11_image 134 255 234 (qX11_image_8 6 167 rfl) (qX11_image_8 7 255 rfl) (qX11_image_8 8 234 rfl)
theorem dX11_image_137 : decode cX11_image 137 = .ok (.iconst 0, 1) := @dq_o3 cX11_image 137 (qX11_image_8 9 3 rfl)
theorem dX11_image_138 : decode cX11_image 138 = .ok (.istore_n 2, 1) := @dq_o61 cX11_image 138 (qX11_image_8 10 61 rfl)
theorem dX11_image_139 : decode cX11_image 139 = .ok (.iload_n 2, 1) := @dq_o28 cX11_image 139 (qX11_image_8 11 28 rfl)
theorem dX11_image_140 : decode cX11_image 140 = .ok (.bipush 6, 2) := @dq_o16 cX11_image 140 6 (qX11_image_8 12 16 rfl) (qX11_image_8 13 6 rfl)
theorem dX11_image_142 : decode cX11_image 142 = .ok (.if_icmp .ge 25, 3) := @dq_o162 cX11_image 142 0 25 (qX11_image_8 14 162 rfl) (qX11_image_8 15 0 rfl) (qX11_image_9 0 25 rfl)
theorem dX11_image_145 : decode cX11_image 145 = .ok (.aload_n 0, 1) := @dq_o42 cX11_image 145 (qX11_image_9 1 42 rfl)
theorem dX11_image_146 : decode cX11_image 146 = .ok (.getfield 55, 3) := @dq_o180 cX11_image 146 0 55 (qX11_image_9 2 180 rfl) (qX11_image_9 3 0 rfl) (qX11_image_9 4 55 rfl)
theorem dX11_image_149 : decode cX11_image 149 = .ok (.iload_n 2, 1) := @dq_o28 cX11_image 149 (qX11_image_9 5 28 rfl)
theorem dX11_image_150 : decode cX11_image 150 = .ok (.aload_n 0, 1) := @dq_o42 cX11_image 150 (qX11_image_9 6 42 rfl)
theorem dX11_image_151 : decode cX11_image 151 = .ok (.getfield 70, 3) := @dq_o180 cX11_image 151 0 70 (qX11_image_9 7 180 rfl) (qX11_image_9 8 0 rfl) (qX11_image_9 9 70 rfl)
theorem dX11_image_154 : decode cX11_image 154 = .ok (.sipush 283, 3) := @dq_o17 cX11_image 154 1 27 (qX11_image_9 10 17 rfl) (qX11_image_9 11 1 rfl) (qX11_image_9 12 27 rfl)
theorem dX11_image_157 : decode cX11_image 157 = .ok (.iload_n 2, 1) := @dq_o28 cX11_image 157 (qX11_image_9 13 28 rfl)
theorem dX11_image_158 : decode cX11_image 158 = .ok (.iadd, 1) := @dq_o96 cX11_image 158 (qX11_image_9 14 96 rfl)
theorem dX11_image_159 : decode cX11_image 159 = .ok (.iaload, 1) := @dq_o46 cX11_image 159 (qX11_image_9 15 46 rfl)
theorem dX11_image_160 : decode cX11_image 160 = .ok (.iastore, 1) := @dq_o79 cX11_image 160 (qX11_image_10 0 79 rfl)
theorem dX11_image_161 : decode cX11_image 161 = .ok (.iinc 2 1, 3) := @dq_o132 cX11_image 161 2 1 (qX11_image_10 1 132 rfl) (qX11_image_10 2 2 rfl) (qX11_image_10 3 1 rfl)
theorem dX11_image_164 : decode cX11_image 164 = .ok (.goto (-25), 3) := @dq_o167 cX11_image 164 255 231 (qX11_image_10 4 167 rfl) (qX11_image_10 5 255 rfl) (qX11_image_10 6 231 rfl)
theorem dX11_image_167 : decode cX11_image 167 = .ok (.aload_n 0, 1) := @dq_o42 cX11_image 167 (qX11_image_10 7 42 rfl)
theorem dX11_image_168 : decode cX11_image 168 = .ok (.aload_n 0, 1) := @dq_o42 cX11_image 168 (qX11_image_10 8 42 rfl)
theorem dX11_image_169 : decode cX11_image 169 = .ok (.getfield 70, 3) := @dq_o180 cX11_image 169 0 70 (qX11_image_10 9 180 rfl) (qX11_image_10 10 0 rfl) (qX11_image_10 11 70 rfl)
theorem dX11_image_172 : decode cX11_image 172 = .ok (.sipush 289, 3) := @dq_o17 cX11_image 172 1 33 (qX11_image_10 12 17 rfl) (qX11_image_10 13 1 rfl) (qX11_image_10 14 33 rfl)
theorem dX11_image_175 : decode cX11_image 175 = .ok (.iaload, 1) := @dq_o46 cX11_image 175 (qX11_image_10 15 46 rfl)
theorem dX11_image_176 : decode cX11_image 176 = .ok (.putfield 334, 3) := @dq_o181 cX11_image 176 1 78 (qX11_image_11 0 181 rfl) (qX11_image_11 1 1 rfl) (qX11_image_11 2 78 rfl)
theorem dX11_image_179 : decode cX11_image 179 = .ok (.aload_n 0, 1) := @dq_o42 cX11_image 179 (qX11_image_11 3 42 rfl)
theorem dX11_image_180 : decode cX11_image 180 = .ok (.aload_n 0, 1) := @dq_o42 cX11_image 180 (qX11_image_11 4 42 rfl)
theorem dX11_image_181 : decode cX11_image 181 = .ok (.getfield 70, 3) := @dq_o180 cX11_image 181 0 70 (qX11_image_11 5 180 rfl) (qX11_image_11 6 0 rfl) (qX11_image_11 7 70 rfl)
theorem dX11_image_184 : decode cX11_image 184 = .ok (.sipush 290, 3) := @dq_o17 cX11_image 184 1 34 (qX11_image_11 8 17 rfl) (qX11_image_11 9 1 rfl) (qX11_image_11 10 34 rfl)
theorem dX11_image_187 : decode cX11_image 187 = .ok (.iaload, 1) := @dq_o46 cX11_image 187 (qX11_image_11 11 46 rfl)
theorem dX11_image_188 : decode cX11_image 188 = .ok (.putfield 229, 3) := @dq_o181 cX11_image 188 0 229 (qX11_image_11 12 181 rfl) (qX11_image_11 13 0 rfl) (qX11_image_11 14 229 rfl)
theorem dX11_image_191 : decode cX11_image 191 = .ok (.aload_n 0, 1) := @dq_o42 cX11_image 191 (qX11_image_11 15 42 rfl)
theorem dX11_image_192 : decode cX11_image 192 = .ok (.iconst 0, 1) := @dq_o3 cX11_image 192 (qX11_image_12 0 3 rfl)
theorem dX11_image_193 : decode cX11_image 193 = .ok (.putfield 96, 3) := @dq_o181 cX11_image 193 0 96 (qX11_image_12 1 181 rfl) (qX11_image_12 2 0 rfl) (qX11_image_12 3 96 rfl)
theorem dX11_image_196 : decode cX11_image 196 = .ok (.aload_n 0, 1) := @dq_o42 cX11_image 196 (qX11_image_12 4 42 rfl)
theorem dX11_image_197 : decode cX11_image 197 = .ok (.iconst 0, 1) := @dq_o3 cX11_image 197 (qX11_image_12 5 3 rfl)
theorem dX11_image_198 : decode cX11_image 198 = .ok (.putfield 84, 3) := @dq_o181 cX11_image 198 0 84 (qX11_image_12 6 181 rfl) (qX11_image_12 7 0 rfl) (qX11_image_12 8 84 rfl)
theorem dX11_image_201 : decode cX11_image 201 = .ok (.iconst 1, 1) := @dq_o4 cX11_image 201 (qX11_image_12 9 4 rfl)
theorem dX11_image_202 : decode cX11_image 202 = .ok (.ireturn, 1) := @dq_o172 cX11_image 202 (qX11_image_12 10 172 rfl)
abbrev qaX11_tails_0 : List Nat := [3, 60, 16, 7, 61, 28, 17, 0, 223, 162, 0, 22, 42, 180, 0, 13]
abbrev qaX11_tails_1 : List Nat := [28, 46, 158, 0, 7, 27, 4, 96, 60, 132, 2, 1, 167, 255, 233, 27]
abbrev qaX11_tails_2 : List Nat := [172]
def qtX11_tails_3 : List Nat := []
def qtX11_tails_2 : List Nat := qaX11_tails_2 ++ qtX11_tails_3
def qtX11_tails_1 : List Nat := qaX11_tails_1 ++ qtX11_tails_2
def qtX11_tails_0 : List Nat := qaX11_tails_0 ++ qtX11_tails_1
theorem qeX11_tails : cX11_tails.data.toList.map UInt8.toNat = qtX11_tails_0 := by decide +kernel
theorem qsX11_tails_0 : ∀ i, dqNth qtX11_tails_0 (0 + i) = dqNth qtX11_tails_0 i := fun i => by rw [Nat.zero_add]
theorem qsX11_tails_1 : ∀ i, dqNth qtX11_tails_0 (16 + i) = dqNth qtX11_tails_1 i := dq_step qsX11_tails_0 rfl rfl
theorem qsX11_tails_2 : ∀ i, dqNth qtX11_tails_0 (32 + i) = dqNth qtX11_tails_2 i := dq_step qsX11_tails_1 rfl rfl
theorem qX11_tails_0 (i b : Nat) (h : dqNth qaX11_tails_0 i = some b) : DqBy cX11_tails (0 + i) b := dqBy_of qeX11_tails ((qsX11_tails_0 i).trans (dq_in h))
theorem qX11_tails_1 (i b : Nat) (h : dqNth qaX11_tails_1 i = some b) : DqBy cX11_tails (16 + i) b := dqBy_of qeX11_tails ((qsX11_tails_1 i).trans (dq_in h))
theorem qX11_tails_2 (i b : Nat) (h : dqNth qaX11_tails_2 i = some b) : DqBy cX11_tails (32 + i) b := dqBy_of qeX11_tails ((qsX11_tails_2 i).trans (dq_in h))
theorem dX11_tails_0 : decode cX11_tails 0 = .ok (.iconst 0, 1) := @dq_o3 cX11_tails 0 (qX11_tails_0 0 3 rfl)
theorem dX11_tails_1 : decode cX11_tails 1 = .ok (.istore_n 1, 1) := @dq_o60 cX11_tails 1 (qX11_tails_0 1 60 rfl)
theorem dX11_tails_2 : decode cX11_tails 2 = .ok (.bipush 7, 2) := @dq_o16 cX11_tails 2 7 (qX11_tails_0 2 16 rfl) (qX11_tails_0 3 7 rfl)
theorem dX11_tails_4 : decode cX11_tails 4 = .ok (.istore_n 2, 1) := @dq_o61 cX11_tails 4 (qX11_tails_0 4 61 rfl)
theorem dX11_tails_5 : decode cX11_tails 5 = .ok (.iload_n 2, 1) := @dq_o28 cX11_tails 5 (qX11_tails_0 5 28 rfl)
theorem dX11_tails_6 : decode cX11_tails 6 = .ok (.sipush 223, 3) := @dq_o17 cX11_tails 6 0 223 (qX11_tails_0 6 17 rfl) (qX11_tails_0 7 0 rfl) (qX11_tails_0 8 223 rfl)
theorem dX11_tails_9 : decode cX11_tails 9 = .ok (.if_icmp .ge 22, 3) := @dq_o162 cX11_tails 9 0 22 (qX11_tails_0 9 162 rfl) (qX11_tails_0 10 0 rfl) (qX11_tails_0 11 22 rfl)
theorem dX11_tails_12 : decode cX11_tails 12 = .ok (.aload_n 0, 1) := @dq_o42 cX11_tails 12 (qX11_tails_0 12 42 rfl)
theorem dX11_tails_13 : decode cX11_tails 13 = .ok (.getfield 13, 3) := @dq_o180 cX11_tails 13 0 13 (qX11_tails_0 13 180 rfl) (qX11_tails_0 14 0 rfl) (qX11_tails_0 15 13 rfl)
theorem dX11_tails_16 : decode cX11_tails 16 = .ok (.iload_n 2, 1) := @dq_o28 cX11_tails 16 (qX11_tails_1 0 28 rfl)
theorem dX11_tails_17 : decode cX11_tails 17 = .ok (.iaload, 1) := @dq_o46 cX11_tails 17 (qX11_tails_1 1 46 rfl)
theorem dX11_tails_18 : decode cX11_tails 18 = .ok (.ifCond .le 7, 3) := @dq_o158 cX11_tails 18 0 7 (qX11_tails_1 2 158 rfl) (qX11_tails_1 3 0 rfl) (qX11_tails_1 4 7 rfl)
theorem dX11_tails_21 : decode cX11_tails 21 = .ok (.iload_n 1, 1) := @dq_o27 cX11_tails 21 (qX11_tails_1 5 27 rfl)
theorem dX11_tails_22 : decode cX11_tails 22 = .ok (.iconst 1, 1) := @dq_o4 cX11_tails 22 (qX11_tails_1 6 4 rfl)
theorem dX11_tails_23 : decode cX11_tails 23 = .ok (.iadd, 1) := @dq_o96 cX11_tails 23 (qX11_tails_1 7 96 rfl)
theorem dX11_tails_24 : decode cX11_tails 24 = .ok (.istore_n 1, 1) := @dq_o60 cX11_tails 24 (qX11_tails_1 8 60 rfl)
theorem dX11_tails_25 : decode cX11_tails 25 = .ok (.iinc 2 1, 3) := @dq_o132 cX11_tails 25 2 1 (qX11_tails_1 9 132 rfl) (qX11_tails_1 10 2 rfl) (qX11_tails_1 11 1 rfl)
theorem dX11_tails_28 : decode cX11_tails 28 = .ok (.goto (-23), 3) := @dq_o167 cX11_tails 28 255 233 (qX11_tails_1 12 167 rfl) (qX11_tails_1 13 255 rfl) (qX11_tails_1 14 233 rfl)
theorem dX11_tails_31 : decode cX11_tails 31 = .ok (.iload_n 1, 1) := @dq_o27 cX11_tails 31 (qX11_tails_1 15 27 rfl)
theorem dX11_tails_32 : decode cX11_tails 32 = .ok (.ireturn, 1) := @dq_o172 cX11_tails 32 (qX11_tails_2 0 172 rfl)
abbrev qaX11_termsOfAll_0 : List Nat := [42, 182, 0, 159, 3, 60, 3, 61, 28, 16, 6, 162, 0, 18, 27, 42]
abbrev qaX11_termsOfAll_1 : List Nat := [180, 0, 26, 28, 46, 96, 60, 132, 2, 1, 167, 255, 238, 27, 172]
def qtX11_termsOfAll_2 : List Nat := []
def qtX11_termsOfAll_1 : List Nat := qaX11_termsOfAll_1 ++ qtX11_termsOfAll_2
def qtX11_termsOfAll_0 : List Nat := qaX11_termsOfAll_0 ++ qtX11_termsOfAll_1
theorem qeX11_termsOfAll : cX11_termsOfAll.data.toList.map UInt8.toNat = qtX11_termsOfAll_0 := by decide +kernel
theorem qsX11_termsOfAll_0 : ∀ i, dqNth qtX11_termsOfAll_0 (0 + i) = dqNth qtX11_termsOfAll_0 i := fun i => by rw [Nat.zero_add]
theorem qsX11_termsOfAll_1 : ∀ i, dqNth qtX11_termsOfAll_0 (16 + i) = dqNth qtX11_termsOfAll_1 i := dq_step qsX11_termsOfAll_0 rfl rfl
theorem qX11_termsOfAll_0 (i b : Nat) (h : dqNth qaX11_termsOfAll_0 i = some b) : DqBy cX11_termsOfAll (0 + i) b := dqBy_of qeX11_termsOfAll ((qsX11_termsOfAll_0 i).trans (dq_in h))
theorem qX11_termsOfAll_1 (i b : Nat) (h : dqNth qaX11_termsOfAll_1 i = some b) : DqBy cX11_termsOfAll (16 + i) b := dqBy_of qeX11_termsOfAll ((qsX11_termsOfAll_1 i).trans (dq_in h))
theorem dX11_termsOfAll_0 : decode cX11_termsOfAll 0 = .ok (.aload_n 0, 1) := @dq_o42 cX11_termsOfAll 0 (qX11_termsOfAll_0 0 42 rfl)
theorem dX11_termsOfAll_1 : decode cX11_termsOfAll 1 = .ok (.invokevirtual 159, 3) := @dq_o182 cX11_termsOfAll 1 0 159 (qX11_termsOfAll_0 1 182 rfl) (qX11_termsOfAll_0 2 0 rfl) (qX11_termsOfAll_0 3 159 rfl)
theorem dX11_termsOfAll_4 : decode cX11_termsOfAll 4 = .ok (.iconst 0, 1) := @dq_o3 cX11_termsOfAll 4 (qX11_termsOfAll_0 4 3 rfl)
theorem dX11_termsOfAll_5 : decode cX11_termsOfAll 5 = .ok (.istore_n 1, 1) := @dq_o60 cX11_termsOfAll 5 (qX11_termsOfAll_0 5 60 rfl)
theorem dX11_termsOfAll_6 : decode cX11_termsOfAll 6 = .ok (.iconst 0, 1) := @dq_o3 cX11_termsOfAll 6 (qX11_termsOfAll_0 6 3 rfl)
theorem dX11_termsOfAll_7 : decode cX11_termsOfAll 7 = .ok (.istore_n 2, 1) := @dq_o61 cX11_termsOfAll 7 (qX11_termsOfAll_0 7 61 rfl)
theorem dX11_termsOfAll_8 : decode cX11_termsOfAll 8 = .ok (.iload_n 2, 1) := @dq_o28 cX11_termsOfAll 8 (qX11_termsOfAll_0 8 28 rfl)
theorem dX11_termsOfAll_9 : decode cX11_termsOfAll 9 = .ok (.bipush 6, 2) := @dq_o16 cX11_termsOfAll 9 6 (qX11_termsOfAll_0 9 16 rfl) (qX11_termsOfAll_0 10 6 rfl)
theorem dX11_termsOfAll_11 : decode cX11_termsOfAll 11 = .ok (.if_icmp .ge 18, 3) := @dq_o162 cX11_termsOfAll 11 0 18 (qX11_termsOfAll_0 11 162 rfl) (qX11_termsOfAll_0 12 0 rfl) (qX11_termsOfAll_0 13 18 rfl)
theorem dX11_termsOfAll_14 : decode cX11_termsOfAll 14 = .ok (.iload_n 1, 1) := @dq_o27 cX11_termsOfAll 14 (qX11_termsOfAll_0 14 27 rfl)
theorem dX11_termsOfAll_15 : decode cX11_termsOfAll 15 = .ok (.aload_n 0, 1) := @dq_o42 cX11_termsOfAll 15 (qX11_termsOfAll_0 15 42 rfl)
theorem dX11_termsOfAll_16 : decode cX11_termsOfAll 16 = .ok (.getfield 26, 3) := @dq_o180 cX11_termsOfAll 16 0 26 (qX11_termsOfAll_1 0 180 rfl) (qX11_termsOfAll_1 1 0 rfl) (qX11_termsOfAll_1 2 26 rfl)
theorem dX11_termsOfAll_19 : decode cX11_termsOfAll 19 = .ok (.iload_n 2, 1) := @dq_o28 cX11_termsOfAll 19 (qX11_termsOfAll_1 3 28 rfl)
theorem dX11_termsOfAll_20 : decode cX11_termsOfAll 20 = .ok (.iaload, 1) := @dq_o46 cX11_termsOfAll 20 (qX11_termsOfAll_1 4 46 rfl)
theorem dX11_termsOfAll_21 : decode cX11_termsOfAll 21 = .ok (.iadd, 1) := @dq_o96 cX11_termsOfAll 21 (qX11_termsOfAll_1 5 96 rfl)
theorem dX11_termsOfAll_22 : decode cX11_termsOfAll 22 = .ok (.istore_n 1, 1) := @dq_o60 cX11_termsOfAll 22 (qX11_termsOfAll_1 6 60 rfl)
theorem dX11_termsOfAll_23 : decode cX11_termsOfAll 23 = .ok (.iinc 2 1, 3) := @dq_o132 cX11_termsOfAll 23 2 1 (qX11_termsOfAll_1 7 132 rfl) (qX11_termsOfAll_1 8 2 rfl) (qX11_termsOfAll_1 9 1 rfl)
theorem dX11_termsOfAll_26 : decode cX11_termsOfAll 26 = .ok (.goto (-18), 3) := @dq_o167 cX11_termsOfAll 26 255 238 (qX11_termsOfAll_1 10 167 rfl) (qX11_termsOfAll_1 11 255 rfl) (qX11_termsOfAll_1 12 238 rfl)
theorem dX11_termsOfAll_29 : decode cX11_termsOfAll 29 = .ok (.iload_n 1, 1) := @dq_o27 cX11_termsOfAll 29 (qX11_termsOfAll_1 13 27 rfl)
theorem dX11_termsOfAll_30 : decode cX11_termsOfAll 30 = .ok (.ireturn, 1) := @dq_o172 cX11_termsOfAll 30 (qX11_termsOfAll_1 14 172 rfl)
abbrev qaX11_notOnes_0 : List Nat := [3, 60, 3, 61, 28, 16, 10, 162, 0, 29, 42, 3, 28, 182, 0, 241]
abbrev qaX11_notOnes_1 : List Nat := [42, 3, 182, 1, 81, 154, 0, 9, 27, 4, 28, 120, 128, 60, 132, 2]
abbrev qaX11_notOnes_2 : List Nat := [1, 167, 255, 227, 27, 172]
def qtX11_notOnes_3 : List Nat := []
def qtX11_notOnes_2 : List Nat := qaX11_notOnes_2 ++ qtX11_notOnes_3
def qtX11_notOnes_1 : List Nat := qaX11_notOnes_1 ++ qtX11_notOnes_2
def qtX11_notOnes_0 : List Nat := qaX11_notOnes_0 ++ qtX11_notOnes_1
theorem qeX11_notOnes : cX11_notOnes.data.toList.map UInt8.toNat = qtX11_notOnes_0 := by decide +kernel
theorem qsX11_notOnes_0 : ∀ i, dqNth qtX11_notOnes_0 (0 + i) = dqNth qtX11_notOnes_0 i := fun i => by rw [Nat.zero_add]
theorem qsX11_notOnes_1 : ∀ i, dqNth qtX11_notOnes_0 (16 + i) = dqNth qtX11_notOnes_1 i := dq_step qsX11_notOnes_0 rfl rfl
theorem qsX11_notOnes_2 : ∀ i, dqNth qtX11_notOnes_0 (32 + i) = dqNth qtX11_notOnes_2 i := dq_step qsX11_notOnes_1 rfl rfl
theorem qX11_notOnes_0 (i b : Nat) (h : dqNth qaX11_notOnes_0 i = some b) : DqBy cX11_notOnes (0 + i) b := dqBy_of qeX11_notOnes ((qsX11_notOnes_0 i).trans (dq_in h))
theorem qX11_notOnes_1 (i b : Nat) (h : dqNth qaX11_notOnes_1 i = some b) : DqBy cX11_notOnes (16 + i) b := dqBy_of qeX11_notOnes ((qsX11_notOnes_1 i).trans (dq_in h))
theorem qX11_notOnes_2 (i b : Nat) (h : dqNth qaX11_notOnes_2 i = some b) : DqBy cX11_notOnes (32 + i) b := dqBy_of qeX11_notOnes ((qsX11_notOnes_2 i).trans (dq_in h))
theorem dX11_notOnes_0 : decode cX11_notOnes 0 = .ok (.iconst 0, 1) := @dq_o3 cX11_notOnes 0 (qX11_notOnes_0 0 3 rfl)
theorem dX11_notOnes_1 : decode cX11_notOnes 1 = .ok (.istore_n 1, 1) := @dq_o60 cX11_notOnes 1 (qX11_notOnes_0 1 60 rfl)
theorem dX11_notOnes_2 : decode cX11_notOnes 2 = .ok (.iconst 0, 1) := @dq_o3 cX11_notOnes 2 (qX11_notOnes_0 2 3 rfl)
theorem dX11_notOnes_3 : decode cX11_notOnes 3 = .ok (.istore_n 2, 1) := @dq_o61 cX11_notOnes 3 (qX11_notOnes_0 3 61 rfl)
theorem dX11_notOnes_4 : decode cX11_notOnes 4 = .ok (.iload_n 2, 1) := @dq_o28 cX11_notOnes 4 (qX11_notOnes_0 4 28 rfl)
theorem dX11_notOnes_5 : decode cX11_notOnes 5 = .ok (.bipush 10, 2) := @dq_o16 cX11_notOnes 5 10 (qX11_notOnes_0 5 16 rfl) (qX11_notOnes_0 6 10 rfl)
theorem dX11_notOnes_7 : decode cX11_notOnes 7 = .ok (.if_icmp .ge 29, 3) := @dq_o162 cX11_notOnes 7 0 29 (qX11_notOnes_0 7 162 rfl) (qX11_notOnes_0 8 0 rfl) (qX11_notOnes_0 9 29 rfl)
theorem dX11_notOnes_10 : decode cX11_notOnes 10 = .ok (.aload_n 0, 1) := @dq_o42 cX11_notOnes 10 (qX11_notOnes_0 10 42 rfl)
theorem dX11_notOnes_11 : decode cX11_notOnes 11 = .ok (.iconst 0, 1) := @dq_o3 cX11_notOnes 11 (qX11_notOnes_0 11 3 rfl)
theorem dX11_notOnes_12 : decode cX11_notOnes 12 = .ok (.iload_n 2, 1) := @dq_o28 cX11_notOnes 12 (qX11_notOnes_0 12 28 rfl)
theorem dX11_notOnes_13 : decode cX11_notOnes 13 = .ok (.invokevirtual 241, 3) := @dq_o182 cX11_notOnes 13 0 241 (qX11_notOnes_0 13 182 rfl) (qX11_notOnes_0 14 0 rfl) (qX11_notOnes_0 15 241 rfl)
theorem dX11_notOnes_16 : decode cX11_notOnes 16 = .ok (.aload_n 0, 1) := @dq_o42 cX11_notOnes 16 (qX11_notOnes_1 0 42 rfl)
theorem dX11_notOnes_17 : decode cX11_notOnes 17 = .ok (.iconst 0, 1) := @dq_o3 cX11_notOnes 17 (qX11_notOnes_1 1 3 rfl)
theorem dX11_notOnes_18 : decode cX11_notOnes 18 = .ok (.invokevirtual 337, 3) := @dq_o182 cX11_notOnes 18 1 81 (qX11_notOnes_1 2 182 rfl) (qX11_notOnes_1 3 1 rfl) (qX11_notOnes_1 4 81 rfl)
theorem dX11_notOnes_21 : decode cX11_notOnes 21 = .ok (.ifCond .ne 9, 3) := @dq_o154 cX11_notOnes 21 0 9 (qX11_notOnes_1 5 154 rfl) (qX11_notOnes_1 6 0 rfl) (qX11_notOnes_1 7 9 rfl)
theorem dX11_notOnes_24 : decode cX11_notOnes 24 = .ok (.iload_n 1, 1) := @dq_o27 cX11_notOnes 24 (qX11_notOnes_1 8 27 rfl)
theorem dX11_notOnes_25 : decode cX11_notOnes 25 = .ok (.iconst 1, 1) := @dq_o4 cX11_notOnes 25 (qX11_notOnes_1 9 4 rfl)
theorem dX11_notOnes_26 : decode cX11_notOnes 26 = .ok (.iload_n 2, 1) := @dq_o28 cX11_notOnes 26 (qX11_notOnes_1 10 28 rfl)
theorem dX11_notOnes_27 : decode cX11_notOnes 27 = .ok (.ishl, 1) := @dq_o120 cX11_notOnes 27 (qX11_notOnes_1 11 120 rfl)
theorem dX11_notOnes_28 : decode cX11_notOnes 28 = .ok (.ior, 1) := @dq_o128 cX11_notOnes 28 (qX11_notOnes_1 12 128 rfl)
theorem dX11_notOnes_29 : decode cX11_notOnes 29 = .ok (.istore_n 1, 1) := @dq_o60 cX11_notOnes 29 (qX11_notOnes_1 13 60 rfl)
theorem dX11_notOnes_30 : decode cX11_notOnes 30 = .ok (.iinc 2 1, 3) := @dq_o132 cX11_notOnes 30 2 1 (qX11_notOnes_1 14 132 rfl) (qX11_notOnes_1 15 2 rfl) (qX11_notOnes_2 0 1 rfl)
theorem dX11_notOnes_33 : decode cX11_notOnes 33 = .ok (.goto (-29), 3) := @dq_o167 cX11_notOnes 33 255 227 (qX11_notOnes_2 1 167 rfl) (qX11_notOnes_2 2 255 rfl) (qX11_notOnes_2 3 227 rfl)
theorem dX11_notOnes_36 : decode cX11_notOnes 36 = .ok (.iload_n 1, 1) := @dq_o27 cX11_notOnes 36 (qX11_notOnes_2 4 27 rfl)
theorem dX11_notOnes_37 : decode cX11_notOnes 37 = .ok (.ireturn, 1) := @dq_o172 cX11_notOnes 37 (qX11_notOnes_2 5 172 rfl)
abbrev qaX11_centrals_0 : List Nat := [3, 60, 3, 61, 28, 42, 182, 0, 88, 162, 0, 30, 42, 182, 0, 235]
abbrev qaX11_centrals_1 : List Nat := [153, 0, 23, 42, 28, 182, 1, 90, 153, 0, 9, 27, 4, 28, 120, 128]
abbrev qaX11_centrals_2 : List Nat := [60, 132, 2, 1, 167, 255, 224, 27, 172]
def qtX11_centrals_3 : List Nat := []
def qtX11_centrals_2 : List Nat := qaX11_centrals_2 ++ qtX11_centrals_3
def qtX11_centrals_1 : List Nat := qaX11_centrals_1 ++ qtX11_centrals_2
def qtX11_centrals_0 : List Nat := qaX11_centrals_0 ++ qtX11_centrals_1
theorem qeX11_centrals : cX11_centrals.data.toList.map UInt8.toNat = qtX11_centrals_0 := by decide +kernel
theorem qsX11_centrals_0 : ∀ i, dqNth qtX11_centrals_0 (0 + i) = dqNth qtX11_centrals_0 i := fun i => by rw [Nat.zero_add]
theorem qsX11_centrals_1 : ∀ i, dqNth qtX11_centrals_0 (16 + i) = dqNth qtX11_centrals_1 i := dq_step qsX11_centrals_0 rfl rfl
theorem qsX11_centrals_2 : ∀ i, dqNth qtX11_centrals_0 (32 + i) = dqNth qtX11_centrals_2 i := dq_step qsX11_centrals_1 rfl rfl
theorem qX11_centrals_0 (i b : Nat) (h : dqNth qaX11_centrals_0 i = some b) : DqBy cX11_centrals (0 + i) b := dqBy_of qeX11_centrals ((qsX11_centrals_0 i).trans (dq_in h))
theorem qX11_centrals_1 (i b : Nat) (h : dqNth qaX11_centrals_1 i = some b) : DqBy cX11_centrals (16 + i) b := dqBy_of qeX11_centrals ((qsX11_centrals_1 i).trans (dq_in h))
theorem qX11_centrals_2 (i b : Nat) (h : dqNth qaX11_centrals_2 i = some b) : DqBy cX11_centrals (32 + i) b := dqBy_of qeX11_centrals ((qsX11_centrals_2 i).trans (dq_in h))
theorem dX11_centrals_0 : decode cX11_centrals 0 = .ok (.iconst 0, 1) := @dq_o3 cX11_centrals 0 (qX11_centrals_0 0 3 rfl)
theorem dX11_centrals_1 : decode cX11_centrals 1 = .ok (.istore_n 1, 1) := @dq_o60 cX11_centrals 1 (qX11_centrals_0 1 60 rfl)
theorem dX11_centrals_2 : decode cX11_centrals 2 = .ok (.iconst 0, 1) := @dq_o3 cX11_centrals 2 (qX11_centrals_0 2 3 rfl)
theorem dX11_centrals_3 : decode cX11_centrals 3 = .ok (.istore_n 2, 1) := @dq_o61 cX11_centrals 3 (qX11_centrals_0 3 61 rfl)
theorem dX11_centrals_4 : decode cX11_centrals 4 = .ok (.iload_n 2, 1) := @dq_o28 cX11_centrals 4 (qX11_centrals_0 4 28 rfl)
theorem dX11_centrals_5 : decode cX11_centrals 5 = .ok (.aload_n 0, 1) := @dq_o42 cX11_centrals 5 (qX11_centrals_0 5 42 rfl)
theorem dX11_centrals_6 : decode cX11_centrals 6 = .ok (.invokevirtual 88, 3) := @dq_o182 cX11_centrals 6 0 88 (qX11_centrals_0 6 182 rfl) (qX11_centrals_0 7 0 rfl) (qX11_centrals_0 8 88 rfl)
theorem dX11_centrals_9 : decode cX11_centrals 9 = .ok (.if_icmp .ge 30, 3) := @dq_o162 cX11_centrals 9 0 30 (qX11_centrals_0 9 162 rfl) (qX11_centrals_0 10 0 rfl) (qX11_centrals_0 11 30 rfl)
theorem dX11_centrals_12 : decode cX11_centrals 12 = .ok (.aload_n 0, 1) := @dq_o42 cX11_centrals 12 (qX11_centrals_0 12 42 rfl)
theorem dX11_centrals_13 : decode cX11_centrals 13 = .ok (.invokevirtual 235, 3) := @dq_o182 cX11_centrals 13 0 235 (qX11_centrals_0 13 182 rfl) (qX11_centrals_0 14 0 rfl) (qX11_centrals_0 15 235 rfl)
theorem dX11_centrals_16 : decode cX11_centrals 16 = .ok (.ifCond .eq 23, 3) := @dq_o153 cX11_centrals 16 0 23 (qX11_centrals_1 0 153 rfl) (qX11_centrals_1 1 0 rfl) (qX11_centrals_1 2 23 rfl)
theorem dX11_centrals_19 : decode cX11_centrals 19 = .ok (.aload_n 0, 1) := @dq_o42 cX11_centrals 19 (qX11_centrals_1 3 42 rfl)
theorem dX11_centrals_20 : decode cX11_centrals 20 = .ok (.iload_n 2, 1) := @dq_o28 cX11_centrals 20 (qX11_centrals_1 4 28 rfl)
theorem dX11_centrals_21 : decode cX11_centrals 21 = .ok (.invokevirtual 346, 3) := @dq_o182 cX11_centrals 21 1 90 (qX11_centrals_1 5 182 rfl) (qX11_centrals_1 6 1 rfl) (qX11_centrals_1 7 90 rfl)
theorem dX11_centrals_24 : decode cX11_centrals 24 = .ok (.ifCond .eq 9, 3) := @dq_o153 cX11_centrals 24 0 9 (qX11_centrals_1 8 153 rfl) (qX11_centrals_1 9 0 rfl) (qX11_centrals_1 10 9 rfl)
theorem dX11_centrals_27 : decode cX11_centrals 27 = .ok (.iload_n 1, 1) := @dq_o27 cX11_centrals 27 (qX11_centrals_1 11 27 rfl)
theorem dX11_centrals_28 : decode cX11_centrals 28 = .ok (.iconst 1, 1) := @dq_o4 cX11_centrals 28 (qX11_centrals_1 12 4 rfl)
theorem dX11_centrals_29 : decode cX11_centrals 29 = .ok (.iload_n 2, 1) := @dq_o28 cX11_centrals 29 (qX11_centrals_1 13 28 rfl)
theorem dX11_centrals_30 : decode cX11_centrals 30 = .ok (.ishl, 1) := @dq_o120 cX11_centrals 30 (qX11_centrals_1 14 120 rfl)
theorem dX11_centrals_31 : decode cX11_centrals 31 = .ok (.ior, 1) := @dq_o128 cX11_centrals 31 (qX11_centrals_1 15 128 rfl)
theorem dX11_centrals_32 : decode cX11_centrals 32 = .ok (.istore_n 1, 1) := @dq_o60 cX11_centrals 32 (qX11_centrals_2 0 60 rfl)
theorem dX11_centrals_33 : decode cX11_centrals 33 = .ok (.iinc 2 1, 3) := @dq_o132 cX11_centrals 33 2 1 (qX11_centrals_2 1 132 rfl) (qX11_centrals_2 2 2 rfl) (qX11_centrals_2 3 1 rfl)
theorem dX11_centrals_36 : decode cX11_centrals 36 = .ok (.goto (-32), 3) := @dq_o167 cX11_centrals 36 255 224 (qX11_centrals_2 4 167 rfl) (qX11_centrals_2 5 255 rfl) (qX11_centrals_2 6 224 rfl)
theorem dX11_centrals_39 : decode cX11_centrals 39 = .ok (.iload_n 1, 1) := @dq_o27 cX11_centrals 39 (qX11_centrals_2 7 27 rfl)
theorem dX11_centrals_40 : decode cX11_centrals 40 = .ok (.ireturn, 1) := @dq_o172 cX11_centrals 40 (qX11_centrals_2 8 172 rfl)
abbrev qaX11_look_0 : List Nat := [42, 3, 181, 0, 1, 27, 154, 0, 8, 42, 182, 0, 88, 172, 27, 4]
abbrev qaX11_look_1 : List Nat := [160, 0, 8, 42, 182, 1, 7, 172, 27, 5, 160, 0, 16, 42, 182, 0]
abbrev qaX11_look_2 : List Nat := [235, 153, 0, 7, 4, 167, 0, 4, 3, 172, 27, 6, 160, 0, 8, 42]
abbrev qaX11_look_3 : List Nat := [182, 1, 210, 172, 27, 7, 160, 0, 8, 42, 182, 1, 213, 172, 27, 8]
abbrev qaX11_look_4 : List Nat := [160, 0, 8, 42, 182, 1, 216, 172, 27, 16, 6, 160, 0, 8, 42, 180]
abbrev qaX11_look_5 : List Nat := [0, 96, 172, 27, 16, 7, 160, 0, 8, 42, 180, 1, 16, 172, 27, 16]
abbrev qaX11_look_6 : List Nat := [8, 160, 0, 10, 42, 180, 0, 229, 167, 0, 17, 27, 16, 9, 160, 0]
abbrev qaX11_look_7 : List Nat := [10, 42, 182, 1, 219, 167, 0, 4, 2, 172]
def qtX11_look_8 : List Nat := []
def qtX11_look_7 : List Nat := qaX11_look_7 ++ qtX11_look_8
def qtX11_look_6 : List Nat := qaX11_look_6 ++ qtX11_look_7
def qtX11_look_5 : List Nat := qaX11_look_5 ++ qtX11_look_6
def qtX11_look_4 : List Nat := qaX11_look_4 ++ qtX11_look_5
def qtX11_look_3 : List Nat := qaX11_look_3 ++ qtX11_look_4
def qtX11_look_2 : List Nat := qaX11_look_2 ++ qtX11_look_3
def qtX11_look_1 : List Nat := qaX11_look_1 ++ qtX11_look_2
def qtX11_look_0 : List Nat := qaX11_look_0 ++ qtX11_look_1
theorem qeX11_look : cX11_look.data.toList.map UInt8.toNat = qtX11_look_0 := by decide +kernel
theorem qsX11_look_0 : ∀ i, dqNth qtX11_look_0 (0 + i) = dqNth qtX11_look_0 i := fun i => by rw [Nat.zero_add]
theorem qsX11_look_1 : ∀ i, dqNth qtX11_look_0 (16 + i) = dqNth qtX11_look_1 i := dq_step qsX11_look_0 rfl rfl
theorem qsX11_look_2 : ∀ i, dqNth qtX11_look_0 (32 + i) = dqNth qtX11_look_2 i := dq_step qsX11_look_1 rfl rfl
theorem qsX11_look_3 : ∀ i, dqNth qtX11_look_0 (48 + i) = dqNth qtX11_look_3 i := dq_step qsX11_look_2 rfl rfl
theorem qsX11_look_4 : ∀ i, dqNth qtX11_look_0 (64 + i) = dqNth qtX11_look_4 i := dq_step qsX11_look_3 rfl rfl
theorem qsX11_look_5 : ∀ i, dqNth qtX11_look_0 (80 + i) = dqNth qtX11_look_5 i := dq_step qsX11_look_4 rfl rfl
theorem qsX11_look_6 : ∀ i, dqNth qtX11_look_0 (96 + i) = dqNth qtX11_look_6 i := dq_step qsX11_look_5 rfl rfl
theorem qsX11_look_7 : ∀ i, dqNth qtX11_look_0 (112 + i) = dqNth qtX11_look_7 i := dq_step qsX11_look_6 rfl rfl
theorem qX11_look_0 (i b : Nat) (h : dqNth qaX11_look_0 i = some b) : DqBy cX11_look (0 + i) b := dqBy_of qeX11_look ((qsX11_look_0 i).trans (dq_in h))
theorem qX11_look_1 (i b : Nat) (h : dqNth qaX11_look_1 i = some b) : DqBy cX11_look (16 + i) b := dqBy_of qeX11_look ((qsX11_look_1 i).trans (dq_in h))
theorem qX11_look_2 (i b : Nat) (h : dqNth qaX11_look_2 i = some b) : DqBy cX11_look (32 + i) b := dqBy_of qeX11_look ((qsX11_look_2 i).trans (dq_in h))
theorem qX11_look_3 (i b : Nat) (h : dqNth qaX11_look_3 i = some b) : DqBy cX11_look (48 + i) b := dqBy_of qeX11_look ((qsX11_look_3 i).trans (dq_in h))
theorem qX11_look_4 (i b : Nat) (h : dqNth qaX11_look_4 i = some b) : DqBy cX11_look (64 + i) b := dqBy_of qeX11_look ((qsX11_look_4 i).trans (dq_in h))
theorem qX11_look_5 (i b : Nat) (h : dqNth qaX11_look_5 i = some b) : DqBy cX11_look (80 + i) b := dqBy_of qeX11_look ((qsX11_look_5 i).trans (dq_in h))
theorem qX11_look_6 (i b : Nat) (h : dqNth qaX11_look_6 i = some b) : DqBy cX11_look (96 + i) b := dqBy_of qeX11_look ((qsX11_look_6 i).trans (dq_in h))
theorem qX11_look_7 (i b : Nat) (h : dqNth qaX11_look_7 i = some b) : DqBy cX11_look (112 + i) b := dqBy_of qeX11_look ((qsX11_look_7 i).trans (dq_in h))
theorem dX11_look_0 : decode cX11_look 0 = .ok (.aload_n 0, 1) := @dq_o42 cX11_look 0 (qX11_look_0 0 42 rfl)
theorem dX11_look_1 : decode cX11_look 1 = .ok (.iconst 0, 1) := @dq_o3 cX11_look 1 (qX11_look_0 1 3 rfl)
theorem dX11_look_2 : decode cX11_look 2 = .ok (.putfield 1, 3) := @dq_o181 cX11_look 2 0 1 (qX11_look_0 2 181 rfl) (qX11_look_0 3 0 rfl) (qX11_look_0 4 1 rfl)
theorem dX11_look_5 : decode cX11_look 5 = .ok (.iload_n 1, 1) := @dq_o27 cX11_look 5 (qX11_look_0 5 27 rfl)
theorem dX11_look_6 : decode cX11_look 6 = .ok (.ifCond .ne 8, 3) := @dq_o154 cX11_look 6 0 8 (qX11_look_0 6 154 rfl) (qX11_look_0 7 0 rfl) (qX11_look_0 8 8 rfl)
theorem dX11_look_9 : decode cX11_look 9 = .ok (.aload_n 0, 1) := @dq_o42 cX11_look 9 (qX11_look_0 9 42 rfl)
theorem dX11_look_10 : decode cX11_look 10 = .ok (.invokevirtual 88, 3) := @dq_o182 cX11_look 10 0 88 (qX11_look_0 10 182 rfl) (qX11_look_0 11 0 rfl) (qX11_look_0 12 88 rfl)
theorem dX11_look_13 : decode cX11_look 13 = .ok (.ireturn, 1) := @dq_o172 cX11_look 13 (qX11_look_0 13 172 rfl)
theorem dX11_look_14 : decode cX11_look 14 = .ok (.iload_n 1, 1) := @dq_o27 cX11_look 14 (qX11_look_0 14 27 rfl)
theorem dX11_look_15 : decode cX11_look 15 = .ok (.iconst 1, 1) := @dq_o4 cX11_look 15 (qX11_look_0 15 4 rfl)
theorem dX11_look_16 : decode cX11_look 16 = .ok (.if_icmp .ne 8, 3) := @dq_o160 cX11_look 16 0 8 (qX11_look_1 0 160 rfl) (qX11_look_1 1 0 rfl) (qX11_look_1 2 8 rfl)
theorem dX11_look_19 : decode cX11_look 19 = .ok (.aload_n 0, 1) := @dq_o42 cX11_look 19 (qX11_look_1 3 42 rfl)
theorem dX11_look_20 : decode cX11_look 20 = .ok (.invokevirtual 263, 3) := @dq_o182 cX11_look 20 1 7 (qX11_look_1 4 182 rfl) (qX11_look_1 5 1 rfl) (qX11_look_1 6 7 rfl)
theorem dX11_look_23 : decode cX11_look 23 = .ok (.ireturn, 1) := @dq_o172 cX11_look 23 (qX11_look_1 7 172 rfl)
theorem dX11_look_24 : decode cX11_look 24 = .ok (.iload_n 1, 1) := @dq_o27 cX11_look 24 (qX11_look_1 8 27 rfl)
theorem dX11_look_25 : decode cX11_look 25 = .ok (.iconst 2, 1) := @dq_o5 cX11_look 25 (qX11_look_1 9 5 rfl)
theorem dX11_look_26 : decode cX11_look 26 = .ok (.if_icmp .ne 16, 3) := @dq_o160 cX11_look 26 0 16 (qX11_look_1 10 160 rfl) (qX11_look_1 11 0 rfl) (qX11_look_1 12 16 rfl)
theorem dX11_look_29 : decode cX11_look 29 = .ok (.aload_n 0, 1) := @dq_o42 cX11_look 29 (qX11_look_1 13 42 rfl)
theorem dX11_look_30 : decode cX11_look 30 = .ok (.invokevirtual 235, 3) := @dq_o182 cX11_look 30 0 235 (qX11_look_1 14 182 rfl) (qX11_look_1 15 0 rfl) (qX11_look_2 0 235 rfl)
theorem dX11_look_33 : decode cX11_look 33 = .ok (.ifCond .eq 7, 3) := @dq_o153 cX11_look 33 0 7 (qX11_look_2 1 153 rfl) (qX11_look_2 2 0 rfl) (qX11_look_2 3 7 rfl)
theorem dX11_look_36 : decode cX11_look 36 = .ok (.iconst 1, 1) := @dq_o4 cX11_look 36 (qX11_look_2 4 4 rfl)
theorem dX11_look_37 : decode cX11_look 37 = .ok (.goto 4, 3) := @dq_o167 cX11_look 37 0 4 (qX11_look_2 5 167 rfl) (qX11_look_2 6 0 rfl) (qX11_look_2 7 4 rfl)
theorem dX11_look_40 : decode cX11_look 40 = .ok (.iconst 0, 1) := @dq_o3 cX11_look 40 (qX11_look_2 8 3 rfl)
theorem dX11_look_41 : decode cX11_look 41 = .ok (.ireturn, 1) := @dq_o172 cX11_look 41 (qX11_look_2 9 172 rfl)
theorem dX11_look_42 : decode cX11_look 42 = .ok (.iload_n 1, 1) := @dq_o27 cX11_look 42 (qX11_look_2 10 27 rfl)
theorem dX11_look_43 : decode cX11_look 43 = .ok (.iconst 3, 1) := @dq_o6 cX11_look 43 (qX11_look_2 11 6 rfl)
theorem dX11_look_44 : decode cX11_look 44 = .ok (.if_icmp .ne 8, 3) := @dq_o160 cX11_look 44 0 8 (qX11_look_2 12 160 rfl) (qX11_look_2 13 0 rfl) (qX11_look_2 14 8 rfl)
theorem dX11_look_47 : decode cX11_look 47 = .ok (.aload_n 0, 1) := @dq_o42 cX11_look 47 (qX11_look_2 15 42 rfl)
theorem dX11_look_48 : decode cX11_look 48 = .ok (.invokevirtual 466, 3) := @dq_o182 cX11_look 48 1 210 (qX11_look_3 0 182 rfl) (qX11_look_3 1 1 rfl) (qX11_look_3 2 210 rfl)
theorem dX11_look_51 : decode cX11_look 51 = .ok (.ireturn, 1) := @dq_o172 cX11_look 51 (qX11_look_3 3 172 rfl)
theorem dX11_look_52 : decode cX11_look 52 = .ok (.iload_n 1, 1) := @dq_o27 cX11_look 52 (qX11_look_3 4 27 rfl)
theorem dX11_look_53 : decode cX11_look 53 = .ok (.iconst 4, 1) := @dq_o7 cX11_look 53 (qX11_look_3 5 7 rfl)
theorem dX11_look_54 : decode cX11_look 54 = .ok (.if_icmp .ne 8, 3) := @dq_o160 cX11_look 54 0 8 (qX11_look_3 6 160 rfl) (qX11_look_3 7 0 rfl) (qX11_look_3 8 8 rfl)
theorem dX11_look_57 : decode cX11_look 57 = .ok (.aload_n 0, 1) := @dq_o42 cX11_look 57 (qX11_look_3 9 42 rfl)
theorem dX11_look_58 : decode cX11_look 58 = .ok (.invokevirtual 469, 3) := @dq_o182 cX11_look 58 1 213 (qX11_look_3 10 182 rfl) (qX11_look_3 11 1 rfl) (qX11_look_3 12 213 rfl)
theorem dX11_look_61 : decode cX11_look 61 = .ok (.ireturn, 1) := @dq_o172 cX11_look 61 (qX11_look_3 13 172 rfl)
theorem dX11_look_62 : decode cX11_look 62 = .ok (.iload_n 1, 1) := @dq_o27 cX11_look 62 (qX11_look_3 14 27 rfl)
theorem dX11_look_63 : decode cX11_look 63 = .ok (.iconst 5, 1) := @dq_o8 cX11_look 63 (qX11_look_3 15 8 rfl)
theorem dX11_look_64 : decode cX11_look 64 = .ok (.if_icmp .ne 8, 3) := @dq_o160 cX11_look 64 0 8 (qX11_look_4 0 160 rfl) (qX11_look_4 1 0 rfl) (qX11_look_4 2 8 rfl)
theorem dX11_look_67 : decode cX11_look 67 = .ok (.aload_n 0, 1) := @dq_o42 cX11_look 67 (qX11_look_4 3 42 rfl)
theorem dX11_look_68 : decode cX11_look 68 = .ok (.invokevirtual 472, 3) := @dq_o182 cX11_look 68 1 216 (qX11_look_4 4 182 rfl) (qX11_look_4 5 1 rfl) (qX11_look_4 6 216 rfl)
theorem dX11_look_71 : decode cX11_look 71 = .ok (.ireturn, 1) := @dq_o172 cX11_look 71 (qX11_look_4 7 172 rfl)
theorem dX11_look_72 : decode cX11_look 72 = .ok (.iload_n 1, 1) := @dq_o27 cX11_look 72 (qX11_look_4 8 27 rfl)
theorem dX11_look_73 : decode cX11_look 73 = .ok (.bipush 6, 2) := @dq_o16 cX11_look 73 6 (qX11_look_4 9 16 rfl) (qX11_look_4 10 6 rfl)
theorem dX11_look_75 : decode cX11_look 75 = .ok (.if_icmp .ne 8, 3) := @dq_o160 cX11_look 75 0 8 (qX11_look_4 11 160 rfl) (qX11_look_4 12 0 rfl) (qX11_look_4 13 8 rfl)
theorem dX11_look_78 : decode cX11_look 78 = .ok (.aload_n 0, 1) := @dq_o42 cX11_look 78 (qX11_look_4 14 42 rfl)
theorem dX11_look_79 : decode cX11_look 79 = .ok (.getfield 96, 3) := @dq_o180 cX11_look 79 0 96 (qX11_look_4 15 180 rfl) (qX11_look_5 0 0 rfl) (qX11_look_5 1 96 rfl)
theorem dX11_look_82 : decode cX11_look 82 = .ok (.ireturn, 1) := @dq_o172 cX11_look 82 (qX11_look_5 2 172 rfl)
theorem dX11_look_83 : decode cX11_look 83 = .ok (.iload_n 1, 1) := @dq_o27 cX11_look 83 (qX11_look_5 3 27 rfl)
theorem dX11_look_84 : decode cX11_look 84 = .ok (.bipush 7, 2) := @dq_o16 cX11_look 84 7 (qX11_look_5 4 16 rfl) (qX11_look_5 5 7 rfl)
theorem dX11_look_86 : decode cX11_look 86 = .ok (.if_icmp .ne 8, 3) := @dq_o160 cX11_look 86 0 8 (qX11_look_5 6 160 rfl) (qX11_look_5 7 0 rfl) (qX11_look_5 8 8 rfl)
theorem dX11_look_89 : decode cX11_look 89 = .ok (.aload_n 0, 1) := @dq_o42 cX11_look 89 (qX11_look_5 9 42 rfl)
theorem dX11_look_90 : decode cX11_look 90 = .ok (.getfield 272, 3) := @dq_o180 cX11_look 90 1 16 (qX11_look_5 10 180 rfl) (qX11_look_5 11 1 rfl) (qX11_look_5 12 16 rfl)
theorem dX11_look_93 : decode cX11_look 93 = .ok (.ireturn, 1) := @dq_o172 cX11_look 93 (qX11_look_5 13 172 rfl)
theorem dX11_look_94 : decode cX11_look 94 = .ok (.iload_n 1, 1) := @dq_o27 cX11_look 94 (qX11_look_5 14 27 rfl)
theorem dX11_look_95 : decode cX11_look 95 = .ok (.bipush 8, 2) := @dq_o16 cX11_look 95 8 (qX11_look_5 15 16 rfl) (qX11_look_6 0 8 rfl)
theorem dX11_look_97 : decode cX11_look 97 = .ok (.if_icmp .ne 10, 3) := @dq_o160 cX11_look 97 0 10 (qX11_look_6 1 160 rfl) (qX11_look_6 2 0 rfl) (qX11_look_6 3 10 rfl)
theorem dX11_look_100 : decode cX11_look 100 = .ok (.aload_n 0, 1) := @dq_o42 cX11_look 100 (qX11_look_6 4 42 rfl)
theorem dX11_look_101 : decode cX11_look 101 = .ok (.getfield 229, 3) := @dq_o180 cX11_look 101 0 229 (qX11_look_6 5 180 rfl) (qX11_look_6 6 0 rfl) (qX11_look_6 7 229 rfl)
theorem dX11_look_104 : decode cX11_look 104 = .ok (.goto 17, 3) := @dq_o167 cX11_look 104 0 17 (qX11_look_6 8 167 rfl) (qX11_look_6 9 0 rfl) (qX11_look_6 10 17 rfl)
theorem dX11_look_107 : decode cX11_look 107 = .ok (.iload_n 1, 1) := @dq_o27 cX11_look 107 (qX11_look_6 11 27 rfl)
theorem dX11_look_108 : decode cX11_look 108 = .ok (.bipush 9, 2) := @dq_o16 cX11_look 108 9 (qX11_look_6 12 16 rfl) (qX11_look_6 13 9 rfl)
theorem dX11_look_110 : decode cX11_look 110 = .ok (.if_icmp .ne 10, 3) := @dq_o160 cX11_look 110 0 10 (qX11_look_6 14 160 rfl) (qX11_look_6 15 0 rfl) (qX11_look_7 0 10 rfl)
theorem dX11_look_113 : decode cX11_look 113 = .ok (.aload_n 0, 1) := @dq_o42 cX11_look 113 (qX11_look_7 1 42 rfl)
theorem dX11_look_114 : decode cX11_look 114 = .ok (.invokevirtual 475, 3) := @dq_o182 cX11_look 114 1 219 (qX11_look_7 2 182 rfl) (qX11_look_7 3 1 rfl) (qX11_look_7 4 219 rfl)
theorem dX11_look_117 : decode cX11_look 117 = .ok (.goto 4, 3) := @dq_o167 cX11_look 117 0 4 (qX11_look_7 5 167 rfl) (qX11_look_7 6 0 rfl) (qX11_look_7 7 4 rfl)
theorem dX11_look_120 : decode cX11_look 120 = .ok (.iconst (-1), 1) := @dq_o2 cX11_look 120 (qX11_look_7 8 2 rfl)
theorem dX11_look_121 : decode cX11_look 121 = .ok (.ireturn, 1) := @dq_o172 cX11_look 121 (qX11_look_7 9 172 rfl)
abbrev qaJ9_floorDiv_f86c9_0 : List Nat := [30, 32, 109, 55, 4, 30, 32, 131, 9, 148, 156, 0, 17, 22, 4, 32]
abbrev qaJ9_floorDiv_f86c9_1 : List Nat := [105, 30, 148, 153, 0, 8, 22, 4, 10, 101, 173, 22, 4, 173]
def qtJ9_floorDiv_f86c9_2 : List Nat := []
def qtJ9_floorDiv_f86c9_1 : List Nat := qaJ9_floorDiv_f86c9_1 ++ qtJ9_floorDiv_f86c9_2
def qtJ9_floorDiv_f86c9_0 : List Nat := qaJ9_floorDiv_f86c9_0 ++ qtJ9_floorDiv_f86c9_1
theorem qeJ9_floorDiv_f86c9 : cJ9_floorDiv_f86c9.data.toList.map UInt8.toNat = qtJ9_floorDiv_f86c9_0 := by decide +kernel
theorem qsJ9_floorDiv_f86c9_0 : ∀ i, dqNth qtJ9_floorDiv_f86c9_0 (0 + i) = dqNth qtJ9_floorDiv_f86c9_0 i := fun i => by rw [Nat.zero_add]
theorem qsJ9_floorDiv_f86c9_1 : ∀ i, dqNth qtJ9_floorDiv_f86c9_0 (16 + i) = dqNth qtJ9_floorDiv_f86c9_1 i := dq_step qsJ9_floorDiv_f86c9_0 rfl rfl
theorem qJ9_floorDiv_f86c9_0 (i b : Nat) (h : dqNth qaJ9_floorDiv_f86c9_0 i = some b) : DqBy cJ9_floorDiv_f86c9 (0 + i) b := dqBy_of qeJ9_floorDiv_f86c9 ((qsJ9_floorDiv_f86c9_0 i).trans (dq_in h))
theorem qJ9_floorDiv_f86c9_1 (i b : Nat) (h : dqNth qaJ9_floorDiv_f86c9_1 i = some b) : DqBy cJ9_floorDiv_f86c9 (16 + i) b := dqBy_of qeJ9_floorDiv_f86c9 ((qsJ9_floorDiv_f86c9_1 i).trans (dq_in h))
theorem dJ9_floorDiv_f86c9_0 : decode cJ9_floorDiv_f86c9 0 = .ok (.lload_n 0, 1) := @dq_o30 cJ9_floorDiv_f86c9 0 (qJ9_floorDiv_f86c9_0 0 30 rfl)
theorem dJ9_floorDiv_f86c9_1 : decode cJ9_floorDiv_f86c9 1 = .ok (.lload_n 2, 1) := @dq_o32 cJ9_floorDiv_f86c9 1 (qJ9_floorDiv_f86c9_0 1 32 rfl)
theorem dJ9_floorDiv_f86c9_2 : decode cJ9_floorDiv_f86c9 2 = .ok (.ldiv, 1) := @dq_o109 cJ9_floorDiv_f86c9 2 (qJ9_floorDiv_f86c9_0 2 109 rfl)
theorem dJ9_floorDiv_f86c9_3 : decode cJ9_floorDiv_f86c9 3 = .ok (.lstore 4, 2) := @dq_o55 cJ9_floorDiv_f86c9 3 4 (qJ9_floorDiv_f86c9_0 3 55 rfl) (qJ9_floorDiv_f86c9_0 4 4 rfl)
theorem dJ9_floorDiv_f86c9_5 : decode cJ9_floorDiv_f86c9 5 = .ok (.lload_n 0, 1) := @dq_o30 cJ9_floorDiv_f86c9 5 (qJ9_floorDiv_f86c9_0 5 30 rfl)
theorem dJ9_floorDiv_f86c9_6 : decode cJ9_floorDiv_f86c9 6 = .ok (.lload_n 2, 1) := @dq_o32 cJ9_floorDiv_f86c9 6 (qJ9_floorDiv_f86c9_0 6 32 rfl)
theorem dJ9_floorDiv_f86c9_7 : decode cJ9_floorDiv_f86c9 7 = .ok (.lxor, 1) := @dq_o131 cJ9_floorDiv_f86c9 7 (qJ9_floorDiv_f86c9_0 7 131 rfl)
theorem dJ9_floorDiv_f86c9_8 : decode cJ9_floorDiv_f86c9 8 = .ok (.lconst 0, 1) := @dq_o9 cJ9_floorDiv_f86c9 8 (qJ9_floorDiv_f86c9_0 8 9 rfl)
theorem dJ9_floorDiv_f86c9_9 : decode cJ9_floorDiv_f86c9 9 = .ok (.lcmp, 1) := @dq_o148 cJ9_floorDiv_f86c9 9 (qJ9_floorDiv_f86c9_0 9 148 rfl)
theorem dJ9_floorDiv_f86c9_10 : decode cJ9_floorDiv_f86c9 10 = .ok (.ifCond .ge 17, 3) := @dq_o156 cJ9_floorDiv_f86c9 10 0 17 (qJ9_floorDiv_f86c9_0 10 156 rfl) (qJ9_floorDiv_f86c9_0 11 0 rfl) (qJ9_floorDiv_f86c9_0 12 17 rfl)
theorem dJ9_floorDiv_f86c9_13 : decode cJ9_floorDiv_f86c9 13 = .ok (.lload 4, 2) := @dq_o22 cJ9_floorDiv_f86c9 13 4 (qJ9_floorDiv_f86c9_0 13 22 rfl) (qJ9_floorDiv_f86c9_0 14 4 rfl)
theorem dJ9_floorDiv_f86c9_15 : decode cJ9_floorDiv_f86c9 15 = .ok (.lload_n 2, 1) := @dq_o32 cJ9_floorDiv_f86c9 15 (qJ9_floorDiv_f86c9_0 15 32 rfl)
theorem dJ9_floorDiv_f86c9_16 : decode cJ9_floorDiv_f86c9 16 = .ok (.lmul, 1) := @dq_o105 cJ9_floorDiv_f86c9 16 (qJ9_floorDiv_f86c9_1 0 105 rfl)
theorem dJ9_floorDiv_f86c9_17 : decode cJ9_floorDiv_f86c9 17 = .ok (.lload_n 0, 1) := @dq_o30 cJ9_floorDiv_f86c9 17 (qJ9_floorDiv_f86c9_1 1 30 rfl)
theorem dJ9_floorDiv_f86c9_18 : decode cJ9_floorDiv_f86c9 18 = .ok (.lcmp, 1) := @dq_o148 cJ9_floorDiv_f86c9 18 (qJ9_floorDiv_f86c9_1 2 148 rfl)
theorem dJ9_floorDiv_f86c9_19 : decode cJ9_floorDiv_f86c9 19 = .ok (.ifCond .eq 8, 3) := @dq_o153 cJ9_floorDiv_f86c9 19 0 8 (qJ9_floorDiv_f86c9_1 3 153 rfl) (qJ9_floorDiv_f86c9_1 4 0 rfl) (qJ9_floorDiv_f86c9_1 5 8 rfl)
theorem dJ9_floorDiv_f86c9_22 : decode cJ9_floorDiv_f86c9 22 = .ok (.lload 4, 2) := @dq_o22 cJ9_floorDiv_f86c9 22 4 (qJ9_floorDiv_f86c9_1 6 22 rfl) (qJ9_floorDiv_f86c9_1 7 4 rfl)
theorem dJ9_floorDiv_f86c9_24 : decode cJ9_floorDiv_f86c9 24 = .ok (.lconst 1, 1) := @dq_o10 cJ9_floorDiv_f86c9 24 (qJ9_floorDiv_f86c9_1 8 10 rfl)
theorem dJ9_floorDiv_f86c9_25 : decode cJ9_floorDiv_f86c9 25 = .ok (.lsub, 1) := @dq_o101 cJ9_floorDiv_f86c9 25 (qJ9_floorDiv_f86c9_1 9 101 rfl)
theorem dJ9_floorDiv_f86c9_26 : decode cJ9_floorDiv_f86c9 26 = .ok (.lreturn, 1) := @dq_o173 cJ9_floorDiv_f86c9 26 (qJ9_floorDiv_f86c9_1 10 173 rfl)
theorem dJ9_floorDiv_f86c9_27 : decode cJ9_floorDiv_f86c9 27 = .ok (.lload 4, 2) := @dq_o22 cJ9_floorDiv_f86c9 27 4 (qJ9_floorDiv_f86c9_1 11 22 rfl) (qJ9_floorDiv_f86c9_1 12 4 rfl)
theorem dJ9_floorDiv_f86c9_29 : decode cJ9_floorDiv_f86c9 29 = .ok (.lreturn, 1) := @dq_o173 cJ9_floorDiv_f86c9 29 (qJ9_floorDiv_f86c9_1 13 173 rfl)
abbrev qaJ9_abs_067f4_0 : List Nat := [30, 9, 148, 156, 0, 8, 30, 117, 167, 0, 4, 30, 173]
def qtJ9_abs_067f4_1 : List Nat := []
def qtJ9_abs_067f4_0 : List Nat := qaJ9_abs_067f4_0 ++ qtJ9_abs_067f4_1
theorem qeJ9_abs_067f4 : cJ9_abs_067f4.data.toList.map UInt8.toNat = qtJ9_abs_067f4_0 := by decide +kernel
theorem qsJ9_abs_067f4_0 : ∀ i, dqNth qtJ9_abs_067f4_0 (0 + i) = dqNth qtJ9_abs_067f4_0 i := fun i => by rw [Nat.zero_add]
theorem qJ9_abs_067f4_0 (i b : Nat) (h : dqNth qaJ9_abs_067f4_0 i = some b) : DqBy cJ9_abs_067f4 (0 + i) b := dqBy_of qeJ9_abs_067f4 ((qsJ9_abs_067f4_0 i).trans (dq_in h))
theorem dJ9_abs_067f4_0 : decode cJ9_abs_067f4 0 = .ok (.lload_n 0, 1) := @dq_o30 cJ9_abs_067f4 0 (qJ9_abs_067f4_0 0 30 rfl)
theorem dJ9_abs_067f4_1 : decode cJ9_abs_067f4 1 = .ok (.lconst 0, 1) := @dq_o9 cJ9_abs_067f4 1 (qJ9_abs_067f4_0 1 9 rfl)
theorem dJ9_abs_067f4_2 : decode cJ9_abs_067f4 2 = .ok (.lcmp, 1) := @dq_o148 cJ9_abs_067f4 2 (qJ9_abs_067f4_0 2 148 rfl)
theorem dJ9_abs_067f4_3 : decode cJ9_abs_067f4 3 = .ok (.ifCond .ge 8, 3) := @dq_o156 cJ9_abs_067f4 3 0 8 (qJ9_abs_067f4_0 3 156 rfl) (qJ9_abs_067f4_0 4 0 rfl) (qJ9_abs_067f4_0 5 8 rfl)
theorem dJ9_abs_067f4_6 : decode cJ9_abs_067f4 6 = .ok (.lload_n 0, 1) := @dq_o30 cJ9_abs_067f4 6 (qJ9_abs_067f4_0 6 30 rfl)
theorem dJ9_abs_067f4_7 : decode cJ9_abs_067f4 7 = .ok (.lneg, 1) := @dq_o117 cJ9_abs_067f4 7 (qJ9_abs_067f4_0 7 117 rfl)
theorem dJ9_abs_067f4_8 : decode cJ9_abs_067f4 8 = .ok (.goto 4, 3) := @dq_o167 cJ9_abs_067f4 8 0 4 (qJ9_abs_067f4_0 8 167 rfl) (qJ9_abs_067f4_0 9 0 rfl) (qJ9_abs_067f4_0 10 4 rfl)
theorem dJ9_abs_067f4_11 : decode cJ9_abs_067f4 11 = .ok (.lload_n 0, 1) := @dq_o30 cJ9_abs_067f4 11 (qJ9_abs_067f4_0 11 30 rfl)
theorem dJ9_abs_067f4_12 : decode cJ9_abs_067f4 12 = .ok (.lreturn, 1) := @dq_o173 cJ9_abs_067f4 12 (qJ9_abs_067f4_0 12 173 rfl)
abbrev qaJ9_max_7cf53_0 : List Nat := [26, 27, 161, 0, 7, 26, 167, 0, 4, 27, 172]
def qtJ9_max_7cf53_1 : List Nat := []
def qtJ9_max_7cf53_0 : List Nat := qaJ9_max_7cf53_0 ++ qtJ9_max_7cf53_1
theorem qeJ9_max_7cf53 : cJ9_max_7cf53.data.toList.map UInt8.toNat = qtJ9_max_7cf53_0 := by decide +kernel
theorem qsJ9_max_7cf53_0 : ∀ i, dqNth qtJ9_max_7cf53_0 (0 + i) = dqNth qtJ9_max_7cf53_0 i := fun i => by rw [Nat.zero_add]
theorem qJ9_max_7cf53_0 (i b : Nat) (h : dqNth qaJ9_max_7cf53_0 i = some b) : DqBy cJ9_max_7cf53 (0 + i) b := dqBy_of qeJ9_max_7cf53 ((qsJ9_max_7cf53_0 i).trans (dq_in h))
theorem dJ9_max_7cf53_0 : decode cJ9_max_7cf53 0 = .ok (.iload_n 0, 1) := @dq_o26 cJ9_max_7cf53 0 (qJ9_max_7cf53_0 0 26 rfl)
theorem dJ9_max_7cf53_1 : decode cJ9_max_7cf53 1 = .ok (.iload_n 1, 1) := @dq_o27 cJ9_max_7cf53 1 (qJ9_max_7cf53_0 1 27 rfl)
theorem dJ9_max_7cf53_2 : decode cJ9_max_7cf53 2 = .ok (.if_icmp .lt 7, 3) := @dq_o161 cJ9_max_7cf53 2 0 7 (qJ9_max_7cf53_0 2 161 rfl) (qJ9_max_7cf53_0 3 0 rfl) (qJ9_max_7cf53_0 4 7 rfl)
theorem dJ9_max_7cf53_5 : decode cJ9_max_7cf53 5 = .ok (.iload_n 0, 1) := @dq_o26 cJ9_max_7cf53 5 (qJ9_max_7cf53_0 5 26 rfl)
theorem dJ9_max_7cf53_6 : decode cJ9_max_7cf53 6 = .ok (.goto 4, 3) := @dq_o167 cJ9_max_7cf53 6 0 4 (qJ9_max_7cf53_0 6 167 rfl) (qJ9_max_7cf53_0 7 0 rfl) (qJ9_max_7cf53_0 8 4 rfl)
theorem dJ9_max_7cf53_9 : decode cJ9_max_7cf53 9 = .ok (.iload_n 1, 1) := @dq_o27 cJ9_max_7cf53 9 (qJ9_max_7cf53_0 9 27 rfl)
theorem dJ9_max_7cf53_10 : decode cJ9_max_7cf53 10 = .ok (.ireturn, 1) := @dq_o172 cJ9_max_7cf53 10 (qJ9_max_7cf53_0 10 172 rfl)
abbrev qaJ9_min_7cf53_0 : List Nat := [26, 27, 163, 0, 7, 26, 167, 0, 4, 27, 172]
def qtJ9_min_7cf53_1 : List Nat := []
def qtJ9_min_7cf53_0 : List Nat := qaJ9_min_7cf53_0 ++ qtJ9_min_7cf53_1
theorem qeJ9_min_7cf53 : cJ9_min_7cf53.data.toList.map UInt8.toNat = qtJ9_min_7cf53_0 := by decide +kernel
theorem qsJ9_min_7cf53_0 : ∀ i, dqNth qtJ9_min_7cf53_0 (0 + i) = dqNth qtJ9_min_7cf53_0 i := fun i => by rw [Nat.zero_add]
theorem qJ9_min_7cf53_0 (i b : Nat) (h : dqNth qaJ9_min_7cf53_0 i = some b) : DqBy cJ9_min_7cf53 (0 + i) b := dqBy_of qeJ9_min_7cf53 ((qsJ9_min_7cf53_0 i).trans (dq_in h))
theorem dJ9_min_7cf53_0 : decode cJ9_min_7cf53 0 = .ok (.iload_n 0, 1) := @dq_o26 cJ9_min_7cf53 0 (qJ9_min_7cf53_0 0 26 rfl)
theorem dJ9_min_7cf53_1 : decode cJ9_min_7cf53 1 = .ok (.iload_n 1, 1) := @dq_o27 cJ9_min_7cf53 1 (qJ9_min_7cf53_0 1 27 rfl)
theorem dJ9_min_7cf53_2 : decode cJ9_min_7cf53 2 = .ok (.if_icmp .gt 7, 3) := @dq_o163 cJ9_min_7cf53 2 0 7 (qJ9_min_7cf53_0 2 163 rfl) (qJ9_min_7cf53_0 3 0 rfl) (qJ9_min_7cf53_0 4 7 rfl)
theorem dJ9_min_7cf53_5 : decode cJ9_min_7cf53 5 = .ok (.iload_n 0, 1) := @dq_o26 cJ9_min_7cf53 5 (qJ9_min_7cf53_0 5 26 rfl)
theorem dJ9_min_7cf53_6 : decode cJ9_min_7cf53 6 = .ok (.goto 4, 3) := @dq_o167 cJ9_min_7cf53 6 0 4 (qJ9_min_7cf53_0 6 167 rfl) (qJ9_min_7cf53_0 7 0 rfl) (qJ9_min_7cf53_0 8 4 rfl)
theorem dJ9_min_7cf53_9 : decode cJ9_min_7cf53 9 = .ok (.iload_n 1, 1) := @dq_o27 cJ9_min_7cf53 9 (qJ9_min_7cf53_0 9 27 rfl)
theorem dJ9_min_7cf53_10 : decode cJ9_min_7cf53 10 = .ok (.ireturn, 1) := @dq_o172 cJ9_min_7cf53 10 (qJ9_min_7cf53_0 10 172 rfl)
abbrev qaJ7_fill_d0a16_0 : List Nat := [3, 62, 42, 190, 54, 4, 29, 21, 4, 162, 0, 13, 42, 29, 31, 80]
abbrev qaJ7_fill_d0a16_1 : List Nat := [132, 3, 1, 167, 255, 243, 177]
def qtJ7_fill_d0a16_2 : List Nat := []
def qtJ7_fill_d0a16_1 : List Nat := qaJ7_fill_d0a16_1 ++ qtJ7_fill_d0a16_2
def qtJ7_fill_d0a16_0 : List Nat := qaJ7_fill_d0a16_0 ++ qtJ7_fill_d0a16_1
theorem qeJ7_fill_d0a16 : cJ7_fill_d0a16.data.toList.map UInt8.toNat = qtJ7_fill_d0a16_0 := by decide +kernel
theorem qsJ7_fill_d0a16_0 : ∀ i, dqNth qtJ7_fill_d0a16_0 (0 + i) = dqNth qtJ7_fill_d0a16_0 i := fun i => by rw [Nat.zero_add]
theorem qsJ7_fill_d0a16_1 : ∀ i, dqNth qtJ7_fill_d0a16_0 (16 + i) = dqNth qtJ7_fill_d0a16_1 i := dq_step qsJ7_fill_d0a16_0 rfl rfl
theorem qJ7_fill_d0a16_0 (i b : Nat) (h : dqNth qaJ7_fill_d0a16_0 i = some b) : DqBy cJ7_fill_d0a16 (0 + i) b := dqBy_of qeJ7_fill_d0a16 ((qsJ7_fill_d0a16_0 i).trans (dq_in h))
theorem qJ7_fill_d0a16_1 (i b : Nat) (h : dqNth qaJ7_fill_d0a16_1 i = some b) : DqBy cJ7_fill_d0a16 (16 + i) b := dqBy_of qeJ7_fill_d0a16 ((qsJ7_fill_d0a16_1 i).trans (dq_in h))
theorem dJ7_fill_d0a16_0 : decode cJ7_fill_d0a16 0 = .ok (.iconst 0, 1) := @dq_o3 cJ7_fill_d0a16 0 (qJ7_fill_d0a16_0 0 3 rfl)
theorem dJ7_fill_d0a16_1 : decode cJ7_fill_d0a16 1 = .ok (.istore_n 3, 1) := @dq_o62 cJ7_fill_d0a16 1 (qJ7_fill_d0a16_0 1 62 rfl)
theorem dJ7_fill_d0a16_2 : decode cJ7_fill_d0a16 2 = .ok (.aload_n 0, 1) := @dq_o42 cJ7_fill_d0a16 2 (qJ7_fill_d0a16_0 2 42 rfl)
theorem dJ7_fill_d0a16_3 : decode cJ7_fill_d0a16 3 = .ok (.arraylength, 1) := @dq_o190 cJ7_fill_d0a16 3 (qJ7_fill_d0a16_0 3 190 rfl)
theorem dJ7_fill_d0a16_4 : decode cJ7_fill_d0a16 4 = .ok (.istore 4, 2) := @dq_o54 cJ7_fill_d0a16 4 4 (qJ7_fill_d0a16_0 4 54 rfl) (qJ7_fill_d0a16_0 5 4 rfl)
theorem dJ7_fill_d0a16_6 : decode cJ7_fill_d0a16 6 = .ok (.iload_n 3, 1) := @dq_o29 cJ7_fill_d0a16 6 (qJ7_fill_d0a16_0 6 29 rfl)
theorem dJ7_fill_d0a16_7 : decode cJ7_fill_d0a16 7 = .ok (.iload 4, 2) := @dq_o21 cJ7_fill_d0a16 7 4 (qJ7_fill_d0a16_0 7 21 rfl) (qJ7_fill_d0a16_0 8 4 rfl)
theorem dJ7_fill_d0a16_9 : decode cJ7_fill_d0a16 9 = .ok (.if_icmp .ge 13, 3) := @dq_o162 cJ7_fill_d0a16 9 0 13 (qJ7_fill_d0a16_0 9 162 rfl) (qJ7_fill_d0a16_0 10 0 rfl) (qJ7_fill_d0a16_0 11 13 rfl)
theorem dJ7_fill_d0a16_12 : decode cJ7_fill_d0a16 12 = .ok (.aload_n 0, 1) := @dq_o42 cJ7_fill_d0a16 12 (qJ7_fill_d0a16_0 12 42 rfl)
theorem dJ7_fill_d0a16_13 : decode cJ7_fill_d0a16 13 = .ok (.iload_n 3, 1) := @dq_o29 cJ7_fill_d0a16 13 (qJ7_fill_d0a16_0 13 29 rfl)
theorem dJ7_fill_d0a16_14 : decode cJ7_fill_d0a16 14 = .ok (.lload_n 1, 1) := @dq_o31 cJ7_fill_d0a16 14 (qJ7_fill_d0a16_0 14 31 rfl)
theorem dJ7_fill_d0a16_15 : decode cJ7_fill_d0a16 15 = .ok (.lastore, 1) := @dq_o80 cJ7_fill_d0a16 15 (qJ7_fill_d0a16_0 15 80 rfl)
theorem dJ7_fill_d0a16_16 : decode cJ7_fill_d0a16 16 = .ok (.iinc 3 1, 3) := @dq_o132 cJ7_fill_d0a16 16 3 1 (qJ7_fill_d0a16_1 0 132 rfl) (qJ7_fill_d0a16_1 1 3 rfl) (qJ7_fill_d0a16_1 2 1 rfl)
theorem dJ7_fill_d0a16_19 : decode cJ7_fill_d0a16 19 = .ok (.goto (-13), 3) := @dq_o167 cJ7_fill_d0a16 19 255 243 (qJ7_fill_d0a16_1 3 167 rfl) (qJ7_fill_d0a16_1 4 255 rfl) (qJ7_fill_d0a16_1 5 243 rfl)
theorem dJ7_fill_d0a16_22 : decode cJ7_fill_d0a16 22 = .ok (.return_, 1) := @dq_o177 cJ7_fill_d0a16 22 (qJ7_fill_d0a16_1 6 177 rfl)
abbrev qaJ7_fill_53178_0 : List Nat := [3, 61, 42, 190, 62, 28, 29, 162, 0, 13, 42, 28, 27, 79, 132, 2]
abbrev qaJ7_fill_53178_1 : List Nat := [1, 167, 255, 244, 177]
def qtJ7_fill_53178_2 : List Nat := []
def qtJ7_fill_53178_1 : List Nat := qaJ7_fill_53178_1 ++ qtJ7_fill_53178_2
def qtJ7_fill_53178_0 : List Nat := qaJ7_fill_53178_0 ++ qtJ7_fill_53178_1
theorem qeJ7_fill_53178 : cJ7_fill_53178.data.toList.map UInt8.toNat = qtJ7_fill_53178_0 := by decide +kernel
theorem qsJ7_fill_53178_0 : ∀ i, dqNth qtJ7_fill_53178_0 (0 + i) = dqNth qtJ7_fill_53178_0 i := fun i => by rw [Nat.zero_add]
theorem qsJ7_fill_53178_1 : ∀ i, dqNth qtJ7_fill_53178_0 (16 + i) = dqNth qtJ7_fill_53178_1 i := dq_step qsJ7_fill_53178_0 rfl rfl
theorem qJ7_fill_53178_0 (i b : Nat) (h : dqNth qaJ7_fill_53178_0 i = some b) : DqBy cJ7_fill_53178 (0 + i) b := dqBy_of qeJ7_fill_53178 ((qsJ7_fill_53178_0 i).trans (dq_in h))
theorem qJ7_fill_53178_1 (i b : Nat) (h : dqNth qaJ7_fill_53178_1 i = some b) : DqBy cJ7_fill_53178 (16 + i) b := dqBy_of qeJ7_fill_53178 ((qsJ7_fill_53178_1 i).trans (dq_in h))
theorem dJ7_fill_53178_0 : decode cJ7_fill_53178 0 = .ok (.iconst 0, 1) := @dq_o3 cJ7_fill_53178 0 (qJ7_fill_53178_0 0 3 rfl)
theorem dJ7_fill_53178_1 : decode cJ7_fill_53178 1 = .ok (.istore_n 2, 1) := @dq_o61 cJ7_fill_53178 1 (qJ7_fill_53178_0 1 61 rfl)
theorem dJ7_fill_53178_2 : decode cJ7_fill_53178 2 = .ok (.aload_n 0, 1) := @dq_o42 cJ7_fill_53178 2 (qJ7_fill_53178_0 2 42 rfl)
theorem dJ7_fill_53178_3 : decode cJ7_fill_53178 3 = .ok (.arraylength, 1) := @dq_o190 cJ7_fill_53178 3 (qJ7_fill_53178_0 3 190 rfl)
theorem dJ7_fill_53178_4 : decode cJ7_fill_53178 4 = .ok (.istore_n 3, 1) := @dq_o62 cJ7_fill_53178 4 (qJ7_fill_53178_0 4 62 rfl)
theorem dJ7_fill_53178_5 : decode cJ7_fill_53178 5 = .ok (.iload_n 2, 1) := @dq_o28 cJ7_fill_53178 5 (qJ7_fill_53178_0 5 28 rfl)
theorem dJ7_fill_53178_6 : decode cJ7_fill_53178 6 = .ok (.iload_n 3, 1) := @dq_o29 cJ7_fill_53178 6 (qJ7_fill_53178_0 6 29 rfl)
theorem dJ7_fill_53178_7 : decode cJ7_fill_53178 7 = .ok (.if_icmp .ge 13, 3) := @dq_o162 cJ7_fill_53178 7 0 13 (qJ7_fill_53178_0 7 162 rfl) (qJ7_fill_53178_0 8 0 rfl) (qJ7_fill_53178_0 9 13 rfl)
theorem dJ7_fill_53178_10 : decode cJ7_fill_53178 10 = .ok (.aload_n 0, 1) := @dq_o42 cJ7_fill_53178 10 (qJ7_fill_53178_0 10 42 rfl)
theorem dJ7_fill_53178_11 : decode cJ7_fill_53178 11 = .ok (.iload_n 2, 1) := @dq_o28 cJ7_fill_53178 11 (qJ7_fill_53178_0 11 28 rfl)
theorem dJ7_fill_53178_12 : decode cJ7_fill_53178 12 = .ok (.iload_n 1, 1) := @dq_o27 cJ7_fill_53178 12 (qJ7_fill_53178_0 12 27 rfl)
theorem dJ7_fill_53178_13 : decode cJ7_fill_53178 13 = .ok (.iastore, 1) := @dq_o79 cJ7_fill_53178 13 (qJ7_fill_53178_0 13 79 rfl)
theorem dJ7_fill_53178_14 : decode cJ7_fill_53178 14 = .ok (.iinc 2 1, 3) := @dq_o132 cJ7_fill_53178 14 2 1 (qJ7_fill_53178_0 14 132 rfl) (qJ7_fill_53178_0 15 2 rfl) (qJ7_fill_53178_1 0 1 rfl)
theorem dJ7_fill_53178_17 : decode cJ7_fill_53178 17 = .ok (.goto (-12), 3) := @dq_o167 cJ7_fill_53178 17 255 244 (qJ7_fill_53178_1 1 167 rfl) (qJ7_fill_53178_1 2 255 rfl) (qJ7_fill_53178_1 3 244 rfl)
theorem dJ7_fill_53178_20 : decode cJ7_fill_53178 20 = .ok (.return_, 1) := @dq_o177 cJ7_fill_53178 20 (qJ7_fill_53178_1 4 177 rfl)
abbrev qaL_law_0 : List Nat := [187, 0, 7, 89, 183, 0, 9, 76, 187, 0, 10, 89, 183, 0, 12, 77]
abbrev qaL_law_1 : List Nat := [3, 62, 29, 42, 190, 16, 6, 100, 163, 5, 17, 42, 29, 46, 16, 63]
abbrev qaL_law_2 : List Nat := [126, 170, 0, 0, 0, 0, 5, 2, 0, 0, 0, 0, 0, 0, 0, 32]
abbrev qaL_law_3 : List Nat := [0, 0, 0, 147, 0, 0, 0, 180, 0, 0, 0, 233, 0, 0, 1, 0]
abbrev qaL_law_4 : List Nat := [0, 0, 1, 43, 0, 0, 1, 86, 0, 0, 1, 119, 0, 0, 1, 162]
abbrev qaL_law_5 : List Nat := [0, 0, 1, 205, 0, 0, 1, 248, 0, 0, 2, 35, 0, 0, 2, 88]
abbrev qaL_law_6 : List Nat := [0, 0, 2, 151, 0, 0, 2, 174, 0, 0, 2, 197, 0, 0, 2, 220]
abbrev qaL_law_7 : List Nat := [0, 0, 2, 233, 0, 0, 3, 0, 0, 0, 3, 13, 0, 0, 3, 46]
abbrev qaL_law_8 : List Nat := [0, 0, 3, 79, 0, 0, 3, 122, 0, 0, 3, 145, 0, 0, 3, 188]
abbrev qaL_law_9 : List Nat := [0, 0, 3, 221, 0, 0, 4, 8, 0, 0, 4, 41, 0, 0, 4, 74]
abbrev qaL_law_10 : List Nat := [0, 0, 4, 117, 0, 0, 4, 160, 0, 0, 4, 183, 0, 0, 4, 196]
abbrev qaL_law_11 : List Nat := [0, 0, 4, 235, 43, 42, 29, 4, 96, 46, 42, 29, 5, 96, 46, 182]
abbrev qaL_law_12 : List Nat := [0, 13, 87, 44, 42, 29, 4, 96, 46, 42, 29, 5, 96, 46, 182, 0]
abbrev qaL_law_13 : List Nat := [17, 87, 167, 4, 81, 43, 42, 29, 4, 96, 46, 42, 29, 5, 96, 46]
abbrev qaL_law_14 : List Nat := [42, 29, 6, 96, 46, 42, 29, 7, 96, 46, 182, 0, 18, 87, 44, 42]
abbrev qaL_law_15 : List Nat := [29, 4, 96, 46, 42, 29, 5, 96, 46, 42, 29, 6, 96, 46, 42, 29]
abbrev qaL_law_16 : List Nat := [7, 96, 46, 182, 0, 22, 87, 167, 4, 28, 43, 42, 29, 4, 96, 46]
abbrev qaL_law_17 : List Nat := [182, 0, 23, 87, 44, 42, 29, 4, 96, 46, 182, 0, 27, 87, 167, 4]
abbrev qaL_law_18 : List Nat := [5, 43, 42, 29, 4, 96, 46, 42, 29, 5, 96, 46, 42, 29, 6, 96]
abbrev qaL_law_19 : List Nat := [46, 182, 0, 28, 87, 44, 42, 29, 4, 96, 46, 42, 29, 5, 96, 46]
abbrev qaL_law_20 : List Nat := [42, 29, 6, 96, 46, 182, 0, 32, 87, 167, 3, 218, 43, 42, 29, 4]
abbrev qaL_law_21 : List Nat := [96, 46, 42, 29, 5, 96, 46, 42, 29, 6, 96, 46, 182, 0, 33, 87]
abbrev qaL_law_22 : List Nat := [44, 42, 29, 4, 96, 46, 42, 29, 5, 96, 46, 42, 29, 6, 96, 46]
abbrev qaL_law_23 : List Nat := [182, 0, 36, 87, 167, 3, 175, 43, 42, 29, 4, 96, 46, 42, 29, 5]
abbrev qaL_law_24 : List Nat := [96, 46, 182, 0, 37, 87, 44, 42, 29, 4, 96, 46, 42, 29, 5, 96]
abbrev qaL_law_25 : List Nat := [46, 182, 0, 40, 87, 167, 3, 142, 43, 42, 29, 4, 96, 46, 42, 29]
abbrev qaL_law_26 : List Nat := [5, 96, 46, 42, 29, 6, 96, 46, 182, 0, 41, 87, 44, 42, 29, 4]
abbrev qaL_law_27 : List Nat := [96, 46, 42, 29, 5, 96, 46, 42, 29, 6, 96, 46, 182, 0, 44, 87]
abbrev qaL_law_28 : List Nat := [167, 3, 99, 43, 42, 29, 4, 96, 46, 42, 29, 5, 96, 46, 42, 29]
abbrev qaL_law_29 : List Nat := [6, 96, 46, 182, 0, 45, 87, 44, 42, 29, 4, 96, 46, 42, 29, 5]
abbrev qaL_law_30 : List Nat := [96, 46, 42, 29, 6, 96, 46, 182, 0, 48, 87, 167, 3, 56, 43, 42]
abbrev qaL_law_31 : List Nat := [29, 4, 96, 46, 42, 29, 5, 96, 46, 42, 29, 6, 96, 46, 182, 0]
abbrev qaL_law_32 : List Nat := [49, 87, 44, 42, 29, 4, 96, 46, 42, 29, 5, 96, 46, 42, 29, 6]
abbrev qaL_law_33 : List Nat := [96, 46, 182, 0, 52, 87, 167, 3, 13, 43, 42, 29, 4, 96, 46, 42]
abbrev qaL_law_34 : List Nat := [29, 5, 96, 46, 42, 29, 6, 96, 46, 182, 0, 53, 87, 44, 42, 29]
abbrev qaL_law_35 : List Nat := [4, 96, 46, 42, 29, 5, 96, 46, 42, 29, 6, 96, 46, 182, 0, 56]
abbrev qaL_law_36 : List Nat := [87, 167, 2, 226, 43, 42, 29, 4, 96, 46, 42, 29, 5, 96, 46, 42]
abbrev qaL_law_37 : List Nat := [29, 6, 96, 46, 42, 29, 7, 96, 46, 182, 0, 57, 87, 44, 42, 29]
abbrev qaL_law_38 : List Nat := [4, 96, 46, 42, 29, 5, 96, 46, 42, 29, 6, 96, 46, 42, 29, 7]
abbrev qaL_law_39 : List Nat := [96, 46, 182, 0, 60, 87, 167, 2, 173, 43, 42, 29, 4, 96, 46, 42]
abbrev qaL_law_40 : List Nat := [29, 5, 96, 46, 42, 29, 6, 96, 46, 42, 29, 7, 96, 46, 42, 29]
abbrev qaL_law_41 : List Nat := [8, 96, 46, 182, 0, 61, 87, 44, 42, 29, 4, 96, 46, 42, 29, 5]
abbrev qaL_law_42 : List Nat := [96, 46, 42, 29, 6, 96, 46, 42, 29, 7, 96, 46, 42, 29, 8, 96]
abbrev qaL_law_43 : List Nat := [46, 182, 0, 65, 87, 167, 2, 110, 43, 42, 29, 4, 96, 46, 182, 0]
abbrev qaL_law_44 : List Nat := [66, 87, 44, 42, 29, 4, 96, 46, 182, 0, 69, 87, 167, 2, 87, 43]
abbrev qaL_law_45 : List Nat := [42, 29, 4, 96, 46, 182, 0, 70, 87, 44, 42, 29, 4, 96, 46, 182]
abbrev qaL_law_46 : List Nat := [0, 73, 87, 167, 2, 64, 43, 42, 29, 4, 96, 46, 182, 0, 74, 87]
abbrev qaL_law_47 : List Nat := [44, 42, 29, 4, 96, 46, 182, 0, 78, 87, 167, 2, 41, 43, 182, 0]
abbrev qaL_law_48 : List Nat := [79, 87, 44, 182, 0, 83, 87, 167, 2, 28, 43, 42, 29, 4, 96, 46]
abbrev qaL_law_49 : List Nat := [182, 0, 84, 87, 44, 42, 29, 4, 96, 46, 182, 0, 87, 87, 167, 2]
abbrev qaL_law_50 : List Nat := [5, 43, 182, 0, 88, 87, 44, 182, 0, 91, 87, 167, 1, 248, 43, 42]
abbrev qaL_law_51 : List Nat := [29, 4, 96, 46, 42, 29, 5, 96, 46, 182, 0, 92, 87, 44, 42, 29]
abbrev qaL_law_52 : List Nat := [4, 96, 46, 42, 29, 5, 96, 46, 182, 0, 96, 87, 167, 1, 215, 43]
abbrev qaL_law_53 : List Nat := [42, 29, 4, 96, 46, 42, 29, 5, 96, 46, 182, 0, 97, 87, 44, 42]
abbrev qaL_law_54 : List Nat := [29, 4, 96, 46, 42, 29, 5, 96, 46, 182, 0, 100, 87, 167, 1, 182]
abbrev qaL_law_55 : List Nat := [43, 42, 29, 4, 96, 46, 42, 29, 5, 96, 46, 42, 29, 6, 96, 46]
abbrev qaL_law_56 : List Nat := [182, 0, 101, 87, 44, 42, 29, 4, 96, 46, 42, 29, 5, 96, 46, 42]
abbrev qaL_law_57 : List Nat := [29, 6, 96, 46, 182, 0, 105, 87, 167, 1, 139, 43, 42, 29, 4, 96]
abbrev qaL_law_58 : List Nat := [46, 182, 0, 106, 87, 44, 42, 29, 4, 96, 46, 182, 0, 109, 87, 167]
abbrev qaL_law_59 : List Nat := [1, 116, 43, 42, 29, 4, 96, 46, 42, 29, 5, 96, 46, 42, 29, 6]
abbrev qaL_law_60 : List Nat := [96, 46, 182, 0, 110, 87, 44, 42, 29, 4, 96, 46, 42, 29, 5, 96]
abbrev qaL_law_61 : List Nat := [46, 42, 29, 6, 96, 46, 182, 0, 113, 87, 167, 1, 73, 43, 42, 29]
abbrev qaL_law_62 : List Nat := [4, 96, 46, 42, 29, 5, 96, 46, 182, 0, 114, 87, 44, 42, 29, 4]
abbrev qaL_law_63 : List Nat := [96, 46, 42, 29, 5, 96, 46, 182, 0, 117, 87, 167, 1, 40, 43, 42]
abbrev qaL_law_64 : List Nat := [29, 4, 96, 46, 42, 29, 5, 96, 46, 42, 29, 6, 96, 46, 182, 0]
abbrev qaL_law_65 : List Nat := [118, 87, 44, 42, 29, 4, 96, 46, 42, 29, 5, 96, 46, 42, 29, 6]
abbrev qaL_law_66 : List Nat := [96, 46, 182, 0, 121, 87, 167, 0, 253, 43, 42, 29, 4, 96, 46, 42]
abbrev qaL_law_67 : List Nat := [29, 5, 96, 46, 182, 0, 122, 87, 44, 42, 29, 4, 96, 46, 42, 29]
abbrev qaL_law_68 : List Nat := [5, 96, 46, 182, 0, 125, 87, 167, 0, 220, 43, 42, 29, 4, 96, 46]
abbrev qaL_law_69 : List Nat := [42, 29, 5, 96, 46, 182, 0, 126, 87, 44, 42, 29, 4, 96, 46, 42]
abbrev qaL_law_70 : List Nat := [29, 5, 96, 46, 182, 0, 129, 87, 167, 0, 187, 43, 42, 29, 4, 96]
abbrev qaL_law_71 : List Nat := [46, 42, 29, 5, 96, 46, 42, 29, 6, 96, 46, 182, 0, 130, 88, 44]
abbrev qaL_law_72 : List Nat := [42, 29, 4, 96, 46, 42, 29, 5, 96, 46, 42, 29, 6, 96, 46, 182]
abbrev qaL_law_73 : List Nat := [0, 134, 88, 167, 0, 144, 43, 42, 29, 4, 96, 46, 42, 29, 5, 96]
abbrev qaL_law_74 : List Nat := [46, 42, 29, 6, 96, 46, 182, 0, 135, 87, 44, 42, 29, 4, 96, 46]
abbrev qaL_law_75 : List Nat := [42, 29, 5, 96, 46, 42, 29, 6, 96, 46, 182, 0, 138, 87, 167, 0]
abbrev qaL_law_76 : List Nat := [101, 43, 42, 29, 4, 96, 46, 182, 0, 139, 87, 44, 42, 29, 4, 96]
abbrev qaL_law_77 : List Nat := [46, 182, 0, 142, 87, 167, 0, 78, 43, 182, 0, 143, 87, 44, 182, 0]
abbrev qaL_law_78 : List Nat := [146, 87, 167, 0, 65, 43, 42, 29, 4, 96, 46, 153, 0, 7, 4, 167]
abbrev qaL_law_79 : List Nat := [0, 4, 3, 182, 0, 147, 87, 44, 42, 29, 4, 96, 46, 153, 0, 7]
abbrev qaL_law_80 : List Nat := [4, 167, 0, 4, 3, 182, 0, 151, 87, 167, 0, 26, 43, 42, 29, 4]
abbrev qaL_law_81 : List Nat := [96, 46, 182, 0, 152, 44, 42, 29, 4, 96, 46, 182, 0, 155, 159, 0]
abbrev qaL_law_82 : List Nat := [5, 3, 172, 132, 3, 6, 167, 250, 236, 4, 172]
def qtL_law_83 : List Nat := []
def qtL_law_82 : List Nat := qaL_law_82 ++ qtL_law_83
def qtL_law_81 : List Nat := qaL_law_81 ++ qtL_law_82
def qtL_law_80 : List Nat := qaL_law_80 ++ qtL_law_81
def qtL_law_79 : List Nat := qaL_law_79 ++ qtL_law_80
def qtL_law_78 : List Nat := qaL_law_78 ++ qtL_law_79
def qtL_law_77 : List Nat := qaL_law_77 ++ qtL_law_78
def qtL_law_76 : List Nat := qaL_law_76 ++ qtL_law_77
def qtL_law_75 : List Nat := qaL_law_75 ++ qtL_law_76
def qtL_law_74 : List Nat := qaL_law_74 ++ qtL_law_75
def qtL_law_73 : List Nat := qaL_law_73 ++ qtL_law_74
def qtL_law_72 : List Nat := qaL_law_72 ++ qtL_law_73
def qtL_law_71 : List Nat := qaL_law_71 ++ qtL_law_72
def qtL_law_70 : List Nat := qaL_law_70 ++ qtL_law_71
def qtL_law_69 : List Nat := qaL_law_69 ++ qtL_law_70
def qtL_law_68 : List Nat := qaL_law_68 ++ qtL_law_69
def qtL_law_67 : List Nat := qaL_law_67 ++ qtL_law_68
def qtL_law_66 : List Nat := qaL_law_66 ++ qtL_law_67
def qtL_law_65 : List Nat := qaL_law_65 ++ qtL_law_66
def qtL_law_64 : List Nat := qaL_law_64 ++ qtL_law_65
def qtL_law_63 : List Nat := qaL_law_63 ++ qtL_law_64
def qtL_law_62 : List Nat := qaL_law_62 ++ qtL_law_63
def qtL_law_61 : List Nat := qaL_law_61 ++ qtL_law_62
def qtL_law_60 : List Nat := qaL_law_60 ++ qtL_law_61
def qtL_law_59 : List Nat := qaL_law_59 ++ qtL_law_60
def qtL_law_58 : List Nat := qaL_law_58 ++ qtL_law_59
def qtL_law_57 : List Nat := qaL_law_57 ++ qtL_law_58
def qtL_law_56 : List Nat := qaL_law_56 ++ qtL_law_57
def qtL_law_55 : List Nat := qaL_law_55 ++ qtL_law_56
def qtL_law_54 : List Nat := qaL_law_54 ++ qtL_law_55
def qtL_law_53 : List Nat := qaL_law_53 ++ qtL_law_54
def qtL_law_52 : List Nat := qaL_law_52 ++ qtL_law_53
def qtL_law_51 : List Nat := qaL_law_51 ++ qtL_law_52
def qtL_law_50 : List Nat := qaL_law_50 ++ qtL_law_51
def qtL_law_49 : List Nat := qaL_law_49 ++ qtL_law_50
def qtL_law_48 : List Nat := qaL_law_48 ++ qtL_law_49
def qtL_law_47 : List Nat := qaL_law_47 ++ qtL_law_48
def qtL_law_46 : List Nat := qaL_law_46 ++ qtL_law_47
def qtL_law_45 : List Nat := qaL_law_45 ++ qtL_law_46
def qtL_law_44 : List Nat := qaL_law_44 ++ qtL_law_45
def qtL_law_43 : List Nat := qaL_law_43 ++ qtL_law_44
def qtL_law_42 : List Nat := qaL_law_42 ++ qtL_law_43
def qtL_law_41 : List Nat := qaL_law_41 ++ qtL_law_42
def qtL_law_40 : List Nat := qaL_law_40 ++ qtL_law_41
def qtL_law_39 : List Nat := qaL_law_39 ++ qtL_law_40
def qtL_law_38 : List Nat := qaL_law_38 ++ qtL_law_39
def qtL_law_37 : List Nat := qaL_law_37 ++ qtL_law_38
def qtL_law_36 : List Nat := qaL_law_36 ++ qtL_law_37
def qtL_law_35 : List Nat := qaL_law_35 ++ qtL_law_36
def qtL_law_34 : List Nat := qaL_law_34 ++ qtL_law_35
def qtL_law_33 : List Nat := qaL_law_33 ++ qtL_law_34
def qtL_law_32 : List Nat := qaL_law_32 ++ qtL_law_33
def qtL_law_31 : List Nat := qaL_law_31 ++ qtL_law_32
def qtL_law_30 : List Nat := qaL_law_30 ++ qtL_law_31
def qtL_law_29 : List Nat := qaL_law_29 ++ qtL_law_30
def qtL_law_28 : List Nat := qaL_law_28 ++ qtL_law_29
def qtL_law_27 : List Nat := qaL_law_27 ++ qtL_law_28
def qtL_law_26 : List Nat := qaL_law_26 ++ qtL_law_27
def qtL_law_25 : List Nat := qaL_law_25 ++ qtL_law_26
def qtL_law_24 : List Nat := qaL_law_24 ++ qtL_law_25
def qtL_law_23 : List Nat := qaL_law_23 ++ qtL_law_24
def qtL_law_22 : List Nat := qaL_law_22 ++ qtL_law_23
def qtL_law_21 : List Nat := qaL_law_21 ++ qtL_law_22
def qtL_law_20 : List Nat := qaL_law_20 ++ qtL_law_21
def qtL_law_19 : List Nat := qaL_law_19 ++ qtL_law_20
def qtL_law_18 : List Nat := qaL_law_18 ++ qtL_law_19
def qtL_law_17 : List Nat := qaL_law_17 ++ qtL_law_18
def qtL_law_16 : List Nat := qaL_law_16 ++ qtL_law_17
def qtL_law_15 : List Nat := qaL_law_15 ++ qtL_law_16
def qtL_law_14 : List Nat := qaL_law_14 ++ qtL_law_15
def qtL_law_13 : List Nat := qaL_law_13 ++ qtL_law_14
def qtL_law_12 : List Nat := qaL_law_12 ++ qtL_law_13
def qtL_law_11 : List Nat := qaL_law_11 ++ qtL_law_12
def qtL_law_10 : List Nat := qaL_law_10 ++ qtL_law_11
def qtL_law_9 : List Nat := qaL_law_9 ++ qtL_law_10
def qtL_law_8 : List Nat := qaL_law_8 ++ qtL_law_9
def qtL_law_7 : List Nat := qaL_law_7 ++ qtL_law_8
def qtL_law_6 : List Nat := qaL_law_6 ++ qtL_law_7
def qtL_law_5 : List Nat := qaL_law_5 ++ qtL_law_6
def qtL_law_4 : List Nat := qaL_law_4 ++ qtL_law_5
def qtL_law_3 : List Nat := qaL_law_3 ++ qtL_law_4
def qtL_law_2 : List Nat := qaL_law_2 ++ qtL_law_3
def qtL_law_1 : List Nat := qaL_law_1 ++ qtL_law_2
def qtL_law_0 : List Nat := qaL_law_0 ++ qtL_law_1
theorem qeL_law : cL_law.data.toList.map UInt8.toNat = qtL_law_0 := by decide +kernel
theorem qsL_law_0 : ∀ i, dqNth qtL_law_0 (0 + i) = dqNth qtL_law_0 i := fun i => by rw [Nat.zero_add]
theorem qsL_law_1 : ∀ i, dqNth qtL_law_0 (16 + i) = dqNth qtL_law_1 i := dq_step qsL_law_0 rfl rfl
theorem qsL_law_2 : ∀ i, dqNth qtL_law_0 (32 + i) = dqNth qtL_law_2 i := dq_step qsL_law_1 rfl rfl
theorem qsL_law_3 : ∀ i, dqNth qtL_law_0 (48 + i) = dqNth qtL_law_3 i := dq_step qsL_law_2 rfl rfl
theorem qsL_law_4 : ∀ i, dqNth qtL_law_0 (64 + i) = dqNth qtL_law_4 i := dq_step qsL_law_3 rfl rfl
theorem qsL_law_5 : ∀ i, dqNth qtL_law_0 (80 + i) = dqNth qtL_law_5 i := dq_step qsL_law_4 rfl rfl
theorem qsL_law_6 : ∀ i, dqNth qtL_law_0 (96 + i) = dqNth qtL_law_6 i := dq_step qsL_law_5 rfl rfl
theorem qsL_law_7 : ∀ i, dqNth qtL_law_0 (112 + i) = dqNth qtL_law_7 i := dq_step qsL_law_6 rfl rfl
theorem qsL_law_8 : ∀ i, dqNth qtL_law_0 (128 + i) = dqNth qtL_law_8 i := dq_step qsL_law_7 rfl rfl
theorem qsL_law_9 : ∀ i, dqNth qtL_law_0 (144 + i) = dqNth qtL_law_9 i := dq_step qsL_law_8 rfl rfl
theorem qsL_law_10 : ∀ i, dqNth qtL_law_0 (160 + i) = dqNth qtL_law_10 i := dq_step qsL_law_9 rfl rfl
theorem qsL_law_11 : ∀ i, dqNth qtL_law_0 (176 + i) = dqNth qtL_law_11 i := dq_step qsL_law_10 rfl rfl
theorem qsL_law_12 : ∀ i, dqNth qtL_law_0 (192 + i) = dqNth qtL_law_12 i := dq_step qsL_law_11 rfl rfl
theorem qsL_law_13 : ∀ i, dqNth qtL_law_0 (208 + i) = dqNth qtL_law_13 i := dq_step qsL_law_12 rfl rfl
theorem qsL_law_14 : ∀ i, dqNth qtL_law_0 (224 + i) = dqNth qtL_law_14 i := dq_step qsL_law_13 rfl rfl
theorem qsL_law_15 : ∀ i, dqNth qtL_law_0 (240 + i) = dqNth qtL_law_15 i := dq_step qsL_law_14 rfl rfl
theorem qsL_law_16 : ∀ i, dqNth qtL_law_0 (256 + i) = dqNth qtL_law_16 i := dq_step qsL_law_15 rfl rfl
theorem qsL_law_17 : ∀ i, dqNth qtL_law_0 (272 + i) = dqNth qtL_law_17 i := dq_step qsL_law_16 rfl rfl
theorem qsL_law_18 : ∀ i, dqNth qtL_law_0 (288 + i) = dqNth qtL_law_18 i := dq_step qsL_law_17 rfl rfl
theorem qsL_law_19 : ∀ i, dqNth qtL_law_0 (304 + i) = dqNth qtL_law_19 i := dq_step qsL_law_18 rfl rfl
theorem qsL_law_20 : ∀ i, dqNth qtL_law_0 (320 + i) = dqNth qtL_law_20 i := dq_step qsL_law_19 rfl rfl
theorem qsL_law_21 : ∀ i, dqNth qtL_law_0 (336 + i) = dqNth qtL_law_21 i := dq_step qsL_law_20 rfl rfl
theorem qsL_law_22 : ∀ i, dqNth qtL_law_0 (352 + i) = dqNth qtL_law_22 i := dq_step qsL_law_21 rfl rfl
theorem qsL_law_23 : ∀ i, dqNth qtL_law_0 (368 + i) = dqNth qtL_law_23 i := dq_step qsL_law_22 rfl rfl
theorem qsL_law_24 : ∀ i, dqNth qtL_law_0 (384 + i) = dqNth qtL_law_24 i := dq_step qsL_law_23 rfl rfl
theorem qsL_law_25 : ∀ i, dqNth qtL_law_0 (400 + i) = dqNth qtL_law_25 i := dq_step qsL_law_24 rfl rfl
theorem qsL_law_26 : ∀ i, dqNth qtL_law_0 (416 + i) = dqNth qtL_law_26 i := dq_step qsL_law_25 rfl rfl
theorem qsL_law_27 : ∀ i, dqNth qtL_law_0 (432 + i) = dqNth qtL_law_27 i := dq_step qsL_law_26 rfl rfl
theorem qsL_law_28 : ∀ i, dqNth qtL_law_0 (448 + i) = dqNth qtL_law_28 i := dq_step qsL_law_27 rfl rfl
theorem qsL_law_29 : ∀ i, dqNth qtL_law_0 (464 + i) = dqNth qtL_law_29 i := dq_step qsL_law_28 rfl rfl
theorem qsL_law_30 : ∀ i, dqNth qtL_law_0 (480 + i) = dqNth qtL_law_30 i := dq_step qsL_law_29 rfl rfl
theorem qsL_law_31 : ∀ i, dqNth qtL_law_0 (496 + i) = dqNth qtL_law_31 i := dq_step qsL_law_30 rfl rfl
theorem qsL_law_32 : ∀ i, dqNth qtL_law_0 (512 + i) = dqNth qtL_law_32 i := dq_step qsL_law_31 rfl rfl
theorem qsL_law_33 : ∀ i, dqNth qtL_law_0 (528 + i) = dqNth qtL_law_33 i := dq_step qsL_law_32 rfl rfl
theorem qsL_law_34 : ∀ i, dqNth qtL_law_0 (544 + i) = dqNth qtL_law_34 i := dq_step qsL_law_33 rfl rfl
theorem qsL_law_35 : ∀ i, dqNth qtL_law_0 (560 + i) = dqNth qtL_law_35 i := dq_step qsL_law_34 rfl rfl
theorem qsL_law_36 : ∀ i, dqNth qtL_law_0 (576 + i) = dqNth qtL_law_36 i := dq_step qsL_law_35 rfl rfl
theorem qsL_law_37 : ∀ i, dqNth qtL_law_0 (592 + i) = dqNth qtL_law_37 i := dq_step qsL_law_36 rfl rfl
theorem qsL_law_38 : ∀ i, dqNth qtL_law_0 (608 + i) = dqNth qtL_law_38 i := dq_step qsL_law_37 rfl rfl
theorem qsL_law_39 : ∀ i, dqNth qtL_law_0 (624 + i) = dqNth qtL_law_39 i := dq_step qsL_law_38 rfl rfl
theorem qsL_law_40 : ∀ i, dqNth qtL_law_0 (640 + i) = dqNth qtL_law_40 i := dq_step qsL_law_39 rfl rfl
theorem qsL_law_41 : ∀ i, dqNth qtL_law_0 (656 + i) = dqNth qtL_law_41 i := dq_step qsL_law_40 rfl rfl
theorem qsL_law_42 : ∀ i, dqNth qtL_law_0 (672 + i) = dqNth qtL_law_42 i := dq_step qsL_law_41 rfl rfl
theorem qsL_law_43 : ∀ i, dqNth qtL_law_0 (688 + i) = dqNth qtL_law_43 i := dq_step qsL_law_42 rfl rfl
theorem qsL_law_44 : ∀ i, dqNth qtL_law_0 (704 + i) = dqNth qtL_law_44 i := dq_step qsL_law_43 rfl rfl
theorem qsL_law_45 : ∀ i, dqNth qtL_law_0 (720 + i) = dqNth qtL_law_45 i := dq_step qsL_law_44 rfl rfl
theorem qsL_law_46 : ∀ i, dqNth qtL_law_0 (736 + i) = dqNth qtL_law_46 i := dq_step qsL_law_45 rfl rfl
theorem qsL_law_47 : ∀ i, dqNth qtL_law_0 (752 + i) = dqNth qtL_law_47 i := dq_step qsL_law_46 rfl rfl
theorem qsL_law_48 : ∀ i, dqNth qtL_law_0 (768 + i) = dqNth qtL_law_48 i := dq_step qsL_law_47 rfl rfl
theorem qsL_law_49 : ∀ i, dqNth qtL_law_0 (784 + i) = dqNth qtL_law_49 i := dq_step qsL_law_48 rfl rfl
theorem qsL_law_50 : ∀ i, dqNth qtL_law_0 (800 + i) = dqNth qtL_law_50 i := dq_step qsL_law_49 rfl rfl
theorem qsL_law_51 : ∀ i, dqNth qtL_law_0 (816 + i) = dqNth qtL_law_51 i := dq_step qsL_law_50 rfl rfl
theorem qsL_law_52 : ∀ i, dqNth qtL_law_0 (832 + i) = dqNth qtL_law_52 i := dq_step qsL_law_51 rfl rfl
theorem qsL_law_53 : ∀ i, dqNth qtL_law_0 (848 + i) = dqNth qtL_law_53 i := dq_step qsL_law_52 rfl rfl
theorem qsL_law_54 : ∀ i, dqNth qtL_law_0 (864 + i) = dqNth qtL_law_54 i := dq_step qsL_law_53 rfl rfl
theorem qsL_law_55 : ∀ i, dqNth qtL_law_0 (880 + i) = dqNth qtL_law_55 i := dq_step qsL_law_54 rfl rfl
theorem qsL_law_56 : ∀ i, dqNth qtL_law_0 (896 + i) = dqNth qtL_law_56 i := dq_step qsL_law_55 rfl rfl
theorem qsL_law_57 : ∀ i, dqNth qtL_law_0 (912 + i) = dqNth qtL_law_57 i := dq_step qsL_law_56 rfl rfl
theorem qsL_law_58 : ∀ i, dqNth qtL_law_0 (928 + i) = dqNth qtL_law_58 i := dq_step qsL_law_57 rfl rfl
theorem qsL_law_59 : ∀ i, dqNth qtL_law_0 (944 + i) = dqNth qtL_law_59 i := dq_step qsL_law_58 rfl rfl
theorem qsL_law_60 : ∀ i, dqNth qtL_law_0 (960 + i) = dqNth qtL_law_60 i := dq_step qsL_law_59 rfl rfl
theorem qsL_law_61 : ∀ i, dqNth qtL_law_0 (976 + i) = dqNth qtL_law_61 i := dq_step qsL_law_60 rfl rfl
theorem qsL_law_62 : ∀ i, dqNth qtL_law_0 (992 + i) = dqNth qtL_law_62 i := dq_step qsL_law_61 rfl rfl
theorem qsL_law_63 : ∀ i, dqNth qtL_law_0 (1008 + i) = dqNth qtL_law_63 i := dq_step qsL_law_62 rfl rfl
theorem qsL_law_64 : ∀ i, dqNth qtL_law_0 (1024 + i) = dqNth qtL_law_64 i := dq_step qsL_law_63 rfl rfl
theorem qsL_law_65 : ∀ i, dqNth qtL_law_0 (1040 + i) = dqNth qtL_law_65 i := dq_step qsL_law_64 rfl rfl
theorem qsL_law_66 : ∀ i, dqNth qtL_law_0 (1056 + i) = dqNth qtL_law_66 i := dq_step qsL_law_65 rfl rfl
theorem qsL_law_67 : ∀ i, dqNth qtL_law_0 (1072 + i) = dqNth qtL_law_67 i := dq_step qsL_law_66 rfl rfl
theorem qsL_law_68 : ∀ i, dqNth qtL_law_0 (1088 + i) = dqNth qtL_law_68 i := dq_step qsL_law_67 rfl rfl
theorem qsL_law_69 : ∀ i, dqNth qtL_law_0 (1104 + i) = dqNth qtL_law_69 i := dq_step qsL_law_68 rfl rfl
theorem qsL_law_70 : ∀ i, dqNth qtL_law_0 (1120 + i) = dqNth qtL_law_70 i := dq_step qsL_law_69 rfl rfl
theorem qsL_law_71 : ∀ i, dqNth qtL_law_0 (1136 + i) = dqNth qtL_law_71 i := dq_step qsL_law_70 rfl rfl
theorem qsL_law_72 : ∀ i, dqNth qtL_law_0 (1152 + i) = dqNth qtL_law_72 i := dq_step qsL_law_71 rfl rfl
theorem qsL_law_73 : ∀ i, dqNth qtL_law_0 (1168 + i) = dqNth qtL_law_73 i := dq_step qsL_law_72 rfl rfl
theorem qsL_law_74 : ∀ i, dqNth qtL_law_0 (1184 + i) = dqNth qtL_law_74 i := dq_step qsL_law_73 rfl rfl
theorem qsL_law_75 : ∀ i, dqNth qtL_law_0 (1200 + i) = dqNth qtL_law_75 i := dq_step qsL_law_74 rfl rfl
theorem qsL_law_76 : ∀ i, dqNth qtL_law_0 (1216 + i) = dqNth qtL_law_76 i := dq_step qsL_law_75 rfl rfl
theorem qsL_law_77 : ∀ i, dqNth qtL_law_0 (1232 + i) = dqNth qtL_law_77 i := dq_step qsL_law_76 rfl rfl
theorem qsL_law_78 : ∀ i, dqNth qtL_law_0 (1248 + i) = dqNth qtL_law_78 i := dq_step qsL_law_77 rfl rfl
theorem qsL_law_79 : ∀ i, dqNth qtL_law_0 (1264 + i) = dqNth qtL_law_79 i := dq_step qsL_law_78 rfl rfl
theorem qsL_law_80 : ∀ i, dqNth qtL_law_0 (1280 + i) = dqNth qtL_law_80 i := dq_step qsL_law_79 rfl rfl
theorem qsL_law_81 : ∀ i, dqNth qtL_law_0 (1296 + i) = dqNth qtL_law_81 i := dq_step qsL_law_80 rfl rfl
theorem qsL_law_82 : ∀ i, dqNth qtL_law_0 (1312 + i) = dqNth qtL_law_82 i := dq_step qsL_law_81 rfl rfl
theorem qL_law_0 (i b : Nat) (h : dqNth qaL_law_0 i = some b) : DqBy cL_law (0 + i) b := dqBy_of qeL_law ((qsL_law_0 i).trans (dq_in h))
theorem qL_law_1 (i b : Nat) (h : dqNth qaL_law_1 i = some b) : DqBy cL_law (16 + i) b := dqBy_of qeL_law ((qsL_law_1 i).trans (dq_in h))
theorem qL_law_2 (i b : Nat) (h : dqNth qaL_law_2 i = some b) : DqBy cL_law (32 + i) b := dqBy_of qeL_law ((qsL_law_2 i).trans (dq_in h))
theorem qL_law_3 (i b : Nat) (h : dqNth qaL_law_3 i = some b) : DqBy cL_law (48 + i) b := dqBy_of qeL_law ((qsL_law_3 i).trans (dq_in h))
theorem qL_law_4 (i b : Nat) (h : dqNth qaL_law_4 i = some b) : DqBy cL_law (64 + i) b := dqBy_of qeL_law ((qsL_law_4 i).trans (dq_in h))
theorem qL_law_5 (i b : Nat) (h : dqNth qaL_law_5 i = some b) : DqBy cL_law (80 + i) b := dqBy_of qeL_law ((qsL_law_5 i).trans (dq_in h))
theorem qL_law_6 (i b : Nat) (h : dqNth qaL_law_6 i = some b) : DqBy cL_law (96 + i) b := dqBy_of qeL_law ((qsL_law_6 i).trans (dq_in h))
theorem qL_law_7 (i b : Nat) (h : dqNth qaL_law_7 i = some b) : DqBy cL_law (112 + i) b := dqBy_of qeL_law ((qsL_law_7 i).trans (dq_in h))
theorem qL_law_8 (i b : Nat) (h : dqNth qaL_law_8 i = some b) : DqBy cL_law (128 + i) b := dqBy_of qeL_law ((qsL_law_8 i).trans (dq_in h))
theorem qL_law_9 (i b : Nat) (h : dqNth qaL_law_9 i = some b) : DqBy cL_law (144 + i) b := dqBy_of qeL_law ((qsL_law_9 i).trans (dq_in h))
theorem qL_law_10 (i b : Nat) (h : dqNth qaL_law_10 i = some b) : DqBy cL_law (160 + i) b := dqBy_of qeL_law ((qsL_law_10 i).trans (dq_in h))
theorem qL_law_11 (i b : Nat) (h : dqNth qaL_law_11 i = some b) : DqBy cL_law (176 + i) b := dqBy_of qeL_law ((qsL_law_11 i).trans (dq_in h))
theorem qL_law_12 (i b : Nat) (h : dqNth qaL_law_12 i = some b) : DqBy cL_law (192 + i) b := dqBy_of qeL_law ((qsL_law_12 i).trans (dq_in h))
theorem qL_law_13 (i b : Nat) (h : dqNth qaL_law_13 i = some b) : DqBy cL_law (208 + i) b := dqBy_of qeL_law ((qsL_law_13 i).trans (dq_in h))
theorem qL_law_14 (i b : Nat) (h : dqNth qaL_law_14 i = some b) : DqBy cL_law (224 + i) b := dqBy_of qeL_law ((qsL_law_14 i).trans (dq_in h))
theorem qL_law_15 (i b : Nat) (h : dqNth qaL_law_15 i = some b) : DqBy cL_law (240 + i) b := dqBy_of qeL_law ((qsL_law_15 i).trans (dq_in h))
theorem qL_law_16 (i b : Nat) (h : dqNth qaL_law_16 i = some b) : DqBy cL_law (256 + i) b := dqBy_of qeL_law ((qsL_law_16 i).trans (dq_in h))
theorem qL_law_17 (i b : Nat) (h : dqNth qaL_law_17 i = some b) : DqBy cL_law (272 + i) b := dqBy_of qeL_law ((qsL_law_17 i).trans (dq_in h))
theorem qL_law_18 (i b : Nat) (h : dqNth qaL_law_18 i = some b) : DqBy cL_law (288 + i) b := dqBy_of qeL_law ((qsL_law_18 i).trans (dq_in h))
theorem qL_law_19 (i b : Nat) (h : dqNth qaL_law_19 i = some b) : DqBy cL_law (304 + i) b := dqBy_of qeL_law ((qsL_law_19 i).trans (dq_in h))
theorem qL_law_20 (i b : Nat) (h : dqNth qaL_law_20 i = some b) : DqBy cL_law (320 + i) b := dqBy_of qeL_law ((qsL_law_20 i).trans (dq_in h))
theorem qL_law_21 (i b : Nat) (h : dqNth qaL_law_21 i = some b) : DqBy cL_law (336 + i) b := dqBy_of qeL_law ((qsL_law_21 i).trans (dq_in h))
theorem qL_law_22 (i b : Nat) (h : dqNth qaL_law_22 i = some b) : DqBy cL_law (352 + i) b := dqBy_of qeL_law ((qsL_law_22 i).trans (dq_in h))
theorem qL_law_23 (i b : Nat) (h : dqNth qaL_law_23 i = some b) : DqBy cL_law (368 + i) b := dqBy_of qeL_law ((qsL_law_23 i).trans (dq_in h))
theorem qL_law_24 (i b : Nat) (h : dqNth qaL_law_24 i = some b) : DqBy cL_law (384 + i) b := dqBy_of qeL_law ((qsL_law_24 i).trans (dq_in h))
theorem qL_law_25 (i b : Nat) (h : dqNth qaL_law_25 i = some b) : DqBy cL_law (400 + i) b := dqBy_of qeL_law ((qsL_law_25 i).trans (dq_in h))
theorem qL_law_26 (i b : Nat) (h : dqNth qaL_law_26 i = some b) : DqBy cL_law (416 + i) b := dqBy_of qeL_law ((qsL_law_26 i).trans (dq_in h))
theorem qL_law_27 (i b : Nat) (h : dqNth qaL_law_27 i = some b) : DqBy cL_law (432 + i) b := dqBy_of qeL_law ((qsL_law_27 i).trans (dq_in h))
theorem qL_law_28 (i b : Nat) (h : dqNth qaL_law_28 i = some b) : DqBy cL_law (448 + i) b := dqBy_of qeL_law ((qsL_law_28 i).trans (dq_in h))
theorem qL_law_29 (i b : Nat) (h : dqNth qaL_law_29 i = some b) : DqBy cL_law (464 + i) b := dqBy_of qeL_law ((qsL_law_29 i).trans (dq_in h))
theorem qL_law_30 (i b : Nat) (h : dqNth qaL_law_30 i = some b) : DqBy cL_law (480 + i) b := dqBy_of qeL_law ((qsL_law_30 i).trans (dq_in h))
theorem qL_law_31 (i b : Nat) (h : dqNth qaL_law_31 i = some b) : DqBy cL_law (496 + i) b := dqBy_of qeL_law ((qsL_law_31 i).trans (dq_in h))
theorem qL_law_32 (i b : Nat) (h : dqNth qaL_law_32 i = some b) : DqBy cL_law (512 + i) b := dqBy_of qeL_law ((qsL_law_32 i).trans (dq_in h))
theorem qL_law_33 (i b : Nat) (h : dqNth qaL_law_33 i = some b) : DqBy cL_law (528 + i) b := dqBy_of qeL_law ((qsL_law_33 i).trans (dq_in h))
theorem qL_law_34 (i b : Nat) (h : dqNth qaL_law_34 i = some b) : DqBy cL_law (544 + i) b := dqBy_of qeL_law ((qsL_law_34 i).trans (dq_in h))
theorem qL_law_35 (i b : Nat) (h : dqNth qaL_law_35 i = some b) : DqBy cL_law (560 + i) b := dqBy_of qeL_law ((qsL_law_35 i).trans (dq_in h))
theorem qL_law_36 (i b : Nat) (h : dqNth qaL_law_36 i = some b) : DqBy cL_law (576 + i) b := dqBy_of qeL_law ((qsL_law_36 i).trans (dq_in h))
theorem qL_law_37 (i b : Nat) (h : dqNth qaL_law_37 i = some b) : DqBy cL_law (592 + i) b := dqBy_of qeL_law ((qsL_law_37 i).trans (dq_in h))
theorem qL_law_38 (i b : Nat) (h : dqNth qaL_law_38 i = some b) : DqBy cL_law (608 + i) b := dqBy_of qeL_law ((qsL_law_38 i).trans (dq_in h))
theorem qL_law_39 (i b : Nat) (h : dqNth qaL_law_39 i = some b) : DqBy cL_law (624 + i) b := dqBy_of qeL_law ((qsL_law_39 i).trans (dq_in h))
theorem qL_law_40 (i b : Nat) (h : dqNth qaL_law_40 i = some b) : DqBy cL_law (640 + i) b := dqBy_of qeL_law ((qsL_law_40 i).trans (dq_in h))
theorem qL_law_41 (i b : Nat) (h : dqNth qaL_law_41 i = some b) : DqBy cL_law (656 + i) b := dqBy_of qeL_law ((qsL_law_41 i).trans (dq_in h))
theorem qL_law_42 (i b : Nat) (h : dqNth qaL_law_42 i = some b) : DqBy cL_law (672 + i) b := dqBy_of qeL_law ((qsL_law_42 i).trans (dq_in h))
theorem qL_law_43 (i b : Nat) (h : dqNth qaL_law_43 i = some b) : DqBy cL_law (688 + i) b := dqBy_of qeL_law ((qsL_law_43 i).trans (dq_in h))
theorem qL_law_44 (i b : Nat) (h : dqNth qaL_law_44 i = some b) : DqBy cL_law (704 + i) b := dqBy_of qeL_law ((qsL_law_44 i).trans (dq_in h))
theorem qL_law_45 (i b : Nat) (h : dqNth qaL_law_45 i = some b) : DqBy cL_law (720 + i) b := dqBy_of qeL_law ((qsL_law_45 i).trans (dq_in h))
theorem qL_law_46 (i b : Nat) (h : dqNth qaL_law_46 i = some b) : DqBy cL_law (736 + i) b := dqBy_of qeL_law ((qsL_law_46 i).trans (dq_in h))
theorem qL_law_47 (i b : Nat) (h : dqNth qaL_law_47 i = some b) : DqBy cL_law (752 + i) b := dqBy_of qeL_law ((qsL_law_47 i).trans (dq_in h))
theorem qL_law_48 (i b : Nat) (h : dqNth qaL_law_48 i = some b) : DqBy cL_law (768 + i) b := dqBy_of qeL_law ((qsL_law_48 i).trans (dq_in h))
theorem qL_law_49 (i b : Nat) (h : dqNth qaL_law_49 i = some b) : DqBy cL_law (784 + i) b := dqBy_of qeL_law ((qsL_law_49 i).trans (dq_in h))
theorem qL_law_50 (i b : Nat) (h : dqNth qaL_law_50 i = some b) : DqBy cL_law (800 + i) b := dqBy_of qeL_law ((qsL_law_50 i).trans (dq_in h))
theorem qL_law_51 (i b : Nat) (h : dqNth qaL_law_51 i = some b) : DqBy cL_law (816 + i) b := dqBy_of qeL_law ((qsL_law_51 i).trans (dq_in h))
theorem qL_law_52 (i b : Nat) (h : dqNth qaL_law_52 i = some b) : DqBy cL_law (832 + i) b := dqBy_of qeL_law ((qsL_law_52 i).trans (dq_in h))
theorem qL_law_53 (i b : Nat) (h : dqNth qaL_law_53 i = some b) : DqBy cL_law (848 + i) b := dqBy_of qeL_law ((qsL_law_53 i).trans (dq_in h))
theorem qL_law_54 (i b : Nat) (h : dqNth qaL_law_54 i = some b) : DqBy cL_law (864 + i) b := dqBy_of qeL_law ((qsL_law_54 i).trans (dq_in h))
theorem qL_law_55 (i b : Nat) (h : dqNth qaL_law_55 i = some b) : DqBy cL_law (880 + i) b := dqBy_of qeL_law ((qsL_law_55 i).trans (dq_in h))
theorem qL_law_56 (i b : Nat) (h : dqNth qaL_law_56 i = some b) : DqBy cL_law (896 + i) b := dqBy_of qeL_law ((qsL_law_56 i).trans (dq_in h))
theorem qL_law_57 (i b : Nat) (h : dqNth qaL_law_57 i = some b) : DqBy cL_law (912 + i) b := dqBy_of qeL_law ((qsL_law_57 i).trans (dq_in h))
theorem qL_law_58 (i b : Nat) (h : dqNth qaL_law_58 i = some b) : DqBy cL_law (928 + i) b := dqBy_of qeL_law ((qsL_law_58 i).trans (dq_in h))
theorem qL_law_59 (i b : Nat) (h : dqNth qaL_law_59 i = some b) : DqBy cL_law (944 + i) b := dqBy_of qeL_law ((qsL_law_59 i).trans (dq_in h))
theorem qL_law_60 (i b : Nat) (h : dqNth qaL_law_60 i = some b) : DqBy cL_law (960 + i) b := dqBy_of qeL_law ((qsL_law_60 i).trans (dq_in h))
theorem qL_law_61 (i b : Nat) (h : dqNth qaL_law_61 i = some b) : DqBy cL_law (976 + i) b := dqBy_of qeL_law ((qsL_law_61 i).trans (dq_in h))
theorem qL_law_62 (i b : Nat) (h : dqNth qaL_law_62 i = some b) : DqBy cL_law (992 + i) b := dqBy_of qeL_law ((qsL_law_62 i).trans (dq_in h))
theorem qL_law_63 (i b : Nat) (h : dqNth qaL_law_63 i = some b) : DqBy cL_law (1008 + i) b := dqBy_of qeL_law ((qsL_law_63 i).trans (dq_in h))
theorem qL_law_64 (i b : Nat) (h : dqNth qaL_law_64 i = some b) : DqBy cL_law (1024 + i) b := dqBy_of qeL_law ((qsL_law_64 i).trans (dq_in h))
theorem qL_law_65 (i b : Nat) (h : dqNth qaL_law_65 i = some b) : DqBy cL_law (1040 + i) b := dqBy_of qeL_law ((qsL_law_65 i).trans (dq_in h))
theorem qL_law_66 (i b : Nat) (h : dqNth qaL_law_66 i = some b) : DqBy cL_law (1056 + i) b := dqBy_of qeL_law ((qsL_law_66 i).trans (dq_in h))
theorem qL_law_67 (i b : Nat) (h : dqNth qaL_law_67 i = some b) : DqBy cL_law (1072 + i) b := dqBy_of qeL_law ((qsL_law_67 i).trans (dq_in h))
theorem qL_law_68 (i b : Nat) (h : dqNth qaL_law_68 i = some b) : DqBy cL_law (1088 + i) b := dqBy_of qeL_law ((qsL_law_68 i).trans (dq_in h))
theorem qL_law_69 (i b : Nat) (h : dqNth qaL_law_69 i = some b) : DqBy cL_law (1104 + i) b := dqBy_of qeL_law ((qsL_law_69 i).trans (dq_in h))
theorem qL_law_70 (i b : Nat) (h : dqNth qaL_law_70 i = some b) : DqBy cL_law (1120 + i) b := dqBy_of qeL_law ((qsL_law_70 i).trans (dq_in h))
theorem qL_law_71 (i b : Nat) (h : dqNth qaL_law_71 i = some b) : DqBy cL_law (1136 + i) b := dqBy_of qeL_law ((qsL_law_71 i).trans (dq_in h))
theorem qL_law_72 (i b : Nat) (h : dqNth qaL_law_72 i = some b) : DqBy cL_law (1152 + i) b := dqBy_of qeL_law ((qsL_law_72 i).trans (dq_in h))
theorem qL_law_73 (i b : Nat) (h : dqNth qaL_law_73 i = some b) : DqBy cL_law (1168 + i) b := dqBy_of qeL_law ((qsL_law_73 i).trans (dq_in h))
theorem qL_law_74 (i b : Nat) (h : dqNth qaL_law_74 i = some b) : DqBy cL_law (1184 + i) b := dqBy_of qeL_law ((qsL_law_74 i).trans (dq_in h))
theorem qL_law_75 (i b : Nat) (h : dqNth qaL_law_75 i = some b) : DqBy cL_law (1200 + i) b := dqBy_of qeL_law ((qsL_law_75 i).trans (dq_in h))
theorem qL_law_76 (i b : Nat) (h : dqNth qaL_law_76 i = some b) : DqBy cL_law (1216 + i) b := dqBy_of qeL_law ((qsL_law_76 i).trans (dq_in h))
theorem qL_law_77 (i b : Nat) (h : dqNth qaL_law_77 i = some b) : DqBy cL_law (1232 + i) b := dqBy_of qeL_law ((qsL_law_77 i).trans (dq_in h))
theorem qL_law_78 (i b : Nat) (h : dqNth qaL_law_78 i = some b) : DqBy cL_law (1248 + i) b := dqBy_of qeL_law ((qsL_law_78 i).trans (dq_in h))
theorem qL_law_79 (i b : Nat) (h : dqNth qaL_law_79 i = some b) : DqBy cL_law (1264 + i) b := dqBy_of qeL_law ((qsL_law_79 i).trans (dq_in h))
theorem qL_law_80 (i b : Nat) (h : dqNth qaL_law_80 i = some b) : DqBy cL_law (1280 + i) b := dqBy_of qeL_law ((qsL_law_80 i).trans (dq_in h))
theorem qL_law_81 (i b : Nat) (h : dqNth qaL_law_81 i = some b) : DqBy cL_law (1296 + i) b := dqBy_of qeL_law ((qsL_law_81 i).trans (dq_in h))
theorem qL_law_82 (i b : Nat) (h : dqNth qaL_law_82 i = some b) : DqBy cL_law (1312 + i) b := dqBy_of qeL_law ((qsL_law_82 i).trans (dq_in h))
theorem dL_law_0 : decode cL_law 0 = .ok (.new 7, 3) := @dq_o187 cL_law 0 0 7 (qL_law_0 0 187 rfl) (qL_law_0 1 0 rfl) (qL_law_0 2 7 rfl)
theorem dL_law_3 : decode cL_law 3 = .ok (.dup, 1) := @dq_o89 cL_law 3 (qL_law_0 3 89 rfl)
theorem dL_law_4 : decode cL_law 4 = .ok (.invokespecial 9, 3) := @dq_o183 cL_law 4 0 9 (qL_law_0 4 183 rfl) (qL_law_0 5 0 rfl) (qL_law_0 6 9 rfl)
theorem dL_law_7 : decode cL_law 7 = .ok (.astore_n 1, 1) := @dq_o76 cL_law 7 (qL_law_0 7 76 rfl)
theorem dL_law_8 : decode cL_law 8 = .ok (.new 10, 3) := @dq_o187 cL_law 8 0 10 (qL_law_0 8 187 rfl) (qL_law_0 9 0 rfl) (qL_law_0 10 10 rfl)
theorem dL_law_11 : decode cL_law 11 = .ok (.dup, 1) := @dq_o89 cL_law 11 (qL_law_0 11 89 rfl)
theorem dL_law_12 : decode cL_law 12 = .ok (.invokespecial 12, 3) := @dq_o183 cL_law 12 0 12 (qL_law_0 12 183 rfl) (qL_law_0 13 0 rfl) (qL_law_0 14 12 rfl)
theorem dL_law_15 : decode cL_law 15 = .ok (.astore_n 2, 1) := @dq_o77 cL_law 15 (qL_law_0 15 77 rfl)
theorem dL_law_16 : decode cL_law 16 = .ok (.iconst 0, 1) := @dq_o3 cL_law 16 (qL_law_1 0 3 rfl)
theorem dL_law_17 : decode cL_law 17 = .ok (.istore_n 3, 1) := @dq_o62 cL_law 17 (qL_law_1 1 62 rfl)
theorem dL_law_18 : decode cL_law 18 = .ok (.iload_n 3, 1) := @dq_o29 cL_law 18 (qL_law_1 2 29 rfl)
theorem dL_law_19 : decode cL_law 19 = .ok (.aload_n 0, 1) := @dq_o42 cL_law 19 (qL_law_1 3 42 rfl)
theorem dL_law_20 : decode cL_law 20 = .ok (.arraylength, 1) := @dq_o190 cL_law 20 (qL_law_1 4 190 rfl)
theorem dL_law_21 : decode cL_law 21 = .ok (.bipush 6, 2) := @dq_o16 cL_law 21 6 (qL_law_1 5 16 rfl) (qL_law_1 6 6 rfl)
theorem dL_law_23 : decode cL_law 23 = .ok (.isub, 1) := @dq_o100 cL_law 23 (qL_law_1 7 100 rfl)
theorem dL_law_24 : decode cL_law 24 = .ok (.if_icmp .gt 1297, 3) := @dq_o163 cL_law 24 5 17 (qL_law_1 8 163 rfl) (qL_law_1 9 5 rfl) (qL_law_1 10 17 rfl)
theorem dL_law_27 : decode cL_law 27 = .ok (.aload_n 0, 1) := @dq_o42 cL_law 27 (qL_law_1 11 42 rfl)
theorem dL_law_28 : decode cL_law 28 = .ok (.iload_n 3, 1) := @dq_o29 cL_law 28 (qL_law_1 12 29 rfl)
theorem dL_law_29 : decode cL_law 29 = .ok (.iaload, 1) := @dq_o46 cL_law 29 (qL_law_1 13 46 rfl)
theorem dL_law_30 : decode cL_law 30 = .ok (.bipush 63, 2) := @dq_o16 cL_law 30 63 (qL_law_1 14 16 rfl) (qL_law_1 15 63 rfl)
theorem dL_law_32 : decode cL_law 32 = .ok (.iand, 1) := @dq_o126 cL_law 32 (qL_law_2 0 126 rfl)
theorem dL_law_33 : decode cL_law 33 = .ok (.tableswitch 1282 0 32 #[147, 180, 233, 256, 299, 342, 375, 418, 461, 504, 547, 600, 663, 686, 709, 732, 745, 768, 781, 814, 847, 890, 913, 956, 989, 1032, 1065, 1098, 1141, 1184, 1207, 1220, 1259], 147) := by decide +kernel
theorem dL_law_180 : decode cL_law 180 = .ok (.aload_n 1, 1) := @dq_o43 cL_law 180 (qL_law_11 4 43 rfl)
theorem dL_law_181 : decode cL_law 181 = .ok (.aload_n 0, 1) := @dq_o42 cL_law 181 (qL_law_11 5 42 rfl)
theorem dL_law_182 : decode cL_law 182 = .ok (.iload_n 3, 1) := @dq_o29 cL_law 182 (qL_law_11 6 29 rfl)
theorem dL_law_183 : decode cL_law 183 = .ok (.iconst 1, 1) := @dq_o4 cL_law 183 (qL_law_11 7 4 rfl)
theorem dL_law_184 : decode cL_law 184 = .ok (.iadd, 1) := @dq_o96 cL_law 184 (qL_law_11 8 96 rfl)
theorem dL_law_185 : decode cL_law 185 = .ok (.iaload, 1) := @dq_o46 cL_law 185 (qL_law_11 9 46 rfl)
theorem dL_law_186 : decode cL_law 186 = .ok (.aload_n 0, 1) := @dq_o42 cL_law 186 (qL_law_11 10 42 rfl)
theorem dL_law_187 : decode cL_law 187 = .ok (.iload_n 3, 1) := @dq_o29 cL_law 187 (qL_law_11 11 29 rfl)
theorem dL_law_188 : decode cL_law 188 = .ok (.iconst 2, 1) := @dq_o5 cL_law 188 (qL_law_11 12 5 rfl)
theorem dL_law_189 : decode cL_law 189 = .ok (.iadd, 1) := @dq_o96 cL_law 189 (qL_law_11 13 96 rfl)
theorem dL_law_190 : decode cL_law 190 = .ok (.iaload, 1) := @dq_o46 cL_law 190 (qL_law_11 14 46 rfl)
theorem dL_law_191 : decode cL_law 191 = .ok (.invokevirtual 13, 3) := @dq_o182 cL_law 191 0 13 (qL_law_11 15 182 rfl) (qL_law_12 0 0 rfl) (qL_law_12 1 13 rfl)
theorem dL_law_194 : decode cL_law 194 = .ok (.pop, 1) := @dq_o87 cL_law 194 (qL_law_12 2 87 rfl)
theorem dL_law_195 : decode cL_law 195 = .ok (.aload_n 2, 1) := @dq_o44 cL_law 195 (qL_law_12 3 44 rfl)
theorem dL_law_196 : decode cL_law 196 = .ok (.aload_n 0, 1) := @dq_o42 cL_law 196 (qL_law_12 4 42 rfl)
theorem dL_law_197 : decode cL_law 197 = .ok (.iload_n 3, 1) := @dq_o29 cL_law 197 (qL_law_12 5 29 rfl)
theorem dL_law_198 : decode cL_law 198 = .ok (.iconst 1, 1) := @dq_o4 cL_law 198 (qL_law_12 6 4 rfl)
theorem dL_law_199 : decode cL_law 199 = .ok (.iadd, 1) := @dq_o96 cL_law 199 (qL_law_12 7 96 rfl)
theorem dL_law_200 : decode cL_law 200 = .ok (.iaload, 1) := @dq_o46 cL_law 200 (qL_law_12 8 46 rfl)
theorem dL_law_201 : decode cL_law 201 = .ok (.aload_n 0, 1) := @dq_o42 cL_law 201 (qL_law_12 9 42 rfl)
theorem dL_law_202 : decode cL_law 202 = .ok (.iload_n 3, 1) := @dq_o29 cL_law 202 (qL_law_12 10 29 rfl)
theorem dL_law_203 : decode cL_law 203 = .ok (.iconst 2, 1) := @dq_o5 cL_law 203 (qL_law_12 11 5 rfl)
theorem dL_law_204 : decode cL_law 204 = .ok (.iadd, 1) := @dq_o96 cL_law 204 (qL_law_12 12 96 rfl)
theorem dL_law_205 : decode cL_law 205 = .ok (.iaload, 1) := @dq_o46 cL_law 205 (qL_law_12 13 46 rfl)
theorem dL_law_206 : decode cL_law 206 = .ok (.invokevirtual 17, 3) := @dq_o182 cL_law 206 0 17 (qL_law_12 14 182 rfl) (qL_law_12 15 0 rfl) (qL_law_13 0 17 rfl)
theorem dL_law_209 : decode cL_law 209 = .ok (.pop, 1) := @dq_o87 cL_law 209 (qL_law_13 1 87 rfl)
theorem dL_law_210 : decode cL_law 210 = .ok (.goto 1105, 3) := @dq_o167 cL_law 210 4 81 (qL_law_13 2 167 rfl) (qL_law_13 3 4 rfl) (qL_law_13 4 81 rfl)
theorem dL_law_213 : decode cL_law 213 = .ok (.aload_n 1, 1) := @dq_o43 cL_law 213 (qL_law_13 5 43 rfl)
theorem dL_law_214 : decode cL_law 214 = .ok (.aload_n 0, 1) := @dq_o42 cL_law 214 (qL_law_13 6 42 rfl)
theorem dL_law_215 : decode cL_law 215 = .ok (.iload_n 3, 1) := @dq_o29 cL_law 215 (qL_law_13 7 29 rfl)
theorem dL_law_216 : decode cL_law 216 = .ok (.iconst 1, 1) := @dq_o4 cL_law 216 (qL_law_13 8 4 rfl)
theorem dL_law_217 : decode cL_law 217 = .ok (.iadd, 1) := @dq_o96 cL_law 217 (qL_law_13 9 96 rfl)
theorem dL_law_218 : decode cL_law 218 = .ok (.iaload, 1) := @dq_o46 cL_law 218 (qL_law_13 10 46 rfl)
theorem dL_law_219 : decode cL_law 219 = .ok (.aload_n 0, 1) := @dq_o42 cL_law 219 (qL_law_13 11 42 rfl)
theorem dL_law_220 : decode cL_law 220 = .ok (.iload_n 3, 1) := @dq_o29 cL_law 220 (qL_law_13 12 29 rfl)
theorem dL_law_221 : decode cL_law 221 = .ok (.iconst 2, 1) := @dq_o5 cL_law 221 (qL_law_13 13 5 rfl)
theorem dL_law_222 : decode cL_law 222 = .ok (.iadd, 1) := @dq_o96 cL_law 222 (qL_law_13 14 96 rfl)
theorem dL_law_223 : decode cL_law 223 = .ok (.iaload, 1) := @dq_o46 cL_law 223 (qL_law_13 15 46 rfl)
theorem dL_law_224 : decode cL_law 224 = .ok (.aload_n 0, 1) := @dq_o42 cL_law 224 (qL_law_14 0 42 rfl)
theorem dL_law_225 : decode cL_law 225 = .ok (.iload_n 3, 1) := @dq_o29 cL_law 225 (qL_law_14 1 29 rfl)
theorem dL_law_226 : decode cL_law 226 = .ok (.iconst 3, 1) := @dq_o6 cL_law 226 (qL_law_14 2 6 rfl)
theorem dL_law_227 : decode cL_law 227 = .ok (.iadd, 1) := @dq_o96 cL_law 227 (qL_law_14 3 96 rfl)
theorem dL_law_228 : decode cL_law 228 = .ok (.iaload, 1) := @dq_o46 cL_law 228 (qL_law_14 4 46 rfl)
theorem dL_law_229 : decode cL_law 229 = .ok (.aload_n 0, 1) := @dq_o42 cL_law 229 (qL_law_14 5 42 rfl)
theorem dL_law_230 : decode cL_law 230 = .ok (.iload_n 3, 1) := @dq_o29 cL_law 230 (qL_law_14 6 29 rfl)
theorem dL_law_231 : decode cL_law 231 = .ok (.iconst 4, 1) := @dq_o7 cL_law 231 (qL_law_14 7 7 rfl)
theorem dL_law_232 : decode cL_law 232 = .ok (.iadd, 1) := @dq_o96 cL_law 232 (qL_law_14 8 96 rfl)
theorem dL_law_233 : decode cL_law 233 = .ok (.iaload, 1) := @dq_o46 cL_law 233 (qL_law_14 9 46 rfl)
theorem dL_law_234 : decode cL_law 234 = .ok (.invokevirtual 18, 3) := @dq_o182 cL_law 234 0 18 (qL_law_14 10 182 rfl) (qL_law_14 11 0 rfl) (qL_law_14 12 18 rfl)
theorem dL_law_237 : decode cL_law 237 = .ok (.pop, 1) := @dq_o87 cL_law 237 (qL_law_14 13 87 rfl)
theorem dL_law_238 : decode cL_law 238 = .ok (.aload_n 2, 1) := @dq_o44 cL_law 238 (qL_law_14 14 44 rfl)
theorem dL_law_239 : decode cL_law 239 = .ok (.aload_n 0, 1) := @dq_o42 cL_law 239 (qL_law_14 15 42 rfl)
theorem dL_law_240 : decode cL_law 240 = .ok (.iload_n 3, 1) := @dq_o29 cL_law 240 (qL_law_15 0 29 rfl)
theorem dL_law_241 : decode cL_law 241 = .ok (.iconst 1, 1) := @dq_o4 cL_law 241 (qL_law_15 1 4 rfl)
theorem dL_law_242 : decode cL_law 242 = .ok (.iadd, 1) := @dq_o96 cL_law 242 (qL_law_15 2 96 rfl)
theorem dL_law_243 : decode cL_law 243 = .ok (.iaload, 1) := @dq_o46 cL_law 243 (qL_law_15 3 46 rfl)
theorem dL_law_244 : decode cL_law 244 = .ok (.aload_n 0, 1) := @dq_o42 cL_law 244 (qL_law_15 4 42 rfl)
theorem dL_law_245 : decode cL_law 245 = .ok (.iload_n 3, 1) := @dq_o29 cL_law 245 (qL_law_15 5 29 rfl)
theorem dL_law_246 : decode cL_law 246 = .ok (.iconst 2, 1) := @dq_o5 cL_law 246 (qL_law_15 6 5 rfl)
theorem dL_law_247 : decode cL_law 247 = .ok (.iadd, 1) := @dq_o96 cL_law 247 (qL_law_15 7 96 rfl)
theorem dL_law_248 : decode cL_law 248 = .ok (.iaload, 1) := @dq_o46 cL_law 248 (qL_law_15 8 46 rfl)
theorem dL_law_249 : decode cL_law 249 = .ok (.aload_n 0, 1) := @dq_o42 cL_law 249 (qL_law_15 9 42 rfl)
theorem dL_law_250 : decode cL_law 250 = .ok (.iload_n 3, 1) := @dq_o29 cL_law 250 (qL_law_15 10 29 rfl)
theorem dL_law_251 : decode cL_law 251 = .ok (.iconst 3, 1) := @dq_o6 cL_law 251 (qL_law_15 11 6 rfl)
theorem dL_law_252 : decode cL_law 252 = .ok (.iadd, 1) := @dq_o96 cL_law 252 (qL_law_15 12 96 rfl)
theorem dL_law_253 : decode cL_law 253 = .ok (.iaload, 1) := @dq_o46 cL_law 253 (qL_law_15 13 46 rfl)
theorem dL_law_254 : decode cL_law 254 = .ok (.aload_n 0, 1) := @dq_o42 cL_law 254 (qL_law_15 14 42 rfl)
theorem dL_law_255 : decode cL_law 255 = .ok (.iload_n 3, 1) := @dq_o29 cL_law 255 (qL_law_15 15 29 rfl)
theorem dL_law_256 : decode cL_law 256 = .ok (.iconst 4, 1) := @dq_o7 cL_law 256 (qL_law_16 0 7 rfl)
theorem dL_law_257 : decode cL_law 257 = .ok (.iadd, 1) := @dq_o96 cL_law 257 (qL_law_16 1 96 rfl)
theorem dL_law_258 : decode cL_law 258 = .ok (.iaload, 1) := @dq_o46 cL_law 258 (qL_law_16 2 46 rfl)
theorem dL_law_259 : decode cL_law 259 = .ok (.invokevirtual 22, 3) := @dq_o182 cL_law 259 0 22 (qL_law_16 3 182 rfl) (qL_law_16 4 0 rfl) (qL_law_16 5 22 rfl)
theorem dL_law_262 : decode cL_law 262 = .ok (.pop, 1) := @dq_o87 cL_law 262 (qL_law_16 6 87 rfl)
theorem dL_law_263 : decode cL_law 263 = .ok (.goto 1052, 3) := @dq_o167 cL_law 263 4 28 (qL_law_16 7 167 rfl) (qL_law_16 8 4 rfl) (qL_law_16 9 28 rfl)
theorem dL_law_266 : decode cL_law 266 = .ok (.aload_n 1, 1) := @dq_o43 cL_law 266 (qL_law_16 10 43 rfl)
theorem dL_law_267 : decode cL_law 267 = .ok (.aload_n 0, 1) := @dq_o42 cL_law 267 (qL_law_16 11 42 rfl)
theorem dL_law_268 : decode cL_law 268 = .ok (.iload_n 3, 1) := @dq_o29 cL_law 268 (qL_law_16 12 29 rfl)
theorem dL_law_269 : decode cL_law 269 = .ok (.iconst 1, 1) := @dq_o4 cL_law 269 (qL_law_16 13 4 rfl)
theorem dL_law_270 : decode cL_law 270 = .ok (.iadd, 1) := @dq_o96 cL_law 270 (qL_law_16 14 96 rfl)
theorem dL_law_271 : decode cL_law 271 = .ok (.iaload, 1) := @dq_o46 cL_law 271 (qL_law_16 15 46 rfl)
theorem dL_law_272 : decode cL_law 272 = .ok (.invokevirtual 23, 3) := @dq_o182 cL_law 272 0 23 (qL_law_17 0 182 rfl) (qL_law_17 1 0 rfl) (qL_law_17 2 23 rfl)
theorem dL_law_275 : decode cL_law 275 = .ok (.pop, 1) := @dq_o87 cL_law 275 (qL_law_17 3 87 rfl)
theorem dL_law_276 : decode cL_law 276 = .ok (.aload_n 2, 1) := @dq_o44 cL_law 276 (qL_law_17 4 44 rfl)
theorem dL_law_277 : decode cL_law 277 = .ok (.aload_n 0, 1) := @dq_o42 cL_law 277 (qL_law_17 5 42 rfl)
theorem dL_law_278 : decode cL_law 278 = .ok (.iload_n 3, 1) := @dq_o29 cL_law 278 (qL_law_17 6 29 rfl)
theorem dL_law_279 : decode cL_law 279 = .ok (.iconst 1, 1) := @dq_o4 cL_law 279 (qL_law_17 7 4 rfl)
theorem dL_law_280 : decode cL_law 280 = .ok (.iadd, 1) := @dq_o96 cL_law 280 (qL_law_17 8 96 rfl)
theorem dL_law_281 : decode cL_law 281 = .ok (.iaload, 1) := @dq_o46 cL_law 281 (qL_law_17 9 46 rfl)
theorem dL_law_282 : decode cL_law 282 = .ok (.invokevirtual 27, 3) := @dq_o182 cL_law 282 0 27 (qL_law_17 10 182 rfl) (qL_law_17 11 0 rfl) (qL_law_17 12 27 rfl)
theorem dL_law_285 : decode cL_law 285 = .ok (.pop, 1) := @dq_o87 cL_law 285 (qL_law_17 13 87 rfl)
theorem dL_law_286 : decode cL_law 286 = .ok (.goto 1029, 3) := @dq_o167 cL_law 286 4 5 (qL_law_17 14 167 rfl) (qL_law_17 15 4 rfl) (qL_law_18 0 5 rfl)
theorem dL_law_289 : decode cL_law 289 = .ok (.aload_n 1, 1) := @dq_o43 cL_law 289 (qL_law_18 1 43 rfl)
theorem dL_law_290 : decode cL_law 290 = .ok (.aload_n 0, 1) := @dq_o42 cL_law 290 (qL_law_18 2 42 rfl)
theorem dL_law_291 : decode cL_law 291 = .ok (.iload_n 3, 1) := @dq_o29 cL_law 291 (qL_law_18 3 29 rfl)
theorem dL_law_292 : decode cL_law 292 = .ok (.iconst 1, 1) := @dq_o4 cL_law 292 (qL_law_18 4 4 rfl)
theorem dL_law_293 : decode cL_law 293 = .ok (.iadd, 1) := @dq_o96 cL_law 293 (qL_law_18 5 96 rfl)
theorem dL_law_294 : decode cL_law 294 = .ok (.iaload, 1) := @dq_o46 cL_law 294 (qL_law_18 6 46 rfl)
theorem dL_law_295 : decode cL_law 295 = .ok (.aload_n 0, 1) := @dq_o42 cL_law 295 (qL_law_18 7 42 rfl)
theorem dL_law_296 : decode cL_law 296 = .ok (.iload_n 3, 1) := @dq_o29 cL_law 296 (qL_law_18 8 29 rfl)
theorem dL_law_297 : decode cL_law 297 = .ok (.iconst 2, 1) := @dq_o5 cL_law 297 (qL_law_18 9 5 rfl)
theorem dL_law_298 : decode cL_law 298 = .ok (.iadd, 1) := @dq_o96 cL_law 298 (qL_law_18 10 96 rfl)
theorem dL_law_299 : decode cL_law 299 = .ok (.iaload, 1) := @dq_o46 cL_law 299 (qL_law_18 11 46 rfl)
theorem dL_law_300 : decode cL_law 300 = .ok (.aload_n 0, 1) := @dq_o42 cL_law 300 (qL_law_18 12 42 rfl)
theorem dL_law_301 : decode cL_law 301 = .ok (.iload_n 3, 1) := @dq_o29 cL_law 301 (qL_law_18 13 29 rfl)
theorem dL_law_302 : decode cL_law 302 = .ok (.iconst 3, 1) := @dq_o6 cL_law 302 (qL_law_18 14 6 rfl)
theorem dL_law_303 : decode cL_law 303 = .ok (.iadd, 1) := @dq_o96 cL_law 303 (qL_law_18 15 96 rfl)
theorem dL_law_304 : decode cL_law 304 = .ok (.iaload, 1) := @dq_o46 cL_law 304 (qL_law_19 0 46 rfl)
theorem dL_law_305 : decode cL_law 305 = .ok (.invokevirtual 28, 3) := @dq_o182 cL_law 305 0 28 (qL_law_19 1 182 rfl) (qL_law_19 2 0 rfl) (qL_law_19 3 28 rfl)
theorem dL_law_308 : decode cL_law 308 = .ok (.pop, 1) := @dq_o87 cL_law 308 (qL_law_19 4 87 rfl)
theorem dL_law_309 : decode cL_law 309 = .ok (.aload_n 2, 1) := @dq_o44 cL_law 309 (qL_law_19 5 44 rfl)
theorem dL_law_310 : decode cL_law 310 = .ok (.aload_n 0, 1) := @dq_o42 cL_law 310 (qL_law_19 6 42 rfl)
theorem dL_law_311 : decode cL_law 311 = .ok (.iload_n 3, 1) := @dq_o29 cL_law 311 (qL_law_19 7 29 rfl)
theorem dL_law_312 : decode cL_law 312 = .ok (.iconst 1, 1) := @dq_o4 cL_law 312 (qL_law_19 8 4 rfl)
theorem dL_law_313 : decode cL_law 313 = .ok (.iadd, 1) := @dq_o96 cL_law 313 (qL_law_19 9 96 rfl)
theorem dL_law_314 : decode cL_law 314 = .ok (.iaload, 1) := @dq_o46 cL_law 314 (qL_law_19 10 46 rfl)
theorem dL_law_315 : decode cL_law 315 = .ok (.aload_n 0, 1) := @dq_o42 cL_law 315 (qL_law_19 11 42 rfl)
theorem dL_law_316 : decode cL_law 316 = .ok (.iload_n 3, 1) := @dq_o29 cL_law 316 (qL_law_19 12 29 rfl)
theorem dL_law_317 : decode cL_law 317 = .ok (.iconst 2, 1) := @dq_o5 cL_law 317 (qL_law_19 13 5 rfl)
theorem dL_law_318 : decode cL_law 318 = .ok (.iadd, 1) := @dq_o96 cL_law 318 (qL_law_19 14 96 rfl)
theorem dL_law_319 : decode cL_law 319 = .ok (.iaload, 1) := @dq_o46 cL_law 319 (qL_law_19 15 46 rfl)
theorem dL_law_320 : decode cL_law 320 = .ok (.aload_n 0, 1) := @dq_o42 cL_law 320 (qL_law_20 0 42 rfl)
theorem dL_law_321 : decode cL_law 321 = .ok (.iload_n 3, 1) := @dq_o29 cL_law 321 (qL_law_20 1 29 rfl)
theorem dL_law_322 : decode cL_law 322 = .ok (.iconst 3, 1) := @dq_o6 cL_law 322 (qL_law_20 2 6 rfl)
theorem dL_law_323 : decode cL_law 323 = .ok (.iadd, 1) := @dq_o96 cL_law 323 (qL_law_20 3 96 rfl)
theorem dL_law_324 : decode cL_law 324 = .ok (.iaload, 1) := @dq_o46 cL_law 324 (qL_law_20 4 46 rfl)
theorem dL_law_325 : decode cL_law 325 = .ok (.invokevirtual 32, 3) := @dq_o182 cL_law 325 0 32 (qL_law_20 5 182 rfl) (qL_law_20 6 0 rfl) (qL_law_20 7 32 rfl)
theorem dL_law_328 : decode cL_law 328 = .ok (.pop, 1) := @dq_o87 cL_law 328 (qL_law_20 8 87 rfl)
theorem dL_law_329 : decode cL_law 329 = .ok (.goto 986, 3) := @dq_o167 cL_law 329 3 218 (qL_law_20 9 167 rfl) (qL_law_20 10 3 rfl) (qL_law_20 11 218 rfl)
theorem dL_law_332 : decode cL_law 332 = .ok (.aload_n 1, 1) := @dq_o43 cL_law 332 (qL_law_20 12 43 rfl)
theorem dL_law_333 : decode cL_law 333 = .ok (.aload_n 0, 1) := @dq_o42 cL_law 333 (qL_law_20 13 42 rfl)
theorem dL_law_334 : decode cL_law 334 = .ok (.iload_n 3, 1) := @dq_o29 cL_law 334 (qL_law_20 14 29 rfl)
theorem dL_law_335 : decode cL_law 335 = .ok (.iconst 1, 1) := @dq_o4 cL_law 335 (qL_law_20 15 4 rfl)
theorem dL_law_336 : decode cL_law 336 = .ok (.iadd, 1) := @dq_o96 cL_law 336 (qL_law_21 0 96 rfl)
theorem dL_law_337 : decode cL_law 337 = .ok (.iaload, 1) := @dq_o46 cL_law 337 (qL_law_21 1 46 rfl)
theorem dL_law_338 : decode cL_law 338 = .ok (.aload_n 0, 1) := @dq_o42 cL_law 338 (qL_law_21 2 42 rfl)
theorem dL_law_339 : decode cL_law 339 = .ok (.iload_n 3, 1) := @dq_o29 cL_law 339 (qL_law_21 3 29 rfl)
theorem dL_law_340 : decode cL_law 340 = .ok (.iconst 2, 1) := @dq_o5 cL_law 340 (qL_law_21 4 5 rfl)
theorem dL_law_341 : decode cL_law 341 = .ok (.iadd, 1) := @dq_o96 cL_law 341 (qL_law_21 5 96 rfl)
theorem dL_law_342 : decode cL_law 342 = .ok (.iaload, 1) := @dq_o46 cL_law 342 (qL_law_21 6 46 rfl)
theorem dL_law_343 : decode cL_law 343 = .ok (.aload_n 0, 1) := @dq_o42 cL_law 343 (qL_law_21 7 42 rfl)
theorem dL_law_344 : decode cL_law 344 = .ok (.iload_n 3, 1) := @dq_o29 cL_law 344 (qL_law_21 8 29 rfl)
theorem dL_law_345 : decode cL_law 345 = .ok (.iconst 3, 1) := @dq_o6 cL_law 345 (qL_law_21 9 6 rfl)
theorem dL_law_346 : decode cL_law 346 = .ok (.iadd, 1) := @dq_o96 cL_law 346 (qL_law_21 10 96 rfl)
theorem dL_law_347 : decode cL_law 347 = .ok (.iaload, 1) := @dq_o46 cL_law 347 (qL_law_21 11 46 rfl)
theorem dL_law_348 : decode cL_law 348 = .ok (.invokevirtual 33, 3) := @dq_o182 cL_law 348 0 33 (qL_law_21 12 182 rfl) (qL_law_21 13 0 rfl) (qL_law_21 14 33 rfl)
theorem dL_law_351 : decode cL_law 351 = .ok (.pop, 1) := @dq_o87 cL_law 351 (qL_law_21 15 87 rfl)
theorem dL_law_352 : decode cL_law 352 = .ok (.aload_n 2, 1) := @dq_o44 cL_law 352 (qL_law_22 0 44 rfl)
theorem dL_law_353 : decode cL_law 353 = .ok (.aload_n 0, 1) := @dq_o42 cL_law 353 (qL_law_22 1 42 rfl)
theorem dL_law_354 : decode cL_law 354 = .ok (.iload_n 3, 1) := @dq_o29 cL_law 354 (qL_law_22 2 29 rfl)
theorem dL_law_355 : decode cL_law 355 = .ok (.iconst 1, 1) := @dq_o4 cL_law 355 (qL_law_22 3 4 rfl)
theorem dL_law_356 : decode cL_law 356 = .ok (.iadd, 1) := @dq_o96 cL_law 356 (qL_law_22 4 96 rfl)
theorem dL_law_357 : decode cL_law 357 = .ok (.iaload, 1) := @dq_o46 cL_law 357 (qL_law_22 5 46 rfl)
theorem dL_law_358 : decode cL_law 358 = .ok (.aload_n 0, 1) := @dq_o42 cL_law 358 (qL_law_22 6 42 rfl)
theorem dL_law_359 : decode cL_law 359 = .ok (.iload_n 3, 1) := @dq_o29 cL_law 359 (qL_law_22 7 29 rfl)
theorem dL_law_360 : decode cL_law 360 = .ok (.iconst 2, 1) := @dq_o5 cL_law 360 (qL_law_22 8 5 rfl)
theorem dL_law_361 : decode cL_law 361 = .ok (.iadd, 1) := @dq_o96 cL_law 361 (qL_law_22 9 96 rfl)
theorem dL_law_362 : decode cL_law 362 = .ok (.iaload, 1) := @dq_o46 cL_law 362 (qL_law_22 10 46 rfl)
theorem dL_law_363 : decode cL_law 363 = .ok (.aload_n 0, 1) := @dq_o42 cL_law 363 (qL_law_22 11 42 rfl)
theorem dL_law_364 : decode cL_law 364 = .ok (.iload_n 3, 1) := @dq_o29 cL_law 364 (qL_law_22 12 29 rfl)
theorem dL_law_365 : decode cL_law 365 = .ok (.iconst 3, 1) := @dq_o6 cL_law 365 (qL_law_22 13 6 rfl)
theorem dL_law_366 : decode cL_law 366 = .ok (.iadd, 1) := @dq_o96 cL_law 366 (qL_law_22 14 96 rfl)
theorem dL_law_367 : decode cL_law 367 = .ok (.iaload, 1) := @dq_o46 cL_law 367 (qL_law_22 15 46 rfl)
theorem dL_law_368 : decode cL_law 368 = .ok (.invokevirtual 36, 3) := @dq_o182 cL_law 368 0 36 (qL_law_23 0 182 rfl) (qL_law_23 1 0 rfl) (qL_law_23 2 36 rfl)
theorem dL_law_371 : decode cL_law 371 = .ok (.pop, 1) := @dq_o87 cL_law 371 (qL_law_23 3 87 rfl)
theorem dL_law_372 : decode cL_law 372 = .ok (.goto 943, 3) := @dq_o167 cL_law 372 3 175 (qL_law_23 4 167 rfl) (qL_law_23 5 3 rfl) (qL_law_23 6 175 rfl)
theorem dL_law_375 : decode cL_law 375 = .ok (.aload_n 1, 1) := @dq_o43 cL_law 375 (qL_law_23 7 43 rfl)
theorem dL_law_376 : decode cL_law 376 = .ok (.aload_n 0, 1) := @dq_o42 cL_law 376 (qL_law_23 8 42 rfl)
theorem dL_law_377 : decode cL_law 377 = .ok (.iload_n 3, 1) := @dq_o29 cL_law 377 (qL_law_23 9 29 rfl)
theorem dL_law_378 : decode cL_law 378 = .ok (.iconst 1, 1) := @dq_o4 cL_law 378 (qL_law_23 10 4 rfl)
theorem dL_law_379 : decode cL_law 379 = .ok (.iadd, 1) := @dq_o96 cL_law 379 (qL_law_23 11 96 rfl)
theorem dL_law_380 : decode cL_law 380 = .ok (.iaload, 1) := @dq_o46 cL_law 380 (qL_law_23 12 46 rfl)
theorem dL_law_381 : decode cL_law 381 = .ok (.aload_n 0, 1) := @dq_o42 cL_law 381 (qL_law_23 13 42 rfl)
theorem dL_law_382 : decode cL_law 382 = .ok (.iload_n 3, 1) := @dq_o29 cL_law 382 (qL_law_23 14 29 rfl)
theorem dL_law_383 : decode cL_law 383 = .ok (.iconst 2, 1) := @dq_o5 cL_law 383 (qL_law_23 15 5 rfl)
theorem dL_law_384 : decode cL_law 384 = .ok (.iadd, 1) := @dq_o96 cL_law 384 (qL_law_24 0 96 rfl)
theorem dL_law_385 : decode cL_law 385 = .ok (.iaload, 1) := @dq_o46 cL_law 385 (qL_law_24 1 46 rfl)
theorem dL_law_386 : decode cL_law 386 = .ok (.invokevirtual 37, 3) := @dq_o182 cL_law 386 0 37 (qL_law_24 2 182 rfl) (qL_law_24 3 0 rfl) (qL_law_24 4 37 rfl)
theorem dL_law_389 : decode cL_law 389 = .ok (.pop, 1) := @dq_o87 cL_law 389 (qL_law_24 5 87 rfl)
theorem dL_law_390 : decode cL_law 390 = .ok (.aload_n 2, 1) := @dq_o44 cL_law 390 (qL_law_24 6 44 rfl)
theorem dL_law_391 : decode cL_law 391 = .ok (.aload_n 0, 1) := @dq_o42 cL_law 391 (qL_law_24 7 42 rfl)
theorem dL_law_392 : decode cL_law 392 = .ok (.iload_n 3, 1) := @dq_o29 cL_law 392 (qL_law_24 8 29 rfl)
theorem dL_law_393 : decode cL_law 393 = .ok (.iconst 1, 1) := @dq_o4 cL_law 393 (qL_law_24 9 4 rfl)
theorem dL_law_394 : decode cL_law 394 = .ok (.iadd, 1) := @dq_o96 cL_law 394 (qL_law_24 10 96 rfl)
theorem dL_law_395 : decode cL_law 395 = .ok (.iaload, 1) := @dq_o46 cL_law 395 (qL_law_24 11 46 rfl)
theorem dL_law_396 : decode cL_law 396 = .ok (.aload_n 0, 1) := @dq_o42 cL_law 396 (qL_law_24 12 42 rfl)
theorem dL_law_397 : decode cL_law 397 = .ok (.iload_n 3, 1) := @dq_o29 cL_law 397 (qL_law_24 13 29 rfl)
theorem dL_law_398 : decode cL_law 398 = .ok (.iconst 2, 1) := @dq_o5 cL_law 398 (qL_law_24 14 5 rfl)
theorem dL_law_399 : decode cL_law 399 = .ok (.iadd, 1) := @dq_o96 cL_law 399 (qL_law_24 15 96 rfl)
theorem dL_law_400 : decode cL_law 400 = .ok (.iaload, 1) := @dq_o46 cL_law 400 (qL_law_25 0 46 rfl)
theorem dL_law_401 : decode cL_law 401 = .ok (.invokevirtual 40, 3) := @dq_o182 cL_law 401 0 40 (qL_law_25 1 182 rfl) (qL_law_25 2 0 rfl) (qL_law_25 3 40 rfl)
theorem dL_law_404 : decode cL_law 404 = .ok (.pop, 1) := @dq_o87 cL_law 404 (qL_law_25 4 87 rfl)
theorem dL_law_405 : decode cL_law 405 = .ok (.goto 910, 3) := @dq_o167 cL_law 405 3 142 (qL_law_25 5 167 rfl) (qL_law_25 6 3 rfl) (qL_law_25 7 142 rfl)
theorem dL_law_408 : decode cL_law 408 = .ok (.aload_n 1, 1) := @dq_o43 cL_law 408 (qL_law_25 8 43 rfl)
theorem dL_law_409 : decode cL_law 409 = .ok (.aload_n 0, 1) := @dq_o42 cL_law 409 (qL_law_25 9 42 rfl)
theorem dL_law_410 : decode cL_law 410 = .ok (.iload_n 3, 1) := @dq_o29 cL_law 410 (qL_law_25 10 29 rfl)
theorem dL_law_411 : decode cL_law 411 = .ok (.iconst 1, 1) := @dq_o4 cL_law 411 (qL_law_25 11 4 rfl)
theorem dL_law_412 : decode cL_law 412 = .ok (.iadd, 1) := @dq_o96 cL_law 412 (qL_law_25 12 96 rfl)
theorem dL_law_413 : decode cL_law 413 = .ok (.iaload, 1) := @dq_o46 cL_law 413 (qL_law_25 13 46 rfl)
theorem dL_law_414 : decode cL_law 414 = .ok (.aload_n 0, 1) := @dq_o42 cL_law 414 (qL_law_25 14 42 rfl)
theorem dL_law_415 : decode cL_law 415 = .ok (.iload_n 3, 1) := @dq_o29 cL_law 415 (qL_law_25 15 29 rfl)
theorem dL_law_416 : decode cL_law 416 = .ok (.iconst 2, 1) := @dq_o5 cL_law 416 (qL_law_26 0 5 rfl)
theorem dL_law_417 : decode cL_law 417 = .ok (.iadd, 1) := @dq_o96 cL_law 417 (qL_law_26 1 96 rfl)
theorem dL_law_418 : decode cL_law 418 = .ok (.iaload, 1) := @dq_o46 cL_law 418 (qL_law_26 2 46 rfl)
theorem dL_law_419 : decode cL_law 419 = .ok (.aload_n 0, 1) := @dq_o42 cL_law 419 (qL_law_26 3 42 rfl)
theorem dL_law_420 : decode cL_law 420 = .ok (.iload_n 3, 1) := @dq_o29 cL_law 420 (qL_law_26 4 29 rfl)
theorem dL_law_421 : decode cL_law 421 = .ok (.iconst 3, 1) := @dq_o6 cL_law 421 (qL_law_26 5 6 rfl)
theorem dL_law_422 : decode cL_law 422 = .ok (.iadd, 1) := @dq_o96 cL_law 422 (qL_law_26 6 96 rfl)
theorem dL_law_423 : decode cL_law 423 = .ok (.iaload, 1) := @dq_o46 cL_law 423 (qL_law_26 7 46 rfl)
theorem dL_law_424 : decode cL_law 424 = .ok (.invokevirtual 41, 3) := @dq_o182 cL_law 424 0 41 (qL_law_26 8 182 rfl) (qL_law_26 9 0 rfl) (qL_law_26 10 41 rfl)
theorem dL_law_427 : decode cL_law 427 = .ok (.pop, 1) := @dq_o87 cL_law 427 (qL_law_26 11 87 rfl)
theorem dL_law_428 : decode cL_law 428 = .ok (.aload_n 2, 1) := @dq_o44 cL_law 428 (qL_law_26 12 44 rfl)
theorem dL_law_429 : decode cL_law 429 = .ok (.aload_n 0, 1) := @dq_o42 cL_law 429 (qL_law_26 13 42 rfl)
theorem dL_law_430 : decode cL_law 430 = .ok (.iload_n 3, 1) := @dq_o29 cL_law 430 (qL_law_26 14 29 rfl)
theorem dL_law_431 : decode cL_law 431 = .ok (.iconst 1, 1) := @dq_o4 cL_law 431 (qL_law_26 15 4 rfl)
theorem dL_law_432 : decode cL_law 432 = .ok (.iadd, 1) := @dq_o96 cL_law 432 (qL_law_27 0 96 rfl)
theorem dL_law_433 : decode cL_law 433 = .ok (.iaload, 1) := @dq_o46 cL_law 433 (qL_law_27 1 46 rfl)
theorem dL_law_434 : decode cL_law 434 = .ok (.aload_n 0, 1) := @dq_o42 cL_law 434 (qL_law_27 2 42 rfl)
theorem dL_law_435 : decode cL_law 435 = .ok (.iload_n 3, 1) := @dq_o29 cL_law 435 (qL_law_27 3 29 rfl)
theorem dL_law_436 : decode cL_law 436 = .ok (.iconst 2, 1) := @dq_o5 cL_law 436 (qL_law_27 4 5 rfl)
theorem dL_law_437 : decode cL_law 437 = .ok (.iadd, 1) := @dq_o96 cL_law 437 (qL_law_27 5 96 rfl)
theorem dL_law_438 : decode cL_law 438 = .ok (.iaload, 1) := @dq_o46 cL_law 438 (qL_law_27 6 46 rfl)
theorem dL_law_439 : decode cL_law 439 = .ok (.aload_n 0, 1) := @dq_o42 cL_law 439 (qL_law_27 7 42 rfl)
theorem dL_law_440 : decode cL_law 440 = .ok (.iload_n 3, 1) := @dq_o29 cL_law 440 (qL_law_27 8 29 rfl)
theorem dL_law_441 : decode cL_law 441 = .ok (.iconst 3, 1) := @dq_o6 cL_law 441 (qL_law_27 9 6 rfl)
theorem dL_law_442 : decode cL_law 442 = .ok (.iadd, 1) := @dq_o96 cL_law 442 (qL_law_27 10 96 rfl)
theorem dL_law_443 : decode cL_law 443 = .ok (.iaload, 1) := @dq_o46 cL_law 443 (qL_law_27 11 46 rfl)
theorem dL_law_444 : decode cL_law 444 = .ok (.invokevirtual 44, 3) := @dq_o182 cL_law 444 0 44 (qL_law_27 12 182 rfl) (qL_law_27 13 0 rfl) (qL_law_27 14 44 rfl)
theorem dL_law_447 : decode cL_law 447 = .ok (.pop, 1) := @dq_o87 cL_law 447 (qL_law_27 15 87 rfl)
theorem dL_law_448 : decode cL_law 448 = .ok (.goto 867, 3) := @dq_o167 cL_law 448 3 99 (qL_law_28 0 167 rfl) (qL_law_28 1 3 rfl) (qL_law_28 2 99 rfl)
theorem dL_law_451 : decode cL_law 451 = .ok (.aload_n 1, 1) := @dq_o43 cL_law 451 (qL_law_28 3 43 rfl)
theorem dL_law_452 : decode cL_law 452 = .ok (.aload_n 0, 1) := @dq_o42 cL_law 452 (qL_law_28 4 42 rfl)
theorem dL_law_453 : decode cL_law 453 = .ok (.iload_n 3, 1) := @dq_o29 cL_law 453 (qL_law_28 5 29 rfl)
theorem dL_law_454 : decode cL_law 454 = .ok (.iconst 1, 1) := @dq_o4 cL_law 454 (qL_law_28 6 4 rfl)
theorem dL_law_455 : decode cL_law 455 = .ok (.iadd, 1) := @dq_o96 cL_law 455 (qL_law_28 7 96 rfl)
theorem dL_law_456 : decode cL_law 456 = .ok (.iaload, 1) := @dq_o46 cL_law 456 (qL_law_28 8 46 rfl)
theorem dL_law_457 : decode cL_law 457 = .ok (.aload_n 0, 1) := @dq_o42 cL_law 457 (qL_law_28 9 42 rfl)
theorem dL_law_458 : decode cL_law 458 = .ok (.iload_n 3, 1) := @dq_o29 cL_law 458 (qL_law_28 10 29 rfl)
theorem dL_law_459 : decode cL_law 459 = .ok (.iconst 2, 1) := @dq_o5 cL_law 459 (qL_law_28 11 5 rfl)
theorem dL_law_460 : decode cL_law 460 = .ok (.iadd, 1) := @dq_o96 cL_law 460 (qL_law_28 12 96 rfl)
theorem dL_law_461 : decode cL_law 461 = .ok (.iaload, 1) := @dq_o46 cL_law 461 (qL_law_28 13 46 rfl)
theorem dL_law_462 : decode cL_law 462 = .ok (.aload_n 0, 1) := @dq_o42 cL_law 462 (qL_law_28 14 42 rfl)
theorem dL_law_463 : decode cL_law 463 = .ok (.iload_n 3, 1) := @dq_o29 cL_law 463 (qL_law_28 15 29 rfl)
theorem dL_law_464 : decode cL_law 464 = .ok (.iconst 3, 1) := @dq_o6 cL_law 464 (qL_law_29 0 6 rfl)
theorem dL_law_465 : decode cL_law 465 = .ok (.iadd, 1) := @dq_o96 cL_law 465 (qL_law_29 1 96 rfl)
theorem dL_law_466 : decode cL_law 466 = .ok (.iaload, 1) := @dq_o46 cL_law 466 (qL_law_29 2 46 rfl)
theorem dL_law_467 : decode cL_law 467 = .ok (.invokevirtual 45, 3) := @dq_o182 cL_law 467 0 45 (qL_law_29 3 182 rfl) (qL_law_29 4 0 rfl) (qL_law_29 5 45 rfl)
theorem dL_law_470 : decode cL_law 470 = .ok (.pop, 1) := @dq_o87 cL_law 470 (qL_law_29 6 87 rfl)
theorem dL_law_471 : decode cL_law 471 = .ok (.aload_n 2, 1) := @dq_o44 cL_law 471 (qL_law_29 7 44 rfl)
theorem dL_law_472 : decode cL_law 472 = .ok (.aload_n 0, 1) := @dq_o42 cL_law 472 (qL_law_29 8 42 rfl)
theorem dL_law_473 : decode cL_law 473 = .ok (.iload_n 3, 1) := @dq_o29 cL_law 473 (qL_law_29 9 29 rfl)
theorem dL_law_474 : decode cL_law 474 = .ok (.iconst 1, 1) := @dq_o4 cL_law 474 (qL_law_29 10 4 rfl)
theorem dL_law_475 : decode cL_law 475 = .ok (.iadd, 1) := @dq_o96 cL_law 475 (qL_law_29 11 96 rfl)
theorem dL_law_476 : decode cL_law 476 = .ok (.iaload, 1) := @dq_o46 cL_law 476 (qL_law_29 12 46 rfl)
theorem dL_law_477 : decode cL_law 477 = .ok (.aload_n 0, 1) := @dq_o42 cL_law 477 (qL_law_29 13 42 rfl)
theorem dL_law_478 : decode cL_law 478 = .ok (.iload_n 3, 1) := @dq_o29 cL_law 478 (qL_law_29 14 29 rfl)
theorem dL_law_479 : decode cL_law 479 = .ok (.iconst 2, 1) := @dq_o5 cL_law 479 (qL_law_29 15 5 rfl)
theorem dL_law_480 : decode cL_law 480 = .ok (.iadd, 1) := @dq_o96 cL_law 480 (qL_law_30 0 96 rfl)
theorem dL_law_481 : decode cL_law 481 = .ok (.iaload, 1) := @dq_o46 cL_law 481 (qL_law_30 1 46 rfl)
theorem dL_law_482 : decode cL_law 482 = .ok (.aload_n 0, 1) := @dq_o42 cL_law 482 (qL_law_30 2 42 rfl)
theorem dL_law_483 : decode cL_law 483 = .ok (.iload_n 3, 1) := @dq_o29 cL_law 483 (qL_law_30 3 29 rfl)
theorem dL_law_484 : decode cL_law 484 = .ok (.iconst 3, 1) := @dq_o6 cL_law 484 (qL_law_30 4 6 rfl)
theorem dL_law_485 : decode cL_law 485 = .ok (.iadd, 1) := @dq_o96 cL_law 485 (qL_law_30 5 96 rfl)
theorem dL_law_486 : decode cL_law 486 = .ok (.iaload, 1) := @dq_o46 cL_law 486 (qL_law_30 6 46 rfl)
theorem dL_law_487 : decode cL_law 487 = .ok (.invokevirtual 48, 3) := @dq_o182 cL_law 487 0 48 (qL_law_30 7 182 rfl) (qL_law_30 8 0 rfl) (qL_law_30 9 48 rfl)
theorem dL_law_490 : decode cL_law 490 = .ok (.pop, 1) := @dq_o87 cL_law 490 (qL_law_30 10 87 rfl)
theorem dL_law_491 : decode cL_law 491 = .ok (.goto 824, 3) := @dq_o167 cL_law 491 3 56 (qL_law_30 11 167 rfl) (qL_law_30 12 3 rfl) (qL_law_30 13 56 rfl)
theorem dL_law_494 : decode cL_law 494 = .ok (.aload_n 1, 1) := @dq_o43 cL_law 494 (qL_law_30 14 43 rfl)
theorem dL_law_495 : decode cL_law 495 = .ok (.aload_n 0, 1) := @dq_o42 cL_law 495 (qL_law_30 15 42 rfl)
theorem dL_law_496 : decode cL_law 496 = .ok (.iload_n 3, 1) := @dq_o29 cL_law 496 (qL_law_31 0 29 rfl)
theorem dL_law_497 : decode cL_law 497 = .ok (.iconst 1, 1) := @dq_o4 cL_law 497 (qL_law_31 1 4 rfl)
theorem dL_law_498 : decode cL_law 498 = .ok (.iadd, 1) := @dq_o96 cL_law 498 (qL_law_31 2 96 rfl)
theorem dL_law_499 : decode cL_law 499 = .ok (.iaload, 1) := @dq_o46 cL_law 499 (qL_law_31 3 46 rfl)
theorem dL_law_500 : decode cL_law 500 = .ok (.aload_n 0, 1) := @dq_o42 cL_law 500 (qL_law_31 4 42 rfl)
theorem dL_law_501 : decode cL_law 501 = .ok (.iload_n 3, 1) := @dq_o29 cL_law 501 (qL_law_31 5 29 rfl)
theorem dL_law_502 : decode cL_law 502 = .ok (.iconst 2, 1) := @dq_o5 cL_law 502 (qL_law_31 6 5 rfl)
theorem dL_law_503 : decode cL_law 503 = .ok (.iadd, 1) := @dq_o96 cL_law 503 (qL_law_31 7 96 rfl)
theorem dL_law_504 : decode cL_law 504 = .ok (.iaload, 1) := @dq_o46 cL_law 504 (qL_law_31 8 46 rfl)
theorem dL_law_505 : decode cL_law 505 = .ok (.aload_n 0, 1) := @dq_o42 cL_law 505 (qL_law_31 9 42 rfl)
theorem dL_law_506 : decode cL_law 506 = .ok (.iload_n 3, 1) := @dq_o29 cL_law 506 (qL_law_31 10 29 rfl)
theorem dL_law_507 : decode cL_law 507 = .ok (.iconst 3, 1) := @dq_o6 cL_law 507 (qL_law_31 11 6 rfl)
theorem dL_law_508 : decode cL_law 508 = .ok (.iadd, 1) := @dq_o96 cL_law 508 (qL_law_31 12 96 rfl)
theorem dL_law_509 : decode cL_law 509 = .ok (.iaload, 1) := @dq_o46 cL_law 509 (qL_law_31 13 46 rfl)
theorem dL_law_510 : decode cL_law 510 = .ok (.invokevirtual 49, 3) := @dq_o182 cL_law 510 0 49 (qL_law_31 14 182 rfl) (qL_law_31 15 0 rfl) (qL_law_32 0 49 rfl)
theorem dL_law_513 : decode cL_law 513 = .ok (.pop, 1) := @dq_o87 cL_law 513 (qL_law_32 1 87 rfl)
theorem dL_law_514 : decode cL_law 514 = .ok (.aload_n 2, 1) := @dq_o44 cL_law 514 (qL_law_32 2 44 rfl)
theorem dL_law_515 : decode cL_law 515 = .ok (.aload_n 0, 1) := @dq_o42 cL_law 515 (qL_law_32 3 42 rfl)
theorem dL_law_516 : decode cL_law 516 = .ok (.iload_n 3, 1) := @dq_o29 cL_law 516 (qL_law_32 4 29 rfl)
theorem dL_law_517 : decode cL_law 517 = .ok (.iconst 1, 1) := @dq_o4 cL_law 517 (qL_law_32 5 4 rfl)
theorem dL_law_518 : decode cL_law 518 = .ok (.iadd, 1) := @dq_o96 cL_law 518 (qL_law_32 6 96 rfl)
theorem dL_law_519 : decode cL_law 519 = .ok (.iaload, 1) := @dq_o46 cL_law 519 (qL_law_32 7 46 rfl)
theorem dL_law_520 : decode cL_law 520 = .ok (.aload_n 0, 1) := @dq_o42 cL_law 520 (qL_law_32 8 42 rfl)
theorem dL_law_521 : decode cL_law 521 = .ok (.iload_n 3, 1) := @dq_o29 cL_law 521 (qL_law_32 9 29 rfl)
theorem dL_law_522 : decode cL_law 522 = .ok (.iconst 2, 1) := @dq_o5 cL_law 522 (qL_law_32 10 5 rfl)
theorem dL_law_523 : decode cL_law 523 = .ok (.iadd, 1) := @dq_o96 cL_law 523 (qL_law_32 11 96 rfl)
theorem dL_law_524 : decode cL_law 524 = .ok (.iaload, 1) := @dq_o46 cL_law 524 (qL_law_32 12 46 rfl)
theorem dL_law_525 : decode cL_law 525 = .ok (.aload_n 0, 1) := @dq_o42 cL_law 525 (qL_law_32 13 42 rfl)
theorem dL_law_526 : decode cL_law 526 = .ok (.iload_n 3, 1) := @dq_o29 cL_law 526 (qL_law_32 14 29 rfl)
theorem dL_law_527 : decode cL_law 527 = .ok (.iconst 3, 1) := @dq_o6 cL_law 527 (qL_law_32 15 6 rfl)
theorem dL_law_528 : decode cL_law 528 = .ok (.iadd, 1) := @dq_o96 cL_law 528 (qL_law_33 0 96 rfl)
theorem dL_law_529 : decode cL_law 529 = .ok (.iaload, 1) := @dq_o46 cL_law 529 (qL_law_33 1 46 rfl)
theorem dL_law_530 : decode cL_law 530 = .ok (.invokevirtual 52, 3) := @dq_o182 cL_law 530 0 52 (qL_law_33 2 182 rfl) (qL_law_33 3 0 rfl) (qL_law_33 4 52 rfl)
theorem dL_law_533 : decode cL_law 533 = .ok (.pop, 1) := @dq_o87 cL_law 533 (qL_law_33 5 87 rfl)
theorem dL_law_534 : decode cL_law 534 = .ok (.goto 781, 3) := @dq_o167 cL_law 534 3 13 (qL_law_33 6 167 rfl) (qL_law_33 7 3 rfl) (qL_law_33 8 13 rfl)
theorem dL_law_537 : decode cL_law 537 = .ok (.aload_n 1, 1) := @dq_o43 cL_law 537 (qL_law_33 9 43 rfl)
theorem dL_law_538 : decode cL_law 538 = .ok (.aload_n 0, 1) := @dq_o42 cL_law 538 (qL_law_33 10 42 rfl)
theorem dL_law_539 : decode cL_law 539 = .ok (.iload_n 3, 1) := @dq_o29 cL_law 539 (qL_law_33 11 29 rfl)
theorem dL_law_540 : decode cL_law 540 = .ok (.iconst 1, 1) := @dq_o4 cL_law 540 (qL_law_33 12 4 rfl)
theorem dL_law_541 : decode cL_law 541 = .ok (.iadd, 1) := @dq_o96 cL_law 541 (qL_law_33 13 96 rfl)
theorem dL_law_542 : decode cL_law 542 = .ok (.iaload, 1) := @dq_o46 cL_law 542 (qL_law_33 14 46 rfl)
theorem dL_law_543 : decode cL_law 543 = .ok (.aload_n 0, 1) := @dq_o42 cL_law 543 (qL_law_33 15 42 rfl)
theorem dL_law_544 : decode cL_law 544 = .ok (.iload_n 3, 1) := @dq_o29 cL_law 544 (qL_law_34 0 29 rfl)
theorem dL_law_545 : decode cL_law 545 = .ok (.iconst 2, 1) := @dq_o5 cL_law 545 (qL_law_34 1 5 rfl)
theorem dL_law_546 : decode cL_law 546 = .ok (.iadd, 1) := @dq_o96 cL_law 546 (qL_law_34 2 96 rfl)
theorem dL_law_547 : decode cL_law 547 = .ok (.iaload, 1) := @dq_o46 cL_law 547 (qL_law_34 3 46 rfl)
theorem dL_law_548 : decode cL_law 548 = .ok (.aload_n 0, 1) := @dq_o42 cL_law 548 (qL_law_34 4 42 rfl)
theorem dL_law_549 : decode cL_law 549 = .ok (.iload_n 3, 1) := @dq_o29 cL_law 549 (qL_law_34 5 29 rfl)
theorem dL_law_550 : decode cL_law 550 = .ok (.iconst 3, 1) := @dq_o6 cL_law 550 (qL_law_34 6 6 rfl)
theorem dL_law_551 : decode cL_law 551 = .ok (.iadd, 1) := @dq_o96 cL_law 551 (qL_law_34 7 96 rfl)
theorem dL_law_552 : decode cL_law 552 = .ok (.iaload, 1) := @dq_o46 cL_law 552 (qL_law_34 8 46 rfl)
theorem dL_law_553 : decode cL_law 553 = .ok (.invokevirtual 53, 3) := @dq_o182 cL_law 553 0 53 (qL_law_34 9 182 rfl) (qL_law_34 10 0 rfl) (qL_law_34 11 53 rfl)
theorem dL_law_556 : decode cL_law 556 = .ok (.pop, 1) := @dq_o87 cL_law 556 (qL_law_34 12 87 rfl)
theorem dL_law_557 : decode cL_law 557 = .ok (.aload_n 2, 1) := @dq_o44 cL_law 557 (qL_law_34 13 44 rfl)
theorem dL_law_558 : decode cL_law 558 = .ok (.aload_n 0, 1) := @dq_o42 cL_law 558 (qL_law_34 14 42 rfl)
theorem dL_law_559 : decode cL_law 559 = .ok (.iload_n 3, 1) := @dq_o29 cL_law 559 (qL_law_34 15 29 rfl)
theorem dL_law_560 : decode cL_law 560 = .ok (.iconst 1, 1) := @dq_o4 cL_law 560 (qL_law_35 0 4 rfl)
theorem dL_law_561 : decode cL_law 561 = .ok (.iadd, 1) := @dq_o96 cL_law 561 (qL_law_35 1 96 rfl)
theorem dL_law_562 : decode cL_law 562 = .ok (.iaload, 1) := @dq_o46 cL_law 562 (qL_law_35 2 46 rfl)
theorem dL_law_563 : decode cL_law 563 = .ok (.aload_n 0, 1) := @dq_o42 cL_law 563 (qL_law_35 3 42 rfl)
theorem dL_law_564 : decode cL_law 564 = .ok (.iload_n 3, 1) := @dq_o29 cL_law 564 (qL_law_35 4 29 rfl)
theorem dL_law_565 : decode cL_law 565 = .ok (.iconst 2, 1) := @dq_o5 cL_law 565 (qL_law_35 5 5 rfl)
theorem dL_law_566 : decode cL_law 566 = .ok (.iadd, 1) := @dq_o96 cL_law 566 (qL_law_35 6 96 rfl)
theorem dL_law_567 : decode cL_law 567 = .ok (.iaload, 1) := @dq_o46 cL_law 567 (qL_law_35 7 46 rfl)
theorem dL_law_568 : decode cL_law 568 = .ok (.aload_n 0, 1) := @dq_o42 cL_law 568 (qL_law_35 8 42 rfl)
theorem dL_law_569 : decode cL_law 569 = .ok (.iload_n 3, 1) := @dq_o29 cL_law 569 (qL_law_35 9 29 rfl)
theorem dL_law_570 : decode cL_law 570 = .ok (.iconst 3, 1) := @dq_o6 cL_law 570 (qL_law_35 10 6 rfl)
theorem dL_law_571 : decode cL_law 571 = .ok (.iadd, 1) := @dq_o96 cL_law 571 (qL_law_35 11 96 rfl)
theorem dL_law_572 : decode cL_law 572 = .ok (.iaload, 1) := @dq_o46 cL_law 572 (qL_law_35 12 46 rfl)
theorem dL_law_573 : decode cL_law 573 = .ok (.invokevirtual 56, 3) := @dq_o182 cL_law 573 0 56 (qL_law_35 13 182 rfl) (qL_law_35 14 0 rfl) (qL_law_35 15 56 rfl)
theorem dL_law_576 : decode cL_law 576 = .ok (.pop, 1) := @dq_o87 cL_law 576 (qL_law_36 0 87 rfl)
theorem dL_law_577 : decode cL_law 577 = .ok (.goto 738, 3) := @dq_o167 cL_law 577 2 226 (qL_law_36 1 167 rfl) (qL_law_36 2 2 rfl) (qL_law_36 3 226 rfl)
theorem dL_law_580 : decode cL_law 580 = .ok (.aload_n 1, 1) := @dq_o43 cL_law 580 (qL_law_36 4 43 rfl)
theorem dL_law_581 : decode cL_law 581 = .ok (.aload_n 0, 1) := @dq_o42 cL_law 581 (qL_law_36 5 42 rfl)
theorem dL_law_582 : decode cL_law 582 = .ok (.iload_n 3, 1) := @dq_o29 cL_law 582 (qL_law_36 6 29 rfl)
theorem dL_law_583 : decode cL_law 583 = .ok (.iconst 1, 1) := @dq_o4 cL_law 583 (qL_law_36 7 4 rfl)
theorem dL_law_584 : decode cL_law 584 = .ok (.iadd, 1) := @dq_o96 cL_law 584 (qL_law_36 8 96 rfl)
theorem dL_law_585 : decode cL_law 585 = .ok (.iaload, 1) := @dq_o46 cL_law 585 (qL_law_36 9 46 rfl)
theorem dL_law_586 : decode cL_law 586 = .ok (.aload_n 0, 1) := @dq_o42 cL_law 586 (qL_law_36 10 42 rfl)
theorem dL_law_587 : decode cL_law 587 = .ok (.iload_n 3, 1) := @dq_o29 cL_law 587 (qL_law_36 11 29 rfl)
theorem dL_law_588 : decode cL_law 588 = .ok (.iconst 2, 1) := @dq_o5 cL_law 588 (qL_law_36 12 5 rfl)
theorem dL_law_589 : decode cL_law 589 = .ok (.iadd, 1) := @dq_o96 cL_law 589 (qL_law_36 13 96 rfl)
theorem dL_law_590 : decode cL_law 590 = .ok (.iaload, 1) := @dq_o46 cL_law 590 (qL_law_36 14 46 rfl)
theorem dL_law_591 : decode cL_law 591 = .ok (.aload_n 0, 1) := @dq_o42 cL_law 591 (qL_law_36 15 42 rfl)
theorem dL_law_592 : decode cL_law 592 = .ok (.iload_n 3, 1) := @dq_o29 cL_law 592 (qL_law_37 0 29 rfl)
theorem dL_law_593 : decode cL_law 593 = .ok (.iconst 3, 1) := @dq_o6 cL_law 593 (qL_law_37 1 6 rfl)
theorem dL_law_594 : decode cL_law 594 = .ok (.iadd, 1) := @dq_o96 cL_law 594 (qL_law_37 2 96 rfl)
theorem dL_law_595 : decode cL_law 595 = .ok (.iaload, 1) := @dq_o46 cL_law 595 (qL_law_37 3 46 rfl)
theorem dL_law_596 : decode cL_law 596 = .ok (.aload_n 0, 1) := @dq_o42 cL_law 596 (qL_law_37 4 42 rfl)
theorem dL_law_597 : decode cL_law 597 = .ok (.iload_n 3, 1) := @dq_o29 cL_law 597 (qL_law_37 5 29 rfl)
theorem dL_law_598 : decode cL_law 598 = .ok (.iconst 4, 1) := @dq_o7 cL_law 598 (qL_law_37 6 7 rfl)
theorem dL_law_599 : decode cL_law 599 = .ok (.iadd, 1) := @dq_o96 cL_law 599 (qL_law_37 7 96 rfl)
theorem dL_law_600 : decode cL_law 600 = .ok (.iaload, 1) := @dq_o46 cL_law 600 (qL_law_37 8 46 rfl)
theorem dL_law_601 : decode cL_law 601 = .ok (.invokevirtual 57, 3) := @dq_o182 cL_law 601 0 57 (qL_law_37 9 182 rfl) (qL_law_37 10 0 rfl) (qL_law_37 11 57 rfl)
theorem dL_law_604 : decode cL_law 604 = .ok (.pop, 1) := @dq_o87 cL_law 604 (qL_law_37 12 87 rfl)
theorem dL_law_605 : decode cL_law 605 = .ok (.aload_n 2, 1) := @dq_o44 cL_law 605 (qL_law_37 13 44 rfl)
theorem dL_law_606 : decode cL_law 606 = .ok (.aload_n 0, 1) := @dq_o42 cL_law 606 (qL_law_37 14 42 rfl)
theorem dL_law_607 : decode cL_law 607 = .ok (.iload_n 3, 1) := @dq_o29 cL_law 607 (qL_law_37 15 29 rfl)
theorem dL_law_608 : decode cL_law 608 = .ok (.iconst 1, 1) := @dq_o4 cL_law 608 (qL_law_38 0 4 rfl)
theorem dL_law_609 : decode cL_law 609 = .ok (.iadd, 1) := @dq_o96 cL_law 609 (qL_law_38 1 96 rfl)
theorem dL_law_610 : decode cL_law 610 = .ok (.iaload, 1) := @dq_o46 cL_law 610 (qL_law_38 2 46 rfl)
theorem dL_law_611 : decode cL_law 611 = .ok (.aload_n 0, 1) := @dq_o42 cL_law 611 (qL_law_38 3 42 rfl)
theorem dL_law_612 : decode cL_law 612 = .ok (.iload_n 3, 1) := @dq_o29 cL_law 612 (qL_law_38 4 29 rfl)
theorem dL_law_613 : decode cL_law 613 = .ok (.iconst 2, 1) := @dq_o5 cL_law 613 (qL_law_38 5 5 rfl)
theorem dL_law_614 : decode cL_law 614 = .ok (.iadd, 1) := @dq_o96 cL_law 614 (qL_law_38 6 96 rfl)
theorem dL_law_615 : decode cL_law 615 = .ok (.iaload, 1) := @dq_o46 cL_law 615 (qL_law_38 7 46 rfl)
theorem dL_law_616 : decode cL_law 616 = .ok (.aload_n 0, 1) := @dq_o42 cL_law 616 (qL_law_38 8 42 rfl)
theorem dL_law_617 : decode cL_law 617 = .ok (.iload_n 3, 1) := @dq_o29 cL_law 617 (qL_law_38 9 29 rfl)
theorem dL_law_618 : decode cL_law 618 = .ok (.iconst 3, 1) := @dq_o6 cL_law 618 (qL_law_38 10 6 rfl)
theorem dL_law_619 : decode cL_law 619 = .ok (.iadd, 1) := @dq_o96 cL_law 619 (qL_law_38 11 96 rfl)
theorem dL_law_620 : decode cL_law 620 = .ok (.iaload, 1) := @dq_o46 cL_law 620 (qL_law_38 12 46 rfl)
theorem dL_law_621 : decode cL_law 621 = .ok (.aload_n 0, 1) := @dq_o42 cL_law 621 (qL_law_38 13 42 rfl)
theorem dL_law_622 : decode cL_law 622 = .ok (.iload_n 3, 1) := @dq_o29 cL_law 622 (qL_law_38 14 29 rfl)
theorem dL_law_623 : decode cL_law 623 = .ok (.iconst 4, 1) := @dq_o7 cL_law 623 (qL_law_38 15 7 rfl)
theorem dL_law_624 : decode cL_law 624 = .ok (.iadd, 1) := @dq_o96 cL_law 624 (qL_law_39 0 96 rfl)
theorem dL_law_625 : decode cL_law 625 = .ok (.iaload, 1) := @dq_o46 cL_law 625 (qL_law_39 1 46 rfl)
theorem dL_law_626 : decode cL_law 626 = .ok (.invokevirtual 60, 3) := @dq_o182 cL_law 626 0 60 (qL_law_39 2 182 rfl) (qL_law_39 3 0 rfl) (qL_law_39 4 60 rfl)
theorem dL_law_629 : decode cL_law 629 = .ok (.pop, 1) := @dq_o87 cL_law 629 (qL_law_39 5 87 rfl)
theorem dL_law_630 : decode cL_law 630 = .ok (.goto 685, 3) := @dq_o167 cL_law 630 2 173 (qL_law_39 6 167 rfl) (qL_law_39 7 2 rfl) (qL_law_39 8 173 rfl)
theorem dL_law_633 : decode cL_law 633 = .ok (.aload_n 1, 1) := @dq_o43 cL_law 633 (qL_law_39 9 43 rfl)
theorem dL_law_634 : decode cL_law 634 = .ok (.aload_n 0, 1) := @dq_o42 cL_law 634 (qL_law_39 10 42 rfl)
theorem dL_law_635 : decode cL_law 635 = .ok (.iload_n 3, 1) := @dq_o29 cL_law 635 (qL_law_39 11 29 rfl)
theorem dL_law_636 : decode cL_law 636 = .ok (.iconst 1, 1) := @dq_o4 cL_law 636 (qL_law_39 12 4 rfl)
theorem dL_law_637 : decode cL_law 637 = .ok (.iadd, 1) := @dq_o96 cL_law 637 (qL_law_39 13 96 rfl)
theorem dL_law_638 : decode cL_law 638 = .ok (.iaload, 1) := @dq_o46 cL_law 638 (qL_law_39 14 46 rfl)
theorem dL_law_639 : decode cL_law 639 = .ok (.aload_n 0, 1) := @dq_o42 cL_law 639 (qL_law_39 15 42 rfl)
theorem dL_law_640 : decode cL_law 640 = .ok (.iload_n 3, 1) := @dq_o29 cL_law 640 (qL_law_40 0 29 rfl)
theorem dL_law_641 : decode cL_law 641 = .ok (.iconst 2, 1) := @dq_o5 cL_law 641 (qL_law_40 1 5 rfl)
theorem dL_law_642 : decode cL_law 642 = .ok (.iadd, 1) := @dq_o96 cL_law 642 (qL_law_40 2 96 rfl)
theorem dL_law_643 : decode cL_law 643 = .ok (.iaload, 1) := @dq_o46 cL_law 643 (qL_law_40 3 46 rfl)
theorem dL_law_644 : decode cL_law 644 = .ok (.aload_n 0, 1) := @dq_o42 cL_law 644 (qL_law_40 4 42 rfl)
theorem dL_law_645 : decode cL_law 645 = .ok (.iload_n 3, 1) := @dq_o29 cL_law 645 (qL_law_40 5 29 rfl)
theorem dL_law_646 : decode cL_law 646 = .ok (.iconst 3, 1) := @dq_o6 cL_law 646 (qL_law_40 6 6 rfl)
theorem dL_law_647 : decode cL_law 647 = .ok (.iadd, 1) := @dq_o96 cL_law 647 (qL_law_40 7 96 rfl)
theorem dL_law_648 : decode cL_law 648 = .ok (.iaload, 1) := @dq_o46 cL_law 648 (qL_law_40 8 46 rfl)
theorem dL_law_649 : decode cL_law 649 = .ok (.aload_n 0, 1) := @dq_o42 cL_law 649 (qL_law_40 9 42 rfl)
theorem dL_law_650 : decode cL_law 650 = .ok (.iload_n 3, 1) := @dq_o29 cL_law 650 (qL_law_40 10 29 rfl)
theorem dL_law_651 : decode cL_law 651 = .ok (.iconst 4, 1) := @dq_o7 cL_law 651 (qL_law_40 11 7 rfl)
theorem dL_law_652 : decode cL_law 652 = .ok (.iadd, 1) := @dq_o96 cL_law 652 (qL_law_40 12 96 rfl)
theorem dL_law_653 : decode cL_law 653 = .ok (.iaload, 1) := @dq_o46 cL_law 653 (qL_law_40 13 46 rfl)
theorem dL_law_654 : decode cL_law 654 = .ok (.aload_n 0, 1) := @dq_o42 cL_law 654 (qL_law_40 14 42 rfl)
theorem dL_law_655 : decode cL_law 655 = .ok (.iload_n 3, 1) := @dq_o29 cL_law 655 (qL_law_40 15 29 rfl)
theorem dL_law_656 : decode cL_law 656 = .ok (.iconst 5, 1) := @dq_o8 cL_law 656 (qL_law_41 0 8 rfl)
theorem dL_law_657 : decode cL_law 657 = .ok (.iadd, 1) := @dq_o96 cL_law 657 (qL_law_41 1 96 rfl)
theorem dL_law_658 : decode cL_law 658 = .ok (.iaload, 1) := @dq_o46 cL_law 658 (qL_law_41 2 46 rfl)
theorem dL_law_659 : decode cL_law 659 = .ok (.invokevirtual 61, 3) := @dq_o182 cL_law 659 0 61 (qL_law_41 3 182 rfl) (qL_law_41 4 0 rfl) (qL_law_41 5 61 rfl)
theorem dL_law_662 : decode cL_law 662 = .ok (.pop, 1) := @dq_o87 cL_law 662 (qL_law_41 6 87 rfl)
theorem dL_law_663 : decode cL_law 663 = .ok (.aload_n 2, 1) := @dq_o44 cL_law 663 (qL_law_41 7 44 rfl)
theorem dL_law_664 : decode cL_law 664 = .ok (.aload_n 0, 1) := @dq_o42 cL_law 664 (qL_law_41 8 42 rfl)
theorem dL_law_665 : decode cL_law 665 = .ok (.iload_n 3, 1) := @dq_o29 cL_law 665 (qL_law_41 9 29 rfl)
theorem dL_law_666 : decode cL_law 666 = .ok (.iconst 1, 1) := @dq_o4 cL_law 666 (qL_law_41 10 4 rfl)
theorem dL_law_667 : decode cL_law 667 = .ok (.iadd, 1) := @dq_o96 cL_law 667 (qL_law_41 11 96 rfl)
theorem dL_law_668 : decode cL_law 668 = .ok (.iaload, 1) := @dq_o46 cL_law 668 (qL_law_41 12 46 rfl)
theorem dL_law_669 : decode cL_law 669 = .ok (.aload_n 0, 1) := @dq_o42 cL_law 669 (qL_law_41 13 42 rfl)
theorem dL_law_670 : decode cL_law 670 = .ok (.iload_n 3, 1) := @dq_o29 cL_law 670 (qL_law_41 14 29 rfl)
theorem dL_law_671 : decode cL_law 671 = .ok (.iconst 2, 1) := @dq_o5 cL_law 671 (qL_law_41 15 5 rfl)
theorem dL_law_672 : decode cL_law 672 = .ok (.iadd, 1) := @dq_o96 cL_law 672 (qL_law_42 0 96 rfl)
theorem dL_law_673 : decode cL_law 673 = .ok (.iaload, 1) := @dq_o46 cL_law 673 (qL_law_42 1 46 rfl)
theorem dL_law_674 : decode cL_law 674 = .ok (.aload_n 0, 1) := @dq_o42 cL_law 674 (qL_law_42 2 42 rfl)
theorem dL_law_675 : decode cL_law 675 = .ok (.iload_n 3, 1) := @dq_o29 cL_law 675 (qL_law_42 3 29 rfl)
theorem dL_law_676 : decode cL_law 676 = .ok (.iconst 3, 1) := @dq_o6 cL_law 676 (qL_law_42 4 6 rfl)
theorem dL_law_677 : decode cL_law 677 = .ok (.iadd, 1) := @dq_o96 cL_law 677 (qL_law_42 5 96 rfl)
theorem dL_law_678 : decode cL_law 678 = .ok (.iaload, 1) := @dq_o46 cL_law 678 (qL_law_42 6 46 rfl)
theorem dL_law_679 : decode cL_law 679 = .ok (.aload_n 0, 1) := @dq_o42 cL_law 679 (qL_law_42 7 42 rfl)
theorem dL_law_680 : decode cL_law 680 = .ok (.iload_n 3, 1) := @dq_o29 cL_law 680 (qL_law_42 8 29 rfl)
theorem dL_law_681 : decode cL_law 681 = .ok (.iconst 4, 1) := @dq_o7 cL_law 681 (qL_law_42 9 7 rfl)
theorem dL_law_682 : decode cL_law 682 = .ok (.iadd, 1) := @dq_o96 cL_law 682 (qL_law_42 10 96 rfl)
theorem dL_law_683 : decode cL_law 683 = .ok (.iaload, 1) := @dq_o46 cL_law 683 (qL_law_42 11 46 rfl)
theorem dL_law_684 : decode cL_law 684 = .ok (.aload_n 0, 1) := @dq_o42 cL_law 684 (qL_law_42 12 42 rfl)
theorem dL_law_685 : decode cL_law 685 = .ok (.iload_n 3, 1) := @dq_o29 cL_law 685 (qL_law_42 13 29 rfl)
theorem dL_law_686 : decode cL_law 686 = .ok (.iconst 5, 1) := @dq_o8 cL_law 686 (qL_law_42 14 8 rfl)
theorem dL_law_687 : decode cL_law 687 = .ok (.iadd, 1) := @dq_o96 cL_law 687 (qL_law_42 15 96 rfl)
theorem dL_law_688 : decode cL_law 688 = .ok (.iaload, 1) := @dq_o46 cL_law 688 (qL_law_43 0 46 rfl)
theorem dL_law_689 : decode cL_law 689 = .ok (.invokevirtual 65, 3) := @dq_o182 cL_law 689 0 65 (qL_law_43 1 182 rfl) (qL_law_43 2 0 rfl) (qL_law_43 3 65 rfl)
theorem dL_law_692 : decode cL_law 692 = .ok (.pop, 1) := @dq_o87 cL_law 692 (qL_law_43 4 87 rfl)
theorem dL_law_693 : decode cL_law 693 = .ok (.goto 622, 3) := @dq_o167 cL_law 693 2 110 (qL_law_43 5 167 rfl) (qL_law_43 6 2 rfl) (qL_law_43 7 110 rfl)
theorem dL_law_696 : decode cL_law 696 = .ok (.aload_n 1, 1) := @dq_o43 cL_law 696 (qL_law_43 8 43 rfl)
theorem dL_law_697 : decode cL_law 697 = .ok (.aload_n 0, 1) := @dq_o42 cL_law 697 (qL_law_43 9 42 rfl)
theorem dL_law_698 : decode cL_law 698 = .ok (.iload_n 3, 1) := @dq_o29 cL_law 698 (qL_law_43 10 29 rfl)
theorem dL_law_699 : decode cL_law 699 = .ok (.iconst 1, 1) := @dq_o4 cL_law 699 (qL_law_43 11 4 rfl)
theorem dL_law_700 : decode cL_law 700 = .ok (.iadd, 1) := @dq_o96 cL_law 700 (qL_law_43 12 96 rfl)
theorem dL_law_701 : decode cL_law 701 = .ok (.iaload, 1) := @dq_o46 cL_law 701 (qL_law_43 13 46 rfl)
theorem dL_law_702 : decode cL_law 702 = .ok (.invokevirtual 66, 3) := @dq_o182 cL_law 702 0 66 (qL_law_43 14 182 rfl) (qL_law_43 15 0 rfl) (qL_law_44 0 66 rfl)
theorem dL_law_705 : decode cL_law 705 = .ok (.pop, 1) := @dq_o87 cL_law 705 (qL_law_44 1 87 rfl)
theorem dL_law_706 : decode cL_law 706 = .ok (.aload_n 2, 1) := @dq_o44 cL_law 706 (qL_law_44 2 44 rfl)
theorem dL_law_707 : decode cL_law 707 = .ok (.aload_n 0, 1) := @dq_o42 cL_law 707 (qL_law_44 3 42 rfl)
theorem dL_law_708 : decode cL_law 708 = .ok (.iload_n 3, 1) := @dq_o29 cL_law 708 (qL_law_44 4 29 rfl)
theorem dL_law_709 : decode cL_law 709 = .ok (.iconst 1, 1) := @dq_o4 cL_law 709 (qL_law_44 5 4 rfl)
theorem dL_law_710 : decode cL_law 710 = .ok (.iadd, 1) := @dq_o96 cL_law 710 (qL_law_44 6 96 rfl)
theorem dL_law_711 : decode cL_law 711 = .ok (.iaload, 1) := @dq_o46 cL_law 711 (qL_law_44 7 46 rfl)
theorem dL_law_712 : decode cL_law 712 = .ok (.invokevirtual 69, 3) := @dq_o182 cL_law 712 0 69 (qL_law_44 8 182 rfl) (qL_law_44 9 0 rfl) (qL_law_44 10 69 rfl)
theorem dL_law_715 : decode cL_law 715 = .ok (.pop, 1) := @dq_o87 cL_law 715 (qL_law_44 11 87 rfl)
theorem dL_law_716 : decode cL_law 716 = .ok (.goto 599, 3) := @dq_o167 cL_law 716 2 87 (qL_law_44 12 167 rfl) (qL_law_44 13 2 rfl) (qL_law_44 14 87 rfl)
theorem dL_law_719 : decode cL_law 719 = .ok (.aload_n 1, 1) := @dq_o43 cL_law 719 (qL_law_44 15 43 rfl)
theorem dL_law_720 : decode cL_law 720 = .ok (.aload_n 0, 1) := @dq_o42 cL_law 720 (qL_law_45 0 42 rfl)
theorem dL_law_721 : decode cL_law 721 = .ok (.iload_n 3, 1) := @dq_o29 cL_law 721 (qL_law_45 1 29 rfl)
theorem dL_law_722 : decode cL_law 722 = .ok (.iconst 1, 1) := @dq_o4 cL_law 722 (qL_law_45 2 4 rfl)
theorem dL_law_723 : decode cL_law 723 = .ok (.iadd, 1) := @dq_o96 cL_law 723 (qL_law_45 3 96 rfl)
theorem dL_law_724 : decode cL_law 724 = .ok (.iaload, 1) := @dq_o46 cL_law 724 (qL_law_45 4 46 rfl)
theorem dL_law_725 : decode cL_law 725 = .ok (.invokevirtual 70, 3) := @dq_o182 cL_law 725 0 70 (qL_law_45 5 182 rfl) (qL_law_45 6 0 rfl) (qL_law_45 7 70 rfl)
theorem dL_law_728 : decode cL_law 728 = .ok (.pop, 1) := @dq_o87 cL_law 728 (qL_law_45 8 87 rfl)
theorem dL_law_729 : decode cL_law 729 = .ok (.aload_n 2, 1) := @dq_o44 cL_law 729 (qL_law_45 9 44 rfl)
theorem dL_law_730 : decode cL_law 730 = .ok (.aload_n 0, 1) := @dq_o42 cL_law 730 (qL_law_45 10 42 rfl)
theorem dL_law_731 : decode cL_law 731 = .ok (.iload_n 3, 1) := @dq_o29 cL_law 731 (qL_law_45 11 29 rfl)
theorem dL_law_732 : decode cL_law 732 = .ok (.iconst 1, 1) := @dq_o4 cL_law 732 (qL_law_45 12 4 rfl)
theorem dL_law_733 : decode cL_law 733 = .ok (.iadd, 1) := @dq_o96 cL_law 733 (qL_law_45 13 96 rfl)
theorem dL_law_734 : decode cL_law 734 = .ok (.iaload, 1) := @dq_o46 cL_law 734 (qL_law_45 14 46 rfl)
theorem dL_law_735 : decode cL_law 735 = .ok (.invokevirtual 73, 3) := @dq_o182 cL_law 735 0 73 (qL_law_45 15 182 rfl) (qL_law_46 0 0 rfl) (qL_law_46 1 73 rfl)
theorem dL_law_738 : decode cL_law 738 = .ok (.pop, 1) := @dq_o87 cL_law 738 (qL_law_46 2 87 rfl)
theorem dL_law_739 : decode cL_law 739 = .ok (.goto 576, 3) := @dq_o167 cL_law 739 2 64 (qL_law_46 3 167 rfl) (qL_law_46 4 2 rfl) (qL_law_46 5 64 rfl)
theorem dL_law_742 : decode cL_law 742 = .ok (.aload_n 1, 1) := @dq_o43 cL_law 742 (qL_law_46 6 43 rfl)
theorem dL_law_743 : decode cL_law 743 = .ok (.aload_n 0, 1) := @dq_o42 cL_law 743 (qL_law_46 7 42 rfl)
theorem dL_law_744 : decode cL_law 744 = .ok (.iload_n 3, 1) := @dq_o29 cL_law 744 (qL_law_46 8 29 rfl)
theorem dL_law_745 : decode cL_law 745 = .ok (.iconst 1, 1) := @dq_o4 cL_law 745 (qL_law_46 9 4 rfl)
theorem dL_law_746 : decode cL_law 746 = .ok (.iadd, 1) := @dq_o96 cL_law 746 (qL_law_46 10 96 rfl)
theorem dL_law_747 : decode cL_law 747 = .ok (.iaload, 1) := @dq_o46 cL_law 747 (qL_law_46 11 46 rfl)
theorem dL_law_748 : decode cL_law 748 = .ok (.invokevirtual 74, 3) := @dq_o182 cL_law 748 0 74 (qL_law_46 12 182 rfl) (qL_law_46 13 0 rfl) (qL_law_46 14 74 rfl)
theorem dL_law_751 : decode cL_law 751 = .ok (.pop, 1) := @dq_o87 cL_law 751 (qL_law_46 15 87 rfl)
theorem dL_law_752 : decode cL_law 752 = .ok (.aload_n 2, 1) := @dq_o44 cL_law 752 (qL_law_47 0 44 rfl)
theorem dL_law_753 : decode cL_law 753 = .ok (.aload_n 0, 1) := @dq_o42 cL_law 753 (qL_law_47 1 42 rfl)
theorem dL_law_754 : decode cL_law 754 = .ok (.iload_n 3, 1) := @dq_o29 cL_law 754 (qL_law_47 2 29 rfl)
theorem dL_law_755 : decode cL_law 755 = .ok (.iconst 1, 1) := @dq_o4 cL_law 755 (qL_law_47 3 4 rfl)
theorem dL_law_756 : decode cL_law 756 = .ok (.iadd, 1) := @dq_o96 cL_law 756 (qL_law_47 4 96 rfl)
theorem dL_law_757 : decode cL_law 757 = .ok (.iaload, 1) := @dq_o46 cL_law 757 (qL_law_47 5 46 rfl)
theorem dL_law_758 : decode cL_law 758 = .ok (.invokevirtual 78, 3) := @dq_o182 cL_law 758 0 78 (qL_law_47 6 182 rfl) (qL_law_47 7 0 rfl) (qL_law_47 8 78 rfl)
theorem dL_law_761 : decode cL_law 761 = .ok (.pop, 1) := @dq_o87 cL_law 761 (qL_law_47 9 87 rfl)
theorem dL_law_762 : decode cL_law 762 = .ok (.goto 553, 3) := @dq_o167 cL_law 762 2 41 (qL_law_47 10 167 rfl) (qL_law_47 11 2 rfl) (qL_law_47 12 41 rfl)
theorem dL_law_765 : decode cL_law 765 = .ok (.aload_n 1, 1) := @dq_o43 cL_law 765 (qL_law_47 13 43 rfl)
theorem dL_law_766 : decode cL_law 766 = .ok (.invokevirtual 79, 3) := @dq_o182 cL_law 766 0 79 (qL_law_47 14 182 rfl) (qL_law_47 15 0 rfl) (qL_law_48 0 79 rfl)
theorem dL_law_769 : decode cL_law 769 = .ok (.pop, 1) := @dq_o87 cL_law 769 (qL_law_48 1 87 rfl)
theorem dL_law_770 : decode cL_law 770 = .ok (.aload_n 2, 1) := @dq_o44 cL_law 770 (qL_law_48 2 44 rfl)
theorem dL_law_771 : decode cL_law 771 = .ok (.invokevirtual 83, 3) := @dq_o182 cL_law 771 0 83 (qL_law_48 3 182 rfl) (qL_law_48 4 0 rfl) (qL_law_48 5 83 rfl)
theorem dL_law_774 : decode cL_law 774 = .ok (.pop, 1) := @dq_o87 cL_law 774 (qL_law_48 6 87 rfl)
theorem dL_law_775 : decode cL_law 775 = .ok (.goto 540, 3) := @dq_o167 cL_law 775 2 28 (qL_law_48 7 167 rfl) (qL_law_48 8 2 rfl) (qL_law_48 9 28 rfl)
theorem dL_law_778 : decode cL_law 778 = .ok (.aload_n 1, 1) := @dq_o43 cL_law 778 (qL_law_48 10 43 rfl)
theorem dL_law_779 : decode cL_law 779 = .ok (.aload_n 0, 1) := @dq_o42 cL_law 779 (qL_law_48 11 42 rfl)
theorem dL_law_780 : decode cL_law 780 = .ok (.iload_n 3, 1) := @dq_o29 cL_law 780 (qL_law_48 12 29 rfl)
theorem dL_law_781 : decode cL_law 781 = .ok (.iconst 1, 1) := @dq_o4 cL_law 781 (qL_law_48 13 4 rfl)
theorem dL_law_782 : decode cL_law 782 = .ok (.iadd, 1) := @dq_o96 cL_law 782 (qL_law_48 14 96 rfl)
theorem dL_law_783 : decode cL_law 783 = .ok (.iaload, 1) := @dq_o46 cL_law 783 (qL_law_48 15 46 rfl)
theorem dL_law_784 : decode cL_law 784 = .ok (.invokevirtual 84, 3) := @dq_o182 cL_law 784 0 84 (qL_law_49 0 182 rfl) (qL_law_49 1 0 rfl) (qL_law_49 2 84 rfl)
theorem dL_law_787 : decode cL_law 787 = .ok (.pop, 1) := @dq_o87 cL_law 787 (qL_law_49 3 87 rfl)
theorem dL_law_788 : decode cL_law 788 = .ok (.aload_n 2, 1) := @dq_o44 cL_law 788 (qL_law_49 4 44 rfl)
theorem dL_law_789 : decode cL_law 789 = .ok (.aload_n 0, 1) := @dq_o42 cL_law 789 (qL_law_49 5 42 rfl)
theorem dL_law_790 : decode cL_law 790 = .ok (.iload_n 3, 1) := @dq_o29 cL_law 790 (qL_law_49 6 29 rfl)
theorem dL_law_791 : decode cL_law 791 = .ok (.iconst 1, 1) := @dq_o4 cL_law 791 (qL_law_49 7 4 rfl)
theorem dL_law_792 : decode cL_law 792 = .ok (.iadd, 1) := @dq_o96 cL_law 792 (qL_law_49 8 96 rfl)
theorem dL_law_793 : decode cL_law 793 = .ok (.iaload, 1) := @dq_o46 cL_law 793 (qL_law_49 9 46 rfl)
theorem dL_law_794 : decode cL_law 794 = .ok (.invokevirtual 87, 3) := @dq_o182 cL_law 794 0 87 (qL_law_49 10 182 rfl) (qL_law_49 11 0 rfl) (qL_law_49 12 87 rfl)
theorem dL_law_797 : decode cL_law 797 = .ok (.pop, 1) := @dq_o87 cL_law 797 (qL_law_49 13 87 rfl)
theorem dL_law_798 : decode cL_law 798 = .ok (.goto 517, 3) := @dq_o167 cL_law 798 2 5 (qL_law_49 14 167 rfl) (qL_law_49 15 2 rfl) (qL_law_50 0 5 rfl)
theorem dL_law_801 : decode cL_law 801 = .ok (.aload_n 1, 1) := @dq_o43 cL_law 801 (qL_law_50 1 43 rfl)
theorem dL_law_802 : decode cL_law 802 = .ok (.invokevirtual 88, 3) := @dq_o182 cL_law 802 0 88 (qL_law_50 2 182 rfl) (qL_law_50 3 0 rfl) (qL_law_50 4 88 rfl)
theorem dL_law_805 : decode cL_law 805 = .ok (.pop, 1) := @dq_o87 cL_law 805 (qL_law_50 5 87 rfl)
theorem dL_law_806 : decode cL_law 806 = .ok (.aload_n 2, 1) := @dq_o44 cL_law 806 (qL_law_50 6 44 rfl)
theorem dL_law_807 : decode cL_law 807 = .ok (.invokevirtual 91, 3) := @dq_o182 cL_law 807 0 91 (qL_law_50 7 182 rfl) (qL_law_50 8 0 rfl) (qL_law_50 9 91 rfl)
theorem dL_law_810 : decode cL_law 810 = .ok (.pop, 1) := @dq_o87 cL_law 810 (qL_law_50 10 87 rfl)
theorem dL_law_811 : decode cL_law 811 = .ok (.goto 504, 3) := @dq_o167 cL_law 811 1 248 (qL_law_50 11 167 rfl) (qL_law_50 12 1 rfl) (qL_law_50 13 248 rfl)
theorem dL_law_814 : decode cL_law 814 = .ok (.aload_n 1, 1) := @dq_o43 cL_law 814 (qL_law_50 14 43 rfl)
theorem dL_law_815 : decode cL_law 815 = .ok (.aload_n 0, 1) := @dq_o42 cL_law 815 (qL_law_50 15 42 rfl)
theorem dL_law_816 : decode cL_law 816 = .ok (.iload_n 3, 1) := @dq_o29 cL_law 816 (qL_law_51 0 29 rfl)
theorem dL_law_817 : decode cL_law 817 = .ok (.iconst 1, 1) := @dq_o4 cL_law 817 (qL_law_51 1 4 rfl)
theorem dL_law_818 : decode cL_law 818 = .ok (.iadd, 1) := @dq_o96 cL_law 818 (qL_law_51 2 96 rfl)
theorem dL_law_819 : decode cL_law 819 = .ok (.iaload, 1) := @dq_o46 cL_law 819 (qL_law_51 3 46 rfl)
theorem dL_law_820 : decode cL_law 820 = .ok (.aload_n 0, 1) := @dq_o42 cL_law 820 (qL_law_51 4 42 rfl)
theorem dL_law_821 : decode cL_law 821 = .ok (.iload_n 3, 1) := @dq_o29 cL_law 821 (qL_law_51 5 29 rfl)
theorem dL_law_822 : decode cL_law 822 = .ok (.iconst 2, 1) := @dq_o5 cL_law 822 (qL_law_51 6 5 rfl)
theorem dL_law_823 : decode cL_law 823 = .ok (.iadd, 1) := @dq_o96 cL_law 823 (qL_law_51 7 96 rfl)
theorem dL_law_824 : decode cL_law 824 = .ok (.iaload, 1) := @dq_o46 cL_law 824 (qL_law_51 8 46 rfl)
theorem dL_law_825 : decode cL_law 825 = .ok (.invokevirtual 92, 3) := @dq_o182 cL_law 825 0 92 (qL_law_51 9 182 rfl) (qL_law_51 10 0 rfl) (qL_law_51 11 92 rfl)
theorem dL_law_828 : decode cL_law 828 = .ok (.pop, 1) := @dq_o87 cL_law 828 (qL_law_51 12 87 rfl)
theorem dL_law_829 : decode cL_law 829 = .ok (.aload_n 2, 1) := @dq_o44 cL_law 829 (qL_law_51 13 44 rfl)
theorem dL_law_830 : decode cL_law 830 = .ok (.aload_n 0, 1) := @dq_o42 cL_law 830 (qL_law_51 14 42 rfl)
theorem dL_law_831 : decode cL_law 831 = .ok (.iload_n 3, 1) := @dq_o29 cL_law 831 (qL_law_51 15 29 rfl)
theorem dL_law_832 : decode cL_law 832 = .ok (.iconst 1, 1) := @dq_o4 cL_law 832 (qL_law_52 0 4 rfl)
theorem dL_law_833 : decode cL_law 833 = .ok (.iadd, 1) := @dq_o96 cL_law 833 (qL_law_52 1 96 rfl)
theorem dL_law_834 : decode cL_law 834 = .ok (.iaload, 1) := @dq_o46 cL_law 834 (qL_law_52 2 46 rfl)
theorem dL_law_835 : decode cL_law 835 = .ok (.aload_n 0, 1) := @dq_o42 cL_law 835 (qL_law_52 3 42 rfl)
theorem dL_law_836 : decode cL_law 836 = .ok (.iload_n 3, 1) := @dq_o29 cL_law 836 (qL_law_52 4 29 rfl)
theorem dL_law_837 : decode cL_law 837 = .ok (.iconst 2, 1) := @dq_o5 cL_law 837 (qL_law_52 5 5 rfl)
theorem dL_law_838 : decode cL_law 838 = .ok (.iadd, 1) := @dq_o96 cL_law 838 (qL_law_52 6 96 rfl)
theorem dL_law_839 : decode cL_law 839 = .ok (.iaload, 1) := @dq_o46 cL_law 839 (qL_law_52 7 46 rfl)
theorem dL_law_840 : decode cL_law 840 = .ok (.invokevirtual 96, 3) := @dq_o182 cL_law 840 0 96 (qL_law_52 8 182 rfl) (qL_law_52 9 0 rfl) (qL_law_52 10 96 rfl)
theorem dL_law_843 : decode cL_law 843 = .ok (.pop, 1) := @dq_o87 cL_law 843 (qL_law_52 11 87 rfl)
theorem dL_law_844 : decode cL_law 844 = .ok (.goto 471, 3) := @dq_o167 cL_law 844 1 215 (qL_law_52 12 167 rfl) (qL_law_52 13 1 rfl) (qL_law_52 14 215 rfl)
theorem dL_law_847 : decode cL_law 847 = .ok (.aload_n 1, 1) := @dq_o43 cL_law 847 (qL_law_52 15 43 rfl)
theorem dL_law_848 : decode cL_law 848 = .ok (.aload_n 0, 1) := @dq_o42 cL_law 848 (qL_law_53 0 42 rfl)
theorem dL_law_849 : decode cL_law 849 = .ok (.iload_n 3, 1) := @dq_o29 cL_law 849 (qL_law_53 1 29 rfl)
theorem dL_law_850 : decode cL_law 850 = .ok (.iconst 1, 1) := @dq_o4 cL_law 850 (qL_law_53 2 4 rfl)
theorem dL_law_851 : decode cL_law 851 = .ok (.iadd, 1) := @dq_o96 cL_law 851 (qL_law_53 3 96 rfl)
theorem dL_law_852 : decode cL_law 852 = .ok (.iaload, 1) := @dq_o46 cL_law 852 (qL_law_53 4 46 rfl)
theorem dL_law_853 : decode cL_law 853 = .ok (.aload_n 0, 1) := @dq_o42 cL_law 853 (qL_law_53 5 42 rfl)
theorem dL_law_854 : decode cL_law 854 = .ok (.iload_n 3, 1) := @dq_o29 cL_law 854 (qL_law_53 6 29 rfl)
theorem dL_law_855 : decode cL_law 855 = .ok (.iconst 2, 1) := @dq_o5 cL_law 855 (qL_law_53 7 5 rfl)
theorem dL_law_856 : decode cL_law 856 = .ok (.iadd, 1) := @dq_o96 cL_law 856 (qL_law_53 8 96 rfl)
theorem dL_law_857 : decode cL_law 857 = .ok (.iaload, 1) := @dq_o46 cL_law 857 (qL_law_53 9 46 rfl)
theorem dL_law_858 : decode cL_law 858 = .ok (.invokevirtual 97, 3) := @dq_o182 cL_law 858 0 97 (qL_law_53 10 182 rfl) (qL_law_53 11 0 rfl) (qL_law_53 12 97 rfl)
theorem dL_law_861 : decode cL_law 861 = .ok (.pop, 1) := @dq_o87 cL_law 861 (qL_law_53 13 87 rfl)
theorem dL_law_862 : decode cL_law 862 = .ok (.aload_n 2, 1) := @dq_o44 cL_law 862 (qL_law_53 14 44 rfl)
theorem dL_law_863 : decode cL_law 863 = .ok (.aload_n 0, 1) := @dq_o42 cL_law 863 (qL_law_53 15 42 rfl)
theorem dL_law_864 : decode cL_law 864 = .ok (.iload_n 3, 1) := @dq_o29 cL_law 864 (qL_law_54 0 29 rfl)
theorem dL_law_865 : decode cL_law 865 = .ok (.iconst 1, 1) := @dq_o4 cL_law 865 (qL_law_54 1 4 rfl)
theorem dL_law_866 : decode cL_law 866 = .ok (.iadd, 1) := @dq_o96 cL_law 866 (qL_law_54 2 96 rfl)
theorem dL_law_867 : decode cL_law 867 = .ok (.iaload, 1) := @dq_o46 cL_law 867 (qL_law_54 3 46 rfl)
theorem dL_law_868 : decode cL_law 868 = .ok (.aload_n 0, 1) := @dq_o42 cL_law 868 (qL_law_54 4 42 rfl)
theorem dL_law_869 : decode cL_law 869 = .ok (.iload_n 3, 1) := @dq_o29 cL_law 869 (qL_law_54 5 29 rfl)
theorem dL_law_870 : decode cL_law 870 = .ok (.iconst 2, 1) := @dq_o5 cL_law 870 (qL_law_54 6 5 rfl)
theorem dL_law_871 : decode cL_law 871 = .ok (.iadd, 1) := @dq_o96 cL_law 871 (qL_law_54 7 96 rfl)
theorem dL_law_872 : decode cL_law 872 = .ok (.iaload, 1) := @dq_o46 cL_law 872 (qL_law_54 8 46 rfl)
theorem dL_law_873 : decode cL_law 873 = .ok (.invokevirtual 100, 3) := @dq_o182 cL_law 873 0 100 (qL_law_54 9 182 rfl) (qL_law_54 10 0 rfl) (qL_law_54 11 100 rfl)
theorem dL_law_876 : decode cL_law 876 = .ok (.pop, 1) := @dq_o87 cL_law 876 (qL_law_54 12 87 rfl)
theorem dL_law_877 : decode cL_law 877 = .ok (.goto 438, 3) := @dq_o167 cL_law 877 1 182 (qL_law_54 13 167 rfl) (qL_law_54 14 1 rfl) (qL_law_54 15 182 rfl)
theorem dL_law_880 : decode cL_law 880 = .ok (.aload_n 1, 1) := @dq_o43 cL_law 880 (qL_law_55 0 43 rfl)
theorem dL_law_881 : decode cL_law 881 = .ok (.aload_n 0, 1) := @dq_o42 cL_law 881 (qL_law_55 1 42 rfl)
theorem dL_law_882 : decode cL_law 882 = .ok (.iload_n 3, 1) := @dq_o29 cL_law 882 (qL_law_55 2 29 rfl)
theorem dL_law_883 : decode cL_law 883 = .ok (.iconst 1, 1) := @dq_o4 cL_law 883 (qL_law_55 3 4 rfl)
theorem dL_law_884 : decode cL_law 884 = .ok (.iadd, 1) := @dq_o96 cL_law 884 (qL_law_55 4 96 rfl)
theorem dL_law_885 : decode cL_law 885 = .ok (.iaload, 1) := @dq_o46 cL_law 885 (qL_law_55 5 46 rfl)
theorem dL_law_886 : decode cL_law 886 = .ok (.aload_n 0, 1) := @dq_o42 cL_law 886 (qL_law_55 6 42 rfl)
theorem dL_law_887 : decode cL_law 887 = .ok (.iload_n 3, 1) := @dq_o29 cL_law 887 (qL_law_55 7 29 rfl)
theorem dL_law_888 : decode cL_law 888 = .ok (.iconst 2, 1) := @dq_o5 cL_law 888 (qL_law_55 8 5 rfl)
theorem dL_law_889 : decode cL_law 889 = .ok (.iadd, 1) := @dq_o96 cL_law 889 (qL_law_55 9 96 rfl)
theorem dL_law_890 : decode cL_law 890 = .ok (.iaload, 1) := @dq_o46 cL_law 890 (qL_law_55 10 46 rfl)
theorem dL_law_891 : decode cL_law 891 = .ok (.aload_n 0, 1) := @dq_o42 cL_law 891 (qL_law_55 11 42 rfl)
theorem dL_law_892 : decode cL_law 892 = .ok (.iload_n 3, 1) := @dq_o29 cL_law 892 (qL_law_55 12 29 rfl)
theorem dL_law_893 : decode cL_law 893 = .ok (.iconst 3, 1) := @dq_o6 cL_law 893 (qL_law_55 13 6 rfl)
theorem dL_law_894 : decode cL_law 894 = .ok (.iadd, 1) := @dq_o96 cL_law 894 (qL_law_55 14 96 rfl)
theorem dL_law_895 : decode cL_law 895 = .ok (.iaload, 1) := @dq_o46 cL_law 895 (qL_law_55 15 46 rfl)
theorem dL_law_896 : decode cL_law 896 = .ok (.invokevirtual 101, 3) := @dq_o182 cL_law 896 0 101 (qL_law_56 0 182 rfl) (qL_law_56 1 0 rfl) (qL_law_56 2 101 rfl)
theorem dL_law_899 : decode cL_law 899 = .ok (.pop, 1) := @dq_o87 cL_law 899 (qL_law_56 3 87 rfl)
theorem dL_law_900 : decode cL_law 900 = .ok (.aload_n 2, 1) := @dq_o44 cL_law 900 (qL_law_56 4 44 rfl)
theorem dL_law_901 : decode cL_law 901 = .ok (.aload_n 0, 1) := @dq_o42 cL_law 901 (qL_law_56 5 42 rfl)
theorem dL_law_902 : decode cL_law 902 = .ok (.iload_n 3, 1) := @dq_o29 cL_law 902 (qL_law_56 6 29 rfl)
theorem dL_law_903 : decode cL_law 903 = .ok (.iconst 1, 1) := @dq_o4 cL_law 903 (qL_law_56 7 4 rfl)
theorem dL_law_904 : decode cL_law 904 = .ok (.iadd, 1) := @dq_o96 cL_law 904 (qL_law_56 8 96 rfl)
theorem dL_law_905 : decode cL_law 905 = .ok (.iaload, 1) := @dq_o46 cL_law 905 (qL_law_56 9 46 rfl)
theorem dL_law_906 : decode cL_law 906 = .ok (.aload_n 0, 1) := @dq_o42 cL_law 906 (qL_law_56 10 42 rfl)
theorem dL_law_907 : decode cL_law 907 = .ok (.iload_n 3, 1) := @dq_o29 cL_law 907 (qL_law_56 11 29 rfl)
theorem dL_law_908 : decode cL_law 908 = .ok (.iconst 2, 1) := @dq_o5 cL_law 908 (qL_law_56 12 5 rfl)
theorem dL_law_909 : decode cL_law 909 = .ok (.iadd, 1) := @dq_o96 cL_law 909 (qL_law_56 13 96 rfl)
theorem dL_law_910 : decode cL_law 910 = .ok (.iaload, 1) := @dq_o46 cL_law 910 (qL_law_56 14 46 rfl)
theorem dL_law_911 : decode cL_law 911 = .ok (.aload_n 0, 1) := @dq_o42 cL_law 911 (qL_law_56 15 42 rfl)
theorem dL_law_912 : decode cL_law 912 = .ok (.iload_n 3, 1) := @dq_o29 cL_law 912 (qL_law_57 0 29 rfl)
theorem dL_law_913 : decode cL_law 913 = .ok (.iconst 3, 1) := @dq_o6 cL_law 913 (qL_law_57 1 6 rfl)
theorem dL_law_914 : decode cL_law 914 = .ok (.iadd, 1) := @dq_o96 cL_law 914 (qL_law_57 2 96 rfl)
theorem dL_law_915 : decode cL_law 915 = .ok (.iaload, 1) := @dq_o46 cL_law 915 (qL_law_57 3 46 rfl)
theorem dL_law_916 : decode cL_law 916 = .ok (.invokevirtual 105, 3) := @dq_o182 cL_law 916 0 105 (qL_law_57 4 182 rfl) (qL_law_57 5 0 rfl) (qL_law_57 6 105 rfl)
theorem dL_law_919 : decode cL_law 919 = .ok (.pop, 1) := @dq_o87 cL_law 919 (qL_law_57 7 87 rfl)
theorem dL_law_920 : decode cL_law 920 = .ok (.goto 395, 3) := @dq_o167 cL_law 920 1 139 (qL_law_57 8 167 rfl) (qL_law_57 9 1 rfl) (qL_law_57 10 139 rfl)
theorem dL_law_923 : decode cL_law 923 = .ok (.aload_n 1, 1) := @dq_o43 cL_law 923 (qL_law_57 11 43 rfl)
theorem dL_law_924 : decode cL_law 924 = .ok (.aload_n 0, 1) := @dq_o42 cL_law 924 (qL_law_57 12 42 rfl)
theorem dL_law_925 : decode cL_law 925 = .ok (.iload_n 3, 1) := @dq_o29 cL_law 925 (qL_law_57 13 29 rfl)
theorem dL_law_926 : decode cL_law 926 = .ok (.iconst 1, 1) := @dq_o4 cL_law 926 (qL_law_57 14 4 rfl)
theorem dL_law_927 : decode cL_law 927 = .ok (.iadd, 1) := @dq_o96 cL_law 927 (qL_law_57 15 96 rfl)
theorem dL_law_928 : decode cL_law 928 = .ok (.iaload, 1) := @dq_o46 cL_law 928 (qL_law_58 0 46 rfl)
theorem dL_law_929 : decode cL_law 929 = .ok (.invokevirtual 106, 3) := @dq_o182 cL_law 929 0 106 (qL_law_58 1 182 rfl) (qL_law_58 2 0 rfl) (qL_law_58 3 106 rfl)
theorem dL_law_932 : decode cL_law 932 = .ok (.pop, 1) := @dq_o87 cL_law 932 (qL_law_58 4 87 rfl)
theorem dL_law_933 : decode cL_law 933 = .ok (.aload_n 2, 1) := @dq_o44 cL_law 933 (qL_law_58 5 44 rfl)
theorem dL_law_934 : decode cL_law 934 = .ok (.aload_n 0, 1) := @dq_o42 cL_law 934 (qL_law_58 6 42 rfl)
theorem dL_law_935 : decode cL_law 935 = .ok (.iload_n 3, 1) := @dq_o29 cL_law 935 (qL_law_58 7 29 rfl)
theorem dL_law_936 : decode cL_law 936 = .ok (.iconst 1, 1) := @dq_o4 cL_law 936 (qL_law_58 8 4 rfl)
theorem dL_law_937 : decode cL_law 937 = .ok (.iadd, 1) := @dq_o96 cL_law 937 (qL_law_58 9 96 rfl)
theorem dL_law_938 : decode cL_law 938 = .ok (.iaload, 1) := @dq_o46 cL_law 938 (qL_law_58 10 46 rfl)
theorem dL_law_939 : decode cL_law 939 = .ok (.invokevirtual 109, 3) := @dq_o182 cL_law 939 0 109 (qL_law_58 11 182 rfl) (qL_law_58 12 0 rfl) (qL_law_58 13 109 rfl)
theorem dL_law_942 : decode cL_law 942 = .ok (.pop, 1) := @dq_o87 cL_law 942 (qL_law_58 14 87 rfl)
theorem dL_law_943 : decode cL_law 943 = .ok (.goto 372, 3) := @dq_o167 cL_law 943 1 116 (qL_law_58 15 167 rfl) (qL_law_59 0 1 rfl) (qL_law_59 1 116 rfl)
theorem dL_law_946 : decode cL_law 946 = .ok (.aload_n 1, 1) := @dq_o43 cL_law 946 (qL_law_59 2 43 rfl)
theorem dL_law_947 : decode cL_law 947 = .ok (.aload_n 0, 1) := @dq_o42 cL_law 947 (qL_law_59 3 42 rfl)
theorem dL_law_948 : decode cL_law 948 = .ok (.iload_n 3, 1) := @dq_o29 cL_law 948 (qL_law_59 4 29 rfl)
theorem dL_law_949 : decode cL_law 949 = .ok (.iconst 1, 1) := @dq_o4 cL_law 949 (qL_law_59 5 4 rfl)
theorem dL_law_950 : decode cL_law 950 = .ok (.iadd, 1) := @dq_o96 cL_law 950 (qL_law_59 6 96 rfl)
theorem dL_law_951 : decode cL_law 951 = .ok (.iaload, 1) := @dq_o46 cL_law 951 (qL_law_59 7 46 rfl)
theorem dL_law_952 : decode cL_law 952 = .ok (.aload_n 0, 1) := @dq_o42 cL_law 952 (qL_law_59 8 42 rfl)
theorem dL_law_953 : decode cL_law 953 = .ok (.iload_n 3, 1) := @dq_o29 cL_law 953 (qL_law_59 9 29 rfl)
theorem dL_law_954 : decode cL_law 954 = .ok (.iconst 2, 1) := @dq_o5 cL_law 954 (qL_law_59 10 5 rfl)
theorem dL_law_955 : decode cL_law 955 = .ok (.iadd, 1) := @dq_o96 cL_law 955 (qL_law_59 11 96 rfl)
theorem dL_law_956 : decode cL_law 956 = .ok (.iaload, 1) := @dq_o46 cL_law 956 (qL_law_59 12 46 rfl)
theorem dL_law_957 : decode cL_law 957 = .ok (.aload_n 0, 1) := @dq_o42 cL_law 957 (qL_law_59 13 42 rfl)
theorem dL_law_958 : decode cL_law 958 = .ok (.iload_n 3, 1) := @dq_o29 cL_law 958 (qL_law_59 14 29 rfl)
theorem dL_law_959 : decode cL_law 959 = .ok (.iconst 3, 1) := @dq_o6 cL_law 959 (qL_law_59 15 6 rfl)
theorem dL_law_960 : decode cL_law 960 = .ok (.iadd, 1) := @dq_o96 cL_law 960 (qL_law_60 0 96 rfl)
theorem dL_law_961 : decode cL_law 961 = .ok (.iaload, 1) := @dq_o46 cL_law 961 (qL_law_60 1 46 rfl)
theorem dL_law_962 : decode cL_law 962 = .ok (.invokevirtual 110, 3) := @dq_o182 cL_law 962 0 110 (qL_law_60 2 182 rfl) (qL_law_60 3 0 rfl) (qL_law_60 4 110 rfl)
theorem dL_law_965 : decode cL_law 965 = .ok (.pop, 1) := @dq_o87 cL_law 965 (qL_law_60 5 87 rfl)
theorem dL_law_966 : decode cL_law 966 = .ok (.aload_n 2, 1) := @dq_o44 cL_law 966 (qL_law_60 6 44 rfl)
theorem dL_law_967 : decode cL_law 967 = .ok (.aload_n 0, 1) := @dq_o42 cL_law 967 (qL_law_60 7 42 rfl)
theorem dL_law_968 : decode cL_law 968 = .ok (.iload_n 3, 1) := @dq_o29 cL_law 968 (qL_law_60 8 29 rfl)
theorem dL_law_969 : decode cL_law 969 = .ok (.iconst 1, 1) := @dq_o4 cL_law 969 (qL_law_60 9 4 rfl)
theorem dL_law_970 : decode cL_law 970 = .ok (.iadd, 1) := @dq_o96 cL_law 970 (qL_law_60 10 96 rfl)
theorem dL_law_971 : decode cL_law 971 = .ok (.iaload, 1) := @dq_o46 cL_law 971 (qL_law_60 11 46 rfl)
theorem dL_law_972 : decode cL_law 972 = .ok (.aload_n 0, 1) := @dq_o42 cL_law 972 (qL_law_60 12 42 rfl)
theorem dL_law_973 : decode cL_law 973 = .ok (.iload_n 3, 1) := @dq_o29 cL_law 973 (qL_law_60 13 29 rfl)
theorem dL_law_974 : decode cL_law 974 = .ok (.iconst 2, 1) := @dq_o5 cL_law 974 (qL_law_60 14 5 rfl)
theorem dL_law_975 : decode cL_law 975 = .ok (.iadd, 1) := @dq_o96 cL_law 975 (qL_law_60 15 96 rfl)
theorem dL_law_976 : decode cL_law 976 = .ok (.iaload, 1) := @dq_o46 cL_law 976 (qL_law_61 0 46 rfl)
theorem dL_law_977 : decode cL_law 977 = .ok (.aload_n 0, 1) := @dq_o42 cL_law 977 (qL_law_61 1 42 rfl)
theorem dL_law_978 : decode cL_law 978 = .ok (.iload_n 3, 1) := @dq_o29 cL_law 978 (qL_law_61 2 29 rfl)
theorem dL_law_979 : decode cL_law 979 = .ok (.iconst 3, 1) := @dq_o6 cL_law 979 (qL_law_61 3 6 rfl)
theorem dL_law_980 : decode cL_law 980 = .ok (.iadd, 1) := @dq_o96 cL_law 980 (qL_law_61 4 96 rfl)
theorem dL_law_981 : decode cL_law 981 = .ok (.iaload, 1) := @dq_o46 cL_law 981 (qL_law_61 5 46 rfl)
theorem dL_law_982 : decode cL_law 982 = .ok (.invokevirtual 113, 3) := @dq_o182 cL_law 982 0 113 (qL_law_61 6 182 rfl) (qL_law_61 7 0 rfl) (qL_law_61 8 113 rfl)
theorem dL_law_985 : decode cL_law 985 = .ok (.pop, 1) := @dq_o87 cL_law 985 (qL_law_61 9 87 rfl)
theorem dL_law_986 : decode cL_law 986 = .ok (.goto 329, 3) := @dq_o167 cL_law 986 1 73 (qL_law_61 10 167 rfl) (qL_law_61 11 1 rfl) (qL_law_61 12 73 rfl)
theorem dL_law_989 : decode cL_law 989 = .ok (.aload_n 1, 1) := @dq_o43 cL_law 989 (qL_law_61 13 43 rfl)
theorem dL_law_990 : decode cL_law 990 = .ok (.aload_n 0, 1) := @dq_o42 cL_law 990 (qL_law_61 14 42 rfl)
theorem dL_law_991 : decode cL_law 991 = .ok (.iload_n 3, 1) := @dq_o29 cL_law 991 (qL_law_61 15 29 rfl)
theorem dL_law_992 : decode cL_law 992 = .ok (.iconst 1, 1) := @dq_o4 cL_law 992 (qL_law_62 0 4 rfl)
theorem dL_law_993 : decode cL_law 993 = .ok (.iadd, 1) := @dq_o96 cL_law 993 (qL_law_62 1 96 rfl)
theorem dL_law_994 : decode cL_law 994 = .ok (.iaload, 1) := @dq_o46 cL_law 994 (qL_law_62 2 46 rfl)
theorem dL_law_995 : decode cL_law 995 = .ok (.aload_n 0, 1) := @dq_o42 cL_law 995 (qL_law_62 3 42 rfl)
theorem dL_law_996 : decode cL_law 996 = .ok (.iload_n 3, 1) := @dq_o29 cL_law 996 (qL_law_62 4 29 rfl)
theorem dL_law_997 : decode cL_law 997 = .ok (.iconst 2, 1) := @dq_o5 cL_law 997 (qL_law_62 5 5 rfl)
theorem dL_law_998 : decode cL_law 998 = .ok (.iadd, 1) := @dq_o96 cL_law 998 (qL_law_62 6 96 rfl)
theorem dL_law_999 : decode cL_law 999 = .ok (.iaload, 1) := @dq_o46 cL_law 999 (qL_law_62 7 46 rfl)
theorem dL_law_1000 : decode cL_law 1000 = .ok (.invokevirtual 114, 3) := @dq_o182 cL_law 1000 0 114 (qL_law_62 8 182 rfl) (qL_law_62 9 0 rfl) (qL_law_62 10 114 rfl)
theorem dL_law_1003 : decode cL_law 1003 = .ok (.pop, 1) := @dq_o87 cL_law 1003 (qL_law_62 11 87 rfl)
theorem dL_law_1004 : decode cL_law 1004 = .ok (.aload_n 2, 1) := @dq_o44 cL_law 1004 (qL_law_62 12 44 rfl)
theorem dL_law_1005 : decode cL_law 1005 = .ok (.aload_n 0, 1) := @dq_o42 cL_law 1005 (qL_law_62 13 42 rfl)
theorem dL_law_1006 : decode cL_law 1006 = .ok (.iload_n 3, 1) := @dq_o29 cL_law 1006 (qL_law_62 14 29 rfl)
theorem dL_law_1007 : decode cL_law 1007 = .ok (.iconst 1, 1) := @dq_o4 cL_law 1007 (qL_law_62 15 4 rfl)
theorem dL_law_1008 : decode cL_law 1008 = .ok (.iadd, 1) := @dq_o96 cL_law 1008 (qL_law_63 0 96 rfl)
theorem dL_law_1009 : decode cL_law 1009 = .ok (.iaload, 1) := @dq_o46 cL_law 1009 (qL_law_63 1 46 rfl)
theorem dL_law_1010 : decode cL_law 1010 = .ok (.aload_n 0, 1) := @dq_o42 cL_law 1010 (qL_law_63 2 42 rfl)
theorem dL_law_1011 : decode cL_law 1011 = .ok (.iload_n 3, 1) := @dq_o29 cL_law 1011 (qL_law_63 3 29 rfl)
theorem dL_law_1012 : decode cL_law 1012 = .ok (.iconst 2, 1) := @dq_o5 cL_law 1012 (qL_law_63 4 5 rfl)
theorem dL_law_1013 : decode cL_law 1013 = .ok (.iadd, 1) := @dq_o96 cL_law 1013 (qL_law_63 5 96 rfl)
theorem dL_law_1014 : decode cL_law 1014 = .ok (.iaload, 1) := @dq_o46 cL_law 1014 (qL_law_63 6 46 rfl)
theorem dL_law_1015 : decode cL_law 1015 = .ok (.invokevirtual 117, 3) := @dq_o182 cL_law 1015 0 117 (qL_law_63 7 182 rfl) (qL_law_63 8 0 rfl) (qL_law_63 9 117 rfl)
theorem dL_law_1018 : decode cL_law 1018 = .ok (.pop, 1) := @dq_o87 cL_law 1018 (qL_law_63 10 87 rfl)
theorem dL_law_1019 : decode cL_law 1019 = .ok (.goto 296, 3) := @dq_o167 cL_law 1019 1 40 (qL_law_63 11 167 rfl) (qL_law_63 12 1 rfl) (qL_law_63 13 40 rfl)
theorem dL_law_1022 : decode cL_law 1022 = .ok (.aload_n 1, 1) := @dq_o43 cL_law 1022 (qL_law_63 14 43 rfl)
theorem dL_law_1023 : decode cL_law 1023 = .ok (.aload_n 0, 1) := @dq_o42 cL_law 1023 (qL_law_63 15 42 rfl)
theorem dL_law_1024 : decode cL_law 1024 = .ok (.iload_n 3, 1) := @dq_o29 cL_law 1024 (qL_law_64 0 29 rfl)
theorem dL_law_1025 : decode cL_law 1025 = .ok (.iconst 1, 1) := @dq_o4 cL_law 1025 (qL_law_64 1 4 rfl)
theorem dL_law_1026 : decode cL_law 1026 = .ok (.iadd, 1) := @dq_o96 cL_law 1026 (qL_law_64 2 96 rfl)
theorem dL_law_1027 : decode cL_law 1027 = .ok (.iaload, 1) := @dq_o46 cL_law 1027 (qL_law_64 3 46 rfl)
theorem dL_law_1028 : decode cL_law 1028 = .ok (.aload_n 0, 1) := @dq_o42 cL_law 1028 (qL_law_64 4 42 rfl)
theorem dL_law_1029 : decode cL_law 1029 = .ok (.iload_n 3, 1) := @dq_o29 cL_law 1029 (qL_law_64 5 29 rfl)
theorem dL_law_1030 : decode cL_law 1030 = .ok (.iconst 2, 1) := @dq_o5 cL_law 1030 (qL_law_64 6 5 rfl)
theorem dL_law_1031 : decode cL_law 1031 = .ok (.iadd, 1) := @dq_o96 cL_law 1031 (qL_law_64 7 96 rfl)
theorem dL_law_1032 : decode cL_law 1032 = .ok (.iaload, 1) := @dq_o46 cL_law 1032 (qL_law_64 8 46 rfl)
theorem dL_law_1033 : decode cL_law 1033 = .ok (.aload_n 0, 1) := @dq_o42 cL_law 1033 (qL_law_64 9 42 rfl)
theorem dL_law_1034 : decode cL_law 1034 = .ok (.iload_n 3, 1) := @dq_o29 cL_law 1034 (qL_law_64 10 29 rfl)
theorem dL_law_1035 : decode cL_law 1035 = .ok (.iconst 3, 1) := @dq_o6 cL_law 1035 (qL_law_64 11 6 rfl)
theorem dL_law_1036 : decode cL_law 1036 = .ok (.iadd, 1) := @dq_o96 cL_law 1036 (qL_law_64 12 96 rfl)
theorem dL_law_1037 : decode cL_law 1037 = .ok (.iaload, 1) := @dq_o46 cL_law 1037 (qL_law_64 13 46 rfl)
theorem dL_law_1038 : decode cL_law 1038 = .ok (.invokevirtual 118, 3) := @dq_o182 cL_law 1038 0 118 (qL_law_64 14 182 rfl) (qL_law_64 15 0 rfl) (qL_law_65 0 118 rfl)
theorem dL_law_1041 : decode cL_law 1041 = .ok (.pop, 1) := @dq_o87 cL_law 1041 (qL_law_65 1 87 rfl)
theorem dL_law_1042 : decode cL_law 1042 = .ok (.aload_n 2, 1) := @dq_o44 cL_law 1042 (qL_law_65 2 44 rfl)
theorem dL_law_1043 : decode cL_law 1043 = .ok (.aload_n 0, 1) := @dq_o42 cL_law 1043 (qL_law_65 3 42 rfl)
theorem dL_law_1044 : decode cL_law 1044 = .ok (.iload_n 3, 1) := @dq_o29 cL_law 1044 (qL_law_65 4 29 rfl)
theorem dL_law_1045 : decode cL_law 1045 = .ok (.iconst 1, 1) := @dq_o4 cL_law 1045 (qL_law_65 5 4 rfl)
theorem dL_law_1046 : decode cL_law 1046 = .ok (.iadd, 1) := @dq_o96 cL_law 1046 (qL_law_65 6 96 rfl)
theorem dL_law_1047 : decode cL_law 1047 = .ok (.iaload, 1) := @dq_o46 cL_law 1047 (qL_law_65 7 46 rfl)
theorem dL_law_1048 : decode cL_law 1048 = .ok (.aload_n 0, 1) := @dq_o42 cL_law 1048 (qL_law_65 8 42 rfl)
theorem dL_law_1049 : decode cL_law 1049 = .ok (.iload_n 3, 1) := @dq_o29 cL_law 1049 (qL_law_65 9 29 rfl)
theorem dL_law_1050 : decode cL_law 1050 = .ok (.iconst 2, 1) := @dq_o5 cL_law 1050 (qL_law_65 10 5 rfl)
theorem dL_law_1051 : decode cL_law 1051 = .ok (.iadd, 1) := @dq_o96 cL_law 1051 (qL_law_65 11 96 rfl)
theorem dL_law_1052 : decode cL_law 1052 = .ok (.iaload, 1) := @dq_o46 cL_law 1052 (qL_law_65 12 46 rfl)
theorem dL_law_1053 : decode cL_law 1053 = .ok (.aload_n 0, 1) := @dq_o42 cL_law 1053 (qL_law_65 13 42 rfl)
theorem dL_law_1054 : decode cL_law 1054 = .ok (.iload_n 3, 1) := @dq_o29 cL_law 1054 (qL_law_65 14 29 rfl)
theorem dL_law_1055 : decode cL_law 1055 = .ok (.iconst 3, 1) := @dq_o6 cL_law 1055 (qL_law_65 15 6 rfl)
theorem dL_law_1056 : decode cL_law 1056 = .ok (.iadd, 1) := @dq_o96 cL_law 1056 (qL_law_66 0 96 rfl)
theorem dL_law_1057 : decode cL_law 1057 = .ok (.iaload, 1) := @dq_o46 cL_law 1057 (qL_law_66 1 46 rfl)
theorem dL_law_1058 : decode cL_law 1058 = .ok (.invokevirtual 121, 3) := @dq_o182 cL_law 1058 0 121 (qL_law_66 2 182 rfl) (qL_law_66 3 0 rfl) (qL_law_66 4 121 rfl)
theorem dL_law_1061 : decode cL_law 1061 = .ok (.pop, 1) := @dq_o87 cL_law 1061 (qL_law_66 5 87 rfl)
theorem dL_law_1062 : decode cL_law 1062 = .ok (.goto 253, 3) := @dq_o167 cL_law 1062 0 253 (qL_law_66 6 167 rfl) (qL_law_66 7 0 rfl) (qL_law_66 8 253 rfl)
theorem dL_law_1065 : decode cL_law 1065 = .ok (.aload_n 1, 1) := @dq_o43 cL_law 1065 (qL_law_66 9 43 rfl)
theorem dL_law_1066 : decode cL_law 1066 = .ok (.aload_n 0, 1) := @dq_o42 cL_law 1066 (qL_law_66 10 42 rfl)
theorem dL_law_1067 : decode cL_law 1067 = .ok (.iload_n 3, 1) := @dq_o29 cL_law 1067 (qL_law_66 11 29 rfl)
theorem dL_law_1068 : decode cL_law 1068 = .ok (.iconst 1, 1) := @dq_o4 cL_law 1068 (qL_law_66 12 4 rfl)
theorem dL_law_1069 : decode cL_law 1069 = .ok (.iadd, 1) := @dq_o96 cL_law 1069 (qL_law_66 13 96 rfl)
theorem dL_law_1070 : decode cL_law 1070 = .ok (.iaload, 1) := @dq_o46 cL_law 1070 (qL_law_66 14 46 rfl)
theorem dL_law_1071 : decode cL_law 1071 = .ok (.aload_n 0, 1) := @dq_o42 cL_law 1071 (qL_law_66 15 42 rfl)
theorem dL_law_1072 : decode cL_law 1072 = .ok (.iload_n 3, 1) := @dq_o29 cL_law 1072 (qL_law_67 0 29 rfl)
theorem dL_law_1073 : decode cL_law 1073 = .ok (.iconst 2, 1) := @dq_o5 cL_law 1073 (qL_law_67 1 5 rfl)
theorem dL_law_1074 : decode cL_law 1074 = .ok (.iadd, 1) := @dq_o96 cL_law 1074 (qL_law_67 2 96 rfl)
theorem dL_law_1075 : decode cL_law 1075 = .ok (.iaload, 1) := @dq_o46 cL_law 1075 (qL_law_67 3 46 rfl)
theorem dL_law_1076 : decode cL_law 1076 = .ok (.invokevirtual 122, 3) := @dq_o182 cL_law 1076 0 122 (qL_law_67 4 182 rfl) (qL_law_67 5 0 rfl) (qL_law_67 6 122 rfl)
theorem dL_law_1079 : decode cL_law 1079 = .ok (.pop, 1) := @dq_o87 cL_law 1079 (qL_law_67 7 87 rfl)
theorem dL_law_1080 : decode cL_law 1080 = .ok (.aload_n 2, 1) := @dq_o44 cL_law 1080 (qL_law_67 8 44 rfl)
theorem dL_law_1081 : decode cL_law 1081 = .ok (.aload_n 0, 1) := @dq_o42 cL_law 1081 (qL_law_67 9 42 rfl)
theorem dL_law_1082 : decode cL_law 1082 = .ok (.iload_n 3, 1) := @dq_o29 cL_law 1082 (qL_law_67 10 29 rfl)
theorem dL_law_1083 : decode cL_law 1083 = .ok (.iconst 1, 1) := @dq_o4 cL_law 1083 (qL_law_67 11 4 rfl)
theorem dL_law_1084 : decode cL_law 1084 = .ok (.iadd, 1) := @dq_o96 cL_law 1084 (qL_law_67 12 96 rfl)
theorem dL_law_1085 : decode cL_law 1085 = .ok (.iaload, 1) := @dq_o46 cL_law 1085 (qL_law_67 13 46 rfl)
theorem dL_law_1086 : decode cL_law 1086 = .ok (.aload_n 0, 1) := @dq_o42 cL_law 1086 (qL_law_67 14 42 rfl)
theorem dL_law_1087 : decode cL_law 1087 = .ok (.iload_n 3, 1) := @dq_o29 cL_law 1087 (qL_law_67 15 29 rfl)
theorem dL_law_1088 : decode cL_law 1088 = .ok (.iconst 2, 1) := @dq_o5 cL_law 1088 (qL_law_68 0 5 rfl)
theorem dL_law_1089 : decode cL_law 1089 = .ok (.iadd, 1) := @dq_o96 cL_law 1089 (qL_law_68 1 96 rfl)
theorem dL_law_1090 : decode cL_law 1090 = .ok (.iaload, 1) := @dq_o46 cL_law 1090 (qL_law_68 2 46 rfl)
theorem dL_law_1091 : decode cL_law 1091 = .ok (.invokevirtual 125, 3) := @dq_o182 cL_law 1091 0 125 (qL_law_68 3 182 rfl) (qL_law_68 4 0 rfl) (qL_law_68 5 125 rfl)
theorem dL_law_1094 : decode cL_law 1094 = .ok (.pop, 1) := @dq_o87 cL_law 1094 (qL_law_68 6 87 rfl)
theorem dL_law_1095 : decode cL_law 1095 = .ok (.goto 220, 3) := @dq_o167 cL_law 1095 0 220 (qL_law_68 7 167 rfl) (qL_law_68 8 0 rfl) (qL_law_68 9 220 rfl)
theorem dL_law_1098 : decode cL_law 1098 = .ok (.aload_n 1, 1) := @dq_o43 cL_law 1098 (qL_law_68 10 43 rfl)
theorem dL_law_1099 : decode cL_law 1099 = .ok (.aload_n 0, 1) := @dq_o42 cL_law 1099 (qL_law_68 11 42 rfl)
theorem dL_law_1100 : decode cL_law 1100 = .ok (.iload_n 3, 1) := @dq_o29 cL_law 1100 (qL_law_68 12 29 rfl)
theorem dL_law_1101 : decode cL_law 1101 = .ok (.iconst 1, 1) := @dq_o4 cL_law 1101 (qL_law_68 13 4 rfl)
theorem dL_law_1102 : decode cL_law 1102 = .ok (.iadd, 1) := @dq_o96 cL_law 1102 (qL_law_68 14 96 rfl)
theorem dL_law_1103 : decode cL_law 1103 = .ok (.iaload, 1) := @dq_o46 cL_law 1103 (qL_law_68 15 46 rfl)
theorem dL_law_1104 : decode cL_law 1104 = .ok (.aload_n 0, 1) := @dq_o42 cL_law 1104 (qL_law_69 0 42 rfl)
theorem dL_law_1105 : decode cL_law 1105 = .ok (.iload_n 3, 1) := @dq_o29 cL_law 1105 (qL_law_69 1 29 rfl)
theorem dL_law_1106 : decode cL_law 1106 = .ok (.iconst 2, 1) := @dq_o5 cL_law 1106 (qL_law_69 2 5 rfl)
theorem dL_law_1107 : decode cL_law 1107 = .ok (.iadd, 1) := @dq_o96 cL_law 1107 (qL_law_69 3 96 rfl)
theorem dL_law_1108 : decode cL_law 1108 = .ok (.iaload, 1) := @dq_o46 cL_law 1108 (qL_law_69 4 46 rfl)
theorem dL_law_1109 : decode cL_law 1109 = .ok (.invokevirtual 126, 3) := @dq_o182 cL_law 1109 0 126 (qL_law_69 5 182 rfl) (qL_law_69 6 0 rfl) (qL_law_69 7 126 rfl)
theorem dL_law_1112 : decode cL_law 1112 = .ok (.pop, 1) := @dq_o87 cL_law 1112 (qL_law_69 8 87 rfl)
theorem dL_law_1113 : decode cL_law 1113 = .ok (.aload_n 2, 1) := @dq_o44 cL_law 1113 (qL_law_69 9 44 rfl)
theorem dL_law_1114 : decode cL_law 1114 = .ok (.aload_n 0, 1) := @dq_o42 cL_law 1114 (qL_law_69 10 42 rfl)
theorem dL_law_1115 : decode cL_law 1115 = .ok (.iload_n 3, 1) := @dq_o29 cL_law 1115 (qL_law_69 11 29 rfl)
theorem dL_law_1116 : decode cL_law 1116 = .ok (.iconst 1, 1) := @dq_o4 cL_law 1116 (qL_law_69 12 4 rfl)
theorem dL_law_1117 : decode cL_law 1117 = .ok (.iadd, 1) := @dq_o96 cL_law 1117 (qL_law_69 13 96 rfl)
theorem dL_law_1118 : decode cL_law 1118 = .ok (.iaload, 1) := @dq_o46 cL_law 1118 (qL_law_69 14 46 rfl)
theorem dL_law_1119 : decode cL_law 1119 = .ok (.aload_n 0, 1) := @dq_o42 cL_law 1119 (qL_law_69 15 42 rfl)
theorem dL_law_1120 : decode cL_law 1120 = .ok (.iload_n 3, 1) := @dq_o29 cL_law 1120 (qL_law_70 0 29 rfl)
theorem dL_law_1121 : decode cL_law 1121 = .ok (.iconst 2, 1) := @dq_o5 cL_law 1121 (qL_law_70 1 5 rfl)
theorem dL_law_1122 : decode cL_law 1122 = .ok (.iadd, 1) := @dq_o96 cL_law 1122 (qL_law_70 2 96 rfl)
theorem dL_law_1123 : decode cL_law 1123 = .ok (.iaload, 1) := @dq_o46 cL_law 1123 (qL_law_70 3 46 rfl)
theorem dL_law_1124 : decode cL_law 1124 = .ok (.invokevirtual 129, 3) := @dq_o182 cL_law 1124 0 129 (qL_law_70 4 182 rfl) (qL_law_70 5 0 rfl) (qL_law_70 6 129 rfl)
theorem dL_law_1127 : decode cL_law 1127 = .ok (.pop, 1) := @dq_o87 cL_law 1127 (qL_law_70 7 87 rfl)
theorem dL_law_1128 : decode cL_law 1128 = .ok (.goto 187, 3) := @dq_o167 cL_law 1128 0 187 (qL_law_70 8 167 rfl) (qL_law_70 9 0 rfl) (qL_law_70 10 187 rfl)
theorem dL_law_1131 : decode cL_law 1131 = .ok (.aload_n 1, 1) := @dq_o43 cL_law 1131 (qL_law_70 11 43 rfl)
theorem dL_law_1132 : decode cL_law 1132 = .ok (.aload_n 0, 1) := @dq_o42 cL_law 1132 (qL_law_70 12 42 rfl)
theorem dL_law_1133 : decode cL_law 1133 = .ok (.iload_n 3, 1) := @dq_o29 cL_law 1133 (qL_law_70 13 29 rfl)
theorem dL_law_1134 : decode cL_law 1134 = .ok (.iconst 1, 1) := @dq_o4 cL_law 1134 (qL_law_70 14 4 rfl)
theorem dL_law_1135 : decode cL_law 1135 = .ok (.iadd, 1) := @dq_o96 cL_law 1135 (qL_law_70 15 96 rfl)
theorem dL_law_1136 : decode cL_law 1136 = .ok (.iaload, 1) := @dq_o46 cL_law 1136 (qL_law_71 0 46 rfl)
theorem dL_law_1137 : decode cL_law 1137 = .ok (.aload_n 0, 1) := @dq_o42 cL_law 1137 (qL_law_71 1 42 rfl)
theorem dL_law_1138 : decode cL_law 1138 = .ok (.iload_n 3, 1) := @dq_o29 cL_law 1138 (qL_law_71 2 29 rfl)
theorem dL_law_1139 : decode cL_law 1139 = .ok (.iconst 2, 1) := @dq_o5 cL_law 1139 (qL_law_71 3 5 rfl)
theorem dL_law_1140 : decode cL_law 1140 = .ok (.iadd, 1) := @dq_o96 cL_law 1140 (qL_law_71 4 96 rfl)
theorem dL_law_1141 : decode cL_law 1141 = .ok (.iaload, 1) := @dq_o46 cL_law 1141 (qL_law_71 5 46 rfl)
theorem dL_law_1142 : decode cL_law 1142 = .ok (.aload_n 0, 1) := @dq_o42 cL_law 1142 (qL_law_71 6 42 rfl)
theorem dL_law_1143 : decode cL_law 1143 = .ok (.iload_n 3, 1) := @dq_o29 cL_law 1143 (qL_law_71 7 29 rfl)
theorem dL_law_1144 : decode cL_law 1144 = .ok (.iconst 3, 1) := @dq_o6 cL_law 1144 (qL_law_71 8 6 rfl)
theorem dL_law_1145 : decode cL_law 1145 = .ok (.iadd, 1) := @dq_o96 cL_law 1145 (qL_law_71 9 96 rfl)
theorem dL_law_1146 : decode cL_law 1146 = .ok (.iaload, 1) := @dq_o46 cL_law 1146 (qL_law_71 10 46 rfl)
theorem dL_law_1147 : decode cL_law 1147 = .ok (.invokevirtual 130, 3) := @dq_o182 cL_law 1147 0 130 (qL_law_71 11 182 rfl) (qL_law_71 12 0 rfl) (qL_law_71 13 130 rfl)
theorem dL_law_1150 : decode cL_law 1150 = .ok (.pop2, 1) := @dq_o88 cL_law 1150 (qL_law_71 14 88 rfl)
theorem dL_law_1151 : decode cL_law 1151 = .ok (.aload_n 2, 1) := @dq_o44 cL_law 1151 (qL_law_71 15 44 rfl)
theorem dL_law_1152 : decode cL_law 1152 = .ok (.aload_n 0, 1) := @dq_o42 cL_law 1152 (qL_law_72 0 42 rfl)
theorem dL_law_1153 : decode cL_law 1153 = .ok (.iload_n 3, 1) := @dq_o29 cL_law 1153 (qL_law_72 1 29 rfl)
theorem dL_law_1154 : decode cL_law 1154 = .ok (.iconst 1, 1) := @dq_o4 cL_law 1154 (qL_law_72 2 4 rfl)
theorem dL_law_1155 : decode cL_law 1155 = .ok (.iadd, 1) := @dq_o96 cL_law 1155 (qL_law_72 3 96 rfl)
theorem dL_law_1156 : decode cL_law 1156 = .ok (.iaload, 1) := @dq_o46 cL_law 1156 (qL_law_72 4 46 rfl)
theorem dL_law_1157 : decode cL_law 1157 = .ok (.aload_n 0, 1) := @dq_o42 cL_law 1157 (qL_law_72 5 42 rfl)
theorem dL_law_1158 : decode cL_law 1158 = .ok (.iload_n 3, 1) := @dq_o29 cL_law 1158 (qL_law_72 6 29 rfl)
theorem dL_law_1159 : decode cL_law 1159 = .ok (.iconst 2, 1) := @dq_o5 cL_law 1159 (qL_law_72 7 5 rfl)
theorem dL_law_1160 : decode cL_law 1160 = .ok (.iadd, 1) := @dq_o96 cL_law 1160 (qL_law_72 8 96 rfl)
theorem dL_law_1161 : decode cL_law 1161 = .ok (.iaload, 1) := @dq_o46 cL_law 1161 (qL_law_72 9 46 rfl)
theorem dL_law_1162 : decode cL_law 1162 = .ok (.aload_n 0, 1) := @dq_o42 cL_law 1162 (qL_law_72 10 42 rfl)
theorem dL_law_1163 : decode cL_law 1163 = .ok (.iload_n 3, 1) := @dq_o29 cL_law 1163 (qL_law_72 11 29 rfl)
theorem dL_law_1164 : decode cL_law 1164 = .ok (.iconst 3, 1) := @dq_o6 cL_law 1164 (qL_law_72 12 6 rfl)
theorem dL_law_1165 : decode cL_law 1165 = .ok (.iadd, 1) := @dq_o96 cL_law 1165 (qL_law_72 13 96 rfl)
theorem dL_law_1166 : decode cL_law 1166 = .ok (.iaload, 1) := @dq_o46 cL_law 1166 (qL_law_72 14 46 rfl)
theorem dL_law_1167 : decode cL_law 1167 = .ok (.invokevirtual 134, 3) := @dq_o182 cL_law 1167 0 134 (qL_law_72 15 182 rfl) (qL_law_73 0 0 rfl) (qL_law_73 1 134 rfl)
theorem dL_law_1170 : decode cL_law 1170 = .ok (.pop2, 1) := @dq_o88 cL_law 1170 (qL_law_73 2 88 rfl)
theorem dL_law_1171 : decode cL_law 1171 = .ok (.goto 144, 3) := @dq_o167 cL_law 1171 0 144 (qL_law_73 3 167 rfl) (qL_law_73 4 0 rfl) (qL_law_73 5 144 rfl)
theorem dL_law_1174 : decode cL_law 1174 = .ok (.aload_n 1, 1) := @dq_o43 cL_law 1174 (qL_law_73 6 43 rfl)
theorem dL_law_1175 : decode cL_law 1175 = .ok (.aload_n 0, 1) := @dq_o42 cL_law 1175 (qL_law_73 7 42 rfl)
theorem dL_law_1176 : decode cL_law 1176 = .ok (.iload_n 3, 1) := @dq_o29 cL_law 1176 (qL_law_73 8 29 rfl)
theorem dL_law_1177 : decode cL_law 1177 = .ok (.iconst 1, 1) := @dq_o4 cL_law 1177 (qL_law_73 9 4 rfl)
theorem dL_law_1178 : decode cL_law 1178 = .ok (.iadd, 1) := @dq_o96 cL_law 1178 (qL_law_73 10 96 rfl)
theorem dL_law_1179 : decode cL_law 1179 = .ok (.iaload, 1) := @dq_o46 cL_law 1179 (qL_law_73 11 46 rfl)
theorem dL_law_1180 : decode cL_law 1180 = .ok (.aload_n 0, 1) := @dq_o42 cL_law 1180 (qL_law_73 12 42 rfl)
theorem dL_law_1181 : decode cL_law 1181 = .ok (.iload_n 3, 1) := @dq_o29 cL_law 1181 (qL_law_73 13 29 rfl)
theorem dL_law_1182 : decode cL_law 1182 = .ok (.iconst 2, 1) := @dq_o5 cL_law 1182 (qL_law_73 14 5 rfl)
theorem dL_law_1183 : decode cL_law 1183 = .ok (.iadd, 1) := @dq_o96 cL_law 1183 (qL_law_73 15 96 rfl)
theorem dL_law_1184 : decode cL_law 1184 = .ok (.iaload, 1) := @dq_o46 cL_law 1184 (qL_law_74 0 46 rfl)
theorem dL_law_1185 : decode cL_law 1185 = .ok (.aload_n 0, 1) := @dq_o42 cL_law 1185 (qL_law_74 1 42 rfl)
theorem dL_law_1186 : decode cL_law 1186 = .ok (.iload_n 3, 1) := @dq_o29 cL_law 1186 (qL_law_74 2 29 rfl)
theorem dL_law_1187 : decode cL_law 1187 = .ok (.iconst 3, 1) := @dq_o6 cL_law 1187 (qL_law_74 3 6 rfl)
theorem dL_law_1188 : decode cL_law 1188 = .ok (.iadd, 1) := @dq_o96 cL_law 1188 (qL_law_74 4 96 rfl)
theorem dL_law_1189 : decode cL_law 1189 = .ok (.iaload, 1) := @dq_o46 cL_law 1189 (qL_law_74 5 46 rfl)
theorem dL_law_1190 : decode cL_law 1190 = .ok (.invokevirtual 135, 3) := @dq_o182 cL_law 1190 0 135 (qL_law_74 6 182 rfl) (qL_law_74 7 0 rfl) (qL_law_74 8 135 rfl)
theorem dL_law_1193 : decode cL_law 1193 = .ok (.pop, 1) := @dq_o87 cL_law 1193 (qL_law_74 9 87 rfl)
theorem dL_law_1194 : decode cL_law 1194 = .ok (.aload_n 2, 1) := @dq_o44 cL_law 1194 (qL_law_74 10 44 rfl)
theorem dL_law_1195 : decode cL_law 1195 = .ok (.aload_n 0, 1) := @dq_o42 cL_law 1195 (qL_law_74 11 42 rfl)
theorem dL_law_1196 : decode cL_law 1196 = .ok (.iload_n 3, 1) := @dq_o29 cL_law 1196 (qL_law_74 12 29 rfl)
theorem dL_law_1197 : decode cL_law 1197 = .ok (.iconst 1, 1) := @dq_o4 cL_law 1197 (qL_law_74 13 4 rfl)
theorem dL_law_1198 : decode cL_law 1198 = .ok (.iadd, 1) := @dq_o96 cL_law 1198 (qL_law_74 14 96 rfl)
theorem dL_law_1199 : decode cL_law 1199 = .ok (.iaload, 1) := @dq_o46 cL_law 1199 (qL_law_74 15 46 rfl)
theorem dL_law_1200 : decode cL_law 1200 = .ok (.aload_n 0, 1) := @dq_o42 cL_law 1200 (qL_law_75 0 42 rfl)
theorem dL_law_1201 : decode cL_law 1201 = .ok (.iload_n 3, 1) := @dq_o29 cL_law 1201 (qL_law_75 1 29 rfl)
theorem dL_law_1202 : decode cL_law 1202 = .ok (.iconst 2, 1) := @dq_o5 cL_law 1202 (qL_law_75 2 5 rfl)
theorem dL_law_1203 : decode cL_law 1203 = .ok (.iadd, 1) := @dq_o96 cL_law 1203 (qL_law_75 3 96 rfl)
theorem dL_law_1204 : decode cL_law 1204 = .ok (.iaload, 1) := @dq_o46 cL_law 1204 (qL_law_75 4 46 rfl)
theorem dL_law_1205 : decode cL_law 1205 = .ok (.aload_n 0, 1) := @dq_o42 cL_law 1205 (qL_law_75 5 42 rfl)
theorem dL_law_1206 : decode cL_law 1206 = .ok (.iload_n 3, 1) := @dq_o29 cL_law 1206 (qL_law_75 6 29 rfl)
theorem dL_law_1207 : decode cL_law 1207 = .ok (.iconst 3, 1) := @dq_o6 cL_law 1207 (qL_law_75 7 6 rfl)
theorem dL_law_1208 : decode cL_law 1208 = .ok (.iadd, 1) := @dq_o96 cL_law 1208 (qL_law_75 8 96 rfl)
theorem dL_law_1209 : decode cL_law 1209 = .ok (.iaload, 1) := @dq_o46 cL_law 1209 (qL_law_75 9 46 rfl)
theorem dL_law_1210 : decode cL_law 1210 = .ok (.invokevirtual 138, 3) := @dq_o182 cL_law 1210 0 138 (qL_law_75 10 182 rfl) (qL_law_75 11 0 rfl) (qL_law_75 12 138 rfl)
theorem dL_law_1213 : decode cL_law 1213 = .ok (.pop, 1) := @dq_o87 cL_law 1213 (qL_law_75 13 87 rfl)
theorem dL_law_1214 : decode cL_law 1214 = .ok (.goto 101, 3) := @dq_o167 cL_law 1214 0 101 (qL_law_75 14 167 rfl) (qL_law_75 15 0 rfl) (qL_law_76 0 101 rfl)
theorem dL_law_1217 : decode cL_law 1217 = .ok (.aload_n 1, 1) := @dq_o43 cL_law 1217 (qL_law_76 1 43 rfl)
theorem dL_law_1218 : decode cL_law 1218 = .ok (.aload_n 0, 1) := @dq_o42 cL_law 1218 (qL_law_76 2 42 rfl)
theorem dL_law_1219 : decode cL_law 1219 = .ok (.iload_n 3, 1) := @dq_o29 cL_law 1219 (qL_law_76 3 29 rfl)
theorem dL_law_1220 : decode cL_law 1220 = .ok (.iconst 1, 1) := @dq_o4 cL_law 1220 (qL_law_76 4 4 rfl)
theorem dL_law_1221 : decode cL_law 1221 = .ok (.iadd, 1) := @dq_o96 cL_law 1221 (qL_law_76 5 96 rfl)
theorem dL_law_1222 : decode cL_law 1222 = .ok (.iaload, 1) := @dq_o46 cL_law 1222 (qL_law_76 6 46 rfl)
theorem dL_law_1223 : decode cL_law 1223 = .ok (.invokevirtual 139, 3) := @dq_o182 cL_law 1223 0 139 (qL_law_76 7 182 rfl) (qL_law_76 8 0 rfl) (qL_law_76 9 139 rfl)
theorem dL_law_1226 : decode cL_law 1226 = .ok (.pop, 1) := @dq_o87 cL_law 1226 (qL_law_76 10 87 rfl)
theorem dL_law_1227 : decode cL_law 1227 = .ok (.aload_n 2, 1) := @dq_o44 cL_law 1227 (qL_law_76 11 44 rfl)
theorem dL_law_1228 : decode cL_law 1228 = .ok (.aload_n 0, 1) := @dq_o42 cL_law 1228 (qL_law_76 12 42 rfl)
theorem dL_law_1229 : decode cL_law 1229 = .ok (.iload_n 3, 1) := @dq_o29 cL_law 1229 (qL_law_76 13 29 rfl)
theorem dL_law_1230 : decode cL_law 1230 = .ok (.iconst 1, 1) := @dq_o4 cL_law 1230 (qL_law_76 14 4 rfl)
theorem dL_law_1231 : decode cL_law 1231 = .ok (.iadd, 1) := @dq_o96 cL_law 1231 (qL_law_76 15 96 rfl)
theorem dL_law_1232 : decode cL_law 1232 = .ok (.iaload, 1) := @dq_o46 cL_law 1232 (qL_law_77 0 46 rfl)
theorem dL_law_1233 : decode cL_law 1233 = .ok (.invokevirtual 142, 3) := @dq_o182 cL_law 1233 0 142 (qL_law_77 1 182 rfl) (qL_law_77 2 0 rfl) (qL_law_77 3 142 rfl)
theorem dL_law_1236 : decode cL_law 1236 = .ok (.pop, 1) := @dq_o87 cL_law 1236 (qL_law_77 4 87 rfl)
theorem dL_law_1237 : decode cL_law 1237 = .ok (.goto 78, 3) := @dq_o167 cL_law 1237 0 78 (qL_law_77 5 167 rfl) (qL_law_77 6 0 rfl) (qL_law_77 7 78 rfl)
theorem dL_law_1240 : decode cL_law 1240 = .ok (.aload_n 1, 1) := @dq_o43 cL_law 1240 (qL_law_77 8 43 rfl)
theorem dL_law_1241 : decode cL_law 1241 = .ok (.invokevirtual 143, 3) := @dq_o182 cL_law 1241 0 143 (qL_law_77 9 182 rfl) (qL_law_77 10 0 rfl) (qL_law_77 11 143 rfl)
theorem dL_law_1244 : decode cL_law 1244 = .ok (.pop, 1) := @dq_o87 cL_law 1244 (qL_law_77 12 87 rfl)
theorem dL_law_1245 : decode cL_law 1245 = .ok (.aload_n 2, 1) := @dq_o44 cL_law 1245 (qL_law_77 13 44 rfl)
theorem dL_law_1246 : decode cL_law 1246 = .ok (.invokevirtual 146, 3) := @dq_o182 cL_law 1246 0 146 (qL_law_77 14 182 rfl) (qL_law_77 15 0 rfl) (qL_law_78 0 146 rfl)
theorem dL_law_1249 : decode cL_law 1249 = .ok (.pop, 1) := @dq_o87 cL_law 1249 (qL_law_78 1 87 rfl)
theorem dL_law_1250 : decode cL_law 1250 = .ok (.goto 65, 3) := @dq_o167 cL_law 1250 0 65 (qL_law_78 2 167 rfl) (qL_law_78 3 0 rfl) (qL_law_78 4 65 rfl)
theorem dL_law_1253 : decode cL_law 1253 = .ok (.aload_n 1, 1) := @dq_o43 cL_law 1253 (qL_law_78 5 43 rfl)
theorem dL_law_1254 : decode cL_law 1254 = .ok (.aload_n 0, 1) := @dq_o42 cL_law 1254 (qL_law_78 6 42 rfl)
theorem dL_law_1255 : decode cL_law 1255 = .ok (.iload_n 3, 1) := @dq_o29 cL_law 1255 (qL_law_78 7 29 rfl)
theorem dL_law_1256 : decode cL_law 1256 = .ok (.iconst 1, 1) := @dq_o4 cL_law 1256 (qL_law_78 8 4 rfl)
theorem dL_law_1257 : decode cL_law 1257 = .ok (.iadd, 1) := @dq_o96 cL_law 1257 (qL_law_78 9 96 rfl)
theorem dL_law_1258 : decode cL_law 1258 = .ok (.iaload, 1) := @dq_o46 cL_law 1258 (qL_law_78 10 46 rfl)
theorem dL_law_1259 : decode cL_law 1259 = .ok (.ifCond .eq 7, 3) := @dq_o153 cL_law 1259 0 7 (qL_law_78 11 153 rfl) (qL_law_78 12 0 rfl) (qL_law_78 13 7 rfl)
theorem dL_law_1262 : decode cL_law 1262 = .ok (.iconst 1, 1) := @dq_o4 cL_law 1262 (qL_law_78 14 4 rfl)
theorem dL_law_1263 : decode cL_law 1263 = .ok (.goto 4, 3) := @dq_o167 cL_law 1263 0 4 (qL_law_78 15 167 rfl) (qL_law_79 0 0 rfl) (qL_law_79 1 4 rfl)
theorem dL_law_1266 : decode cL_law 1266 = .ok (.iconst 0, 1) := @dq_o3 cL_law 1266 (qL_law_79 2 3 rfl)
theorem dL_law_1267 : decode cL_law 1267 = .ok (.invokevirtual 147, 3) := @dq_o182 cL_law 1267 0 147 (qL_law_79 3 182 rfl) (qL_law_79 4 0 rfl) (qL_law_79 5 147 rfl)
theorem dL_law_1270 : decode cL_law 1270 = .ok (.pop, 1) := @dq_o87 cL_law 1270 (qL_law_79 6 87 rfl)
theorem dL_law_1271 : decode cL_law 1271 = .ok (.aload_n 2, 1) := @dq_o44 cL_law 1271 (qL_law_79 7 44 rfl)
theorem dL_law_1272 : decode cL_law 1272 = .ok (.aload_n 0, 1) := @dq_o42 cL_law 1272 (qL_law_79 8 42 rfl)
theorem dL_law_1273 : decode cL_law 1273 = .ok (.iload_n 3, 1) := @dq_o29 cL_law 1273 (qL_law_79 9 29 rfl)
theorem dL_law_1274 : decode cL_law 1274 = .ok (.iconst 1, 1) := @dq_o4 cL_law 1274 (qL_law_79 10 4 rfl)
theorem dL_law_1275 : decode cL_law 1275 = .ok (.iadd, 1) := @dq_o96 cL_law 1275 (qL_law_79 11 96 rfl)
theorem dL_law_1276 : decode cL_law 1276 = .ok (.iaload, 1) := @dq_o46 cL_law 1276 (qL_law_79 12 46 rfl)
theorem dL_law_1277 : decode cL_law 1277 = .ok (.ifCond .eq 7, 3) := @dq_o153 cL_law 1277 0 7 (qL_law_79 13 153 rfl) (qL_law_79 14 0 rfl) (qL_law_79 15 7 rfl)
theorem dL_law_1280 : decode cL_law 1280 = .ok (.iconst 1, 1) := @dq_o4 cL_law 1280 (qL_law_80 0 4 rfl)
theorem dL_law_1281 : decode cL_law 1281 = .ok (.goto 4, 3) := @dq_o167 cL_law 1281 0 4 (qL_law_80 1 167 rfl) (qL_law_80 2 0 rfl) (qL_law_80 3 4 rfl)
theorem dL_law_1284 : decode cL_law 1284 = .ok (.iconst 0, 1) := @dq_o3 cL_law 1284 (qL_law_80 4 3 rfl)
theorem dL_law_1285 : decode cL_law 1285 = .ok (.invokevirtual 151, 3) := @dq_o182 cL_law 1285 0 151 (qL_law_80 5 182 rfl) (qL_law_80 6 0 rfl) (qL_law_80 7 151 rfl)
theorem dL_law_1288 : decode cL_law 1288 = .ok (.pop, 1) := @dq_o87 cL_law 1288 (qL_law_80 8 87 rfl)
theorem dL_law_1289 : decode cL_law 1289 = .ok (.goto 26, 3) := @dq_o167 cL_law 1289 0 26 (qL_law_80 9 167 rfl) (qL_law_80 10 0 rfl) (qL_law_80 11 26 rfl)
theorem dL_law_1292 : decode cL_law 1292 = .ok (.aload_n 1, 1) := @dq_o43 cL_law 1292 (qL_law_80 12 43 rfl)
theorem dL_law_1293 : decode cL_law 1293 = .ok (.aload_n 0, 1) := @dq_o42 cL_law 1293 (qL_law_80 13 42 rfl)
theorem dL_law_1294 : decode cL_law 1294 = .ok (.iload_n 3, 1) := @dq_o29 cL_law 1294 (qL_law_80 14 29 rfl)
theorem dL_law_1295 : decode cL_law 1295 = .ok (.iconst 1, 1) := @dq_o4 cL_law 1295 (qL_law_80 15 4 rfl)
theorem dL_law_1296 : decode cL_law 1296 = .ok (.iadd, 1) := @dq_o96 cL_law 1296 (qL_law_81 0 96 rfl)
theorem dL_law_1297 : decode cL_law 1297 = .ok (.iaload, 1) := @dq_o46 cL_law 1297 (qL_law_81 1 46 rfl)
theorem dL_law_1298 : decode cL_law 1298 = .ok (.invokevirtual 152, 3) := @dq_o182 cL_law 1298 0 152 (qL_law_81 2 182 rfl) (qL_law_81 3 0 rfl) (qL_law_81 4 152 rfl)
theorem dL_law_1301 : decode cL_law 1301 = .ok (.aload_n 2, 1) := @dq_o44 cL_law 1301 (qL_law_81 5 44 rfl)
theorem dL_law_1302 : decode cL_law 1302 = .ok (.aload_n 0, 1) := @dq_o42 cL_law 1302 (qL_law_81 6 42 rfl)
theorem dL_law_1303 : decode cL_law 1303 = .ok (.iload_n 3, 1) := @dq_o29 cL_law 1303 (qL_law_81 7 29 rfl)
theorem dL_law_1304 : decode cL_law 1304 = .ok (.iconst 1, 1) := @dq_o4 cL_law 1304 (qL_law_81 8 4 rfl)
theorem dL_law_1305 : decode cL_law 1305 = .ok (.iadd, 1) := @dq_o96 cL_law 1305 (qL_law_81 9 96 rfl)
theorem dL_law_1306 : decode cL_law 1306 = .ok (.iaload, 1) := @dq_o46 cL_law 1306 (qL_law_81 10 46 rfl)
theorem dL_law_1307 : decode cL_law 1307 = .ok (.invokevirtual 155, 3) := @dq_o182 cL_law 1307 0 155 (qL_law_81 11 182 rfl) (qL_law_81 12 0 rfl) (qL_law_81 13 155 rfl)
theorem dL_law_1310 : decode cL_law 1310 = .ok (.if_icmp .eq 5, 3) := @dq_o159 cL_law 1310 0 5 (qL_law_81 14 159 rfl) (qL_law_81 15 0 rfl) (qL_law_82 0 5 rfl)
theorem dL_law_1313 : decode cL_law 1313 = .ok (.iconst 0, 1) := @dq_o3 cL_law 1313 (qL_law_82 1 3 rfl)
theorem dL_law_1314 : decode cL_law 1314 = .ok (.ireturn, 1) := @dq_o172 cL_law 1314 (qL_law_82 2 172 rfl)
theorem dL_law_1315 : decode cL_law 1315 = .ok (.iinc 3 6, 3) := @dq_o132 cL_law 1315 3 6 (qL_law_82 3 132 rfl) (qL_law_82 4 3 rfl) (qL_law_82 5 6 rfl)
theorem dL_law_1318 : decode cL_law 1318 = .ok (.goto (-1300), 3) := @dq_o167 cL_law 1318 250 236 (qL_law_82 6 167 rfl) (qL_law_82 7 250 rfl) (qL_law_82 8 236 rfl)
theorem dL_law_1321 : decode cL_law 1321 = .ok (.iconst 1, 1) := @dq_o4 cL_law 1321 (qL_law_82 9 4 rfl)
theorem dL_law_1322 : decode cL_law 1322 = .ok (.ireturn, 1) := @dq_o172 cL_law 1322 (qL_law_82 10 172 rfl)
