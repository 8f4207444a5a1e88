theorem ic_b_m99 : (Int8.ofInt (-99)).toInt32 = (-99 : Int32) := by decide +kernel
theorem ic_b_m2 : (Int8.ofInt (-2)).toInt32 = (-2 : Int32) := by decide +kernel
theorem ic_b_6 : (Int8.ofInt (6)).toInt32 = (6 : Int32) := by decide +kernel
theorem ic_b_7 : (Int8.ofInt (7)).toInt32 = (7 : Int32) := by decide +kernel
theorem ic_b_8 : (Int8.ofInt (8)).toInt32 = (8 : Int32) := by decide +kernel
theorem ic_b_9 : (Int8.ofInt (9)).toInt32 = (9 : Int32) := by decide +kernel
theorem ic_b_10 : (Int8.ofInt (10)).toInt32 = (10 : Int32) := by decide +kernel
theorem ic_b_11 : (Int8.ofInt (11)).toInt32 = (11 : Int32) := by decide +kernel
theorem ic_b_12 : (Int8.ofInt (12)).toInt32 = (12 : Int32) := by decide +kernel
theorem ic_b_13 : (Int8.ofInt (13)).toInt32 = (13 : Int32) := by decide +kernel
theorem ic_b_18 : (Int8.ofInt (18)).toInt32 = (18 : Int32) := by decide +kernel
theorem ic_b_20 : (Int8.ofInt (20)).toInt32 = (20 : Int32) := by decide +kernel
theorem ic_b_24 : (Int8.ofInt (24)).toInt32 = (24 : Int32) := by decide +kernel
theorem ic_b_32 : (Int8.ofInt (32)).toInt32 = (32 : Int32) := by decide +kernel
theorem ic_b_36 : (Int8.ofInt (36)).toInt32 = (36 : Int32) := by decide +kernel
theorem ic_b_40 : (Int8.ofInt (40)).toInt32 = (40 : Int32) := by decide +kernel
theorem ic_b_41 : (Int8.ofInt (41)).toInt32 = (41 : Int32) := by decide +kernel
theorem ic_b_42 : (Int8.ofInt (42)).toInt32 = (42 : Int32) := by decide +kernel
theorem ic_b_44 : (Int8.ofInt (44)).toInt32 = (44 : Int32) := by decide +kernel
theorem ic_b_45 : (Int8.ofInt (45)).toInt32 = (45 : Int32) := by decide +kernel
theorem ic_b_48 : (Int8.ofInt (48)).toInt32 = (48 : Int32) := by decide +kernel
theorem ic_b_50 : (Int8.ofInt (50)).toInt32 = (50 : Int32) := by decide +kernel
theorem ic_b_57 : (Int8.ofInt (57)).toInt32 = (57 : Int32) := by decide +kernel
theorem ic_b_63 : (Int8.ofInt (63)).toInt32 = (63 : Int32) := by decide +kernel
theorem ic_b_64 : (Int8.ofInt (64)).toInt32 = (64 : Int32) := by decide +kernel
theorem ic_b_82 : (Int8.ofInt (82)).toInt32 = (82 : Int32) := by decide +kernel
theorem ic_b_90 : (Int8.ofInt (90)).toInt32 = (90 : Int32) := by decide +kernel
theorem ic_b_91 : (Int8.ofInt (91)).toInt32 = (91 : Int32) := by decide +kernel
theorem ic_b_93 : (Int8.ofInt (93)).toInt32 = (93 : Int32) := by decide +kernel
theorem ic_b_94 : (Int8.ofInt (94)).toInt32 = (94 : Int32) := by decide +kernel
theorem ic_b_97 : (Int8.ofInt (97)).toInt32 = (97 : Int32) := by decide +kernel
theorem ic_b_99 : (Int8.ofInt (99)).toInt32 = (99 : Int32) := by decide +kernel
theorem ic_b_100 : (Int8.ofInt (100)).toInt32 = (100 : Int32) := by decide +kernel
theorem ic_b_102 : (Int8.ofInt (102)).toInt32 = (102 : Int32) := by decide +kernel
theorem ic_i_m8 : Int32.ofInt (-8) = (-8 : Int32) := by decide +kernel
theorem ic_i_m1 : Int32.ofInt (-1) = (-1 : Int32) := by decide +kernel
theorem ic_i_0 : Int32.ofInt (0) = (0 : Int32) := by decide +kernel
theorem ic_i_1 : Int32.ofInt (1) = (1 : Int32) := by decide +kernel
theorem ic_i_2 : Int32.ofInt (2) = (2 : Int32) := by decide +kernel
theorem ic_i_3 : Int32.ofInt (3) = (3 : Int32) := by decide +kernel
theorem ic_i_4 : Int32.ofInt (4) = (4 : Int32) := by decide +kernel
theorem ic_i_5 : Int32.ofInt (5) = (5 : Int32) := by decide +kernel
theorem ic_l_0 : Int64.ofNat ((0 : Fin 2) : Nat) = (0 : Int64) := by decide +kernel
theorem ic_l_1 : Int64.ofNat ((1 : Fin 2) : Nat) = (1 : Int64) := by decide +kernel
theorem ic_s_m10000 : (Int16.ofInt (-10000)).toInt32 = (-10000 : Int32) := by decide +kernel
theorem ic_s_m999 : (Int16.ofInt (-999)).toInt32 = (-999 : Int32) := by decide +kernel
theorem ic_s_180 : (Int16.ofInt (180)).toInt32 = (180 : Int32) := by decide +kernel
theorem ic_s_200 : (Int16.ofInt (200)).toInt32 = (200 : Int32) := by decide +kernel
theorem ic_s_223 : (Int16.ofInt (223)).toInt32 = (223 : Int32) := by decide +kernel
theorem ic_s_255 : (Int16.ofInt (255)).toInt32 = (255 : Int32) := by decide +kernel
theorem ic_s_283 : (Int16.ofInt (283)).toInt32 = (283 : Int32) := by decide +kernel
theorem ic_s_289 : (Int16.ofInt (289)).toInt32 = (289 : Int32) := by decide +kernel
theorem ic_s_290 : (Int16.ofInt (290)).toInt32 = (290 : Int32) := by decide +kernel
theorem ic_s_455 : (Int16.ofInt (455)).toInt32 = (455 : Int32) := by decide +kernel
theorem ic_s_999 : (Int16.ofInt (999)).toInt32 = (999 : Int32) := by decide +kernel
theorem ic_s_1000 : (Int16.ofInt (1000)).toInt32 = (1000 : Int32) := by decide +kernel
theorem ic_s_1981 : (Int16.ofInt (1981)).toInt32 = (1981 : Int32) := by decide +kernel
theorem ic_s_4095 : (Int16.ofInt (4095)).toInt32 = (4095 : Int32) := by decide +kernel
theorem ic_s_4096 : (Int16.ofInt (4096)).toInt32 = (4096 : Int32) := by decide +kernel
theorem ic_s_9100 : (Int16.ofInt (9100)).toInt32 = (9100 : Int32) := by decide +kernel
theorem ic_s_12076 : (Int16.ofInt (12076)).toInt32 = (12076 : Int32) := by decide +kernel
theorem wf_0_0 {w : Wd} (hw : WOK w) {a : Nat} (h : isk w a 0) : isk w (rf a 0) 4 := isk_f hw h (by decide)
theorem wf_0_1 {w : Wd} (hw : WOK w) {a : Nat} (h : isk w a 0) : isk w (rf a 1) 13 := isk_f hw h (by decide)
theorem wf_0_2 {w : Wd} (hw : WOK w) {a : Nat} (h : isk w a 0) : isk w (rf a 2) 13 := isk_f hw h (by decide)
theorem wf_0_3 {w : Wd} (hw : WOK w) {a : Nat} (h : isk w a 0) : isk w (rf a 3) 13 := isk_f hw h (by decide)
theorem wf_0_4 {w : Wd} (hw : WOK w) {a : Nat} (h : isk w a 0) : isk w (rf a 4) 13 := isk_f hw h (by decide)
theorem wf_0_5 {w : Wd} (hw : WOK w) {a : Nat} (h : isk w a 0) : isk w (rf a 5) 13 := isk_f hw h (by decide)
theorem wf_0_6 {w : Wd} (hw : WOK w) {a : Nat} (h : isk w a 0) : isk w (rf a 6) 13 := isk_f hw h (by decide)
theorem wf_0_7 {w : Wd} (hw : WOK w) {a : Nat} (h : isk w a 0) : isk w (rf a 7) 13 := isk_f hw h (by decide)
theorem wf_1_0 {w : Wd} (hw : WOK w) {a : Nat} (h : isk w a 1) : isk w (rf a 0) 4 := isk_f hw h (by decide)
theorem wf_1_1 {w : Wd} (hw : WOK w) {a : Nat} (h : isk w a 1) : isk w (rf a 1) 0 := isk_f hw h (by decide)
theorem wf_1_3 {w : Wd} (hw : WOK w) {a : Nat} (h : isk w a 1) : isk w (rf a 3) 12 := isk_f hw h (by decide)
theorem wf_1_4 {w : Wd} (hw : WOK w) {a : Nat} (h : isk w a 1) : isk w (rf a 4) 13 := isk_f hw h (by decide)
theorem wf_1_5 {w : Wd} (hw : WOK w) {a : Nat} (h : isk w a 1) : isk w (rf a 5) 12 := isk_f hw h (by decide)
theorem wf_1_7 {w : Wd} (hw : WOK w) {a : Nat} (h : isk w a 1) : isk w (rf a 7) 13 := isk_f hw h (by decide)
theorem wf_1_8 {w : Wd} (hw : WOK w) {a : Nat} (h : isk w a 1) : isk w (rf a 8) 13 := isk_f hw h (by decide)
theorem wf_1_9 {w : Wd} (hw : WOK w) {a : Nat} (h : isk w a 1) : isk w (rf a 9) 13 := isk_f hw h (by decide)
theorem wf_2_0 {w : Wd} (hw : WOK w) {a : Nat} (h : isk w a 2) : isk w (rf a 0) 12 := isk_f hw h (by decide)
theorem wf_2_2 {w : Wd} (hw : WOK w) {a : Nat} (h : isk w a 2) : isk w (rf a 2) 12 := isk_f hw h (by decide)
theorem wf_2_4 {w : Wd} (hw : WOK w) {a : Nat} (h : isk w a 2) : isk w (rf a 4) 12 := isk_f hw h (by decide)
theorem wf_2_6 {w : Wd} (hw : WOK w) {a : Nat} (h : isk w a 2) : isk w (rf a 6) 12 := isk_f hw h (by decide)
theorem wf_3_1 {w : Wd} (hw : WOK w) {a : Nat} (h : isk w a 3) : isk w (rf a 1) 16 := isk_f hw h (by decide)
theorem wf_3_2 {w : Wd} (hw : WOK w) {a : Nat} (h : isk w a 3) : isk w (rf a 2) 13 := isk_f hw h (by decide)
theorem wf_4_0 {w : Wd} (hw : WOK w) {a : Nat} (h : isk w a 4) : isk w (rf a 0) 6 := isk_f hw h (by decide)
theorem wf_4_1 {w : Wd} (hw : WOK w) {a : Nat} (h : isk w a 4) : isk w (rf a 1) 2 := isk_f hw h (by decide)
theorem wf_4_2 {w : Wd} (hw : WOK w) {a : Nat} (h : isk w a 4) : isk w (rf a 2) 15 := isk_f hw h (by decide)
theorem wf_4_5 {w : Wd} (hw : WOK w) {a : Nat} (h : isk w a 4) : isk w (rf a 5) 12 := isk_f hw h (by decide)
theorem wf_4_7 {w : Wd} (hw : WOK w) {a : Nat} (h : isk w a 4) : isk w (rf a 7) 13 := isk_f hw h (by decide)
theorem wf_4_8 {w : Wd} (hw : WOK w) {a : Nat} (h : isk w a 4) : isk w (rf a 8) 12 := isk_f hw h (by decide)
theorem wf_5_2 {w : Wd} (hw : WOK w) {a : Nat} (h : isk w a 5) : isk w (rf a 2) 16 := isk_f hw h (by decide)
theorem wf_5_3 {w : Wd} (hw : WOK w) {a : Nat} (h : isk w a 5) : isk w (rf a 3) 16 := isk_f hw h (by decide)
theorem wf_5_4 {w : Wd} (hw : WOK w) {a : Nat} (h : isk w a 5) : isk w (rf a 4) 16 := isk_f hw h (by decide)
theorem wf_5_5 {w : Wd} (hw : WOK w) {a : Nat} (h : isk w a 5) : isk w (rf a 5) 8 := isk_f hw h (by decide)
theorem wf_5_6 {w : Wd} (hw : WOK w) {a : Nat} (h : isk w a 5) : isk w (rf a 6) 0 := isk_f hw h (by decide)
theorem wf_5_7 {w : Wd} (hw : WOK w) {a : Nat} (h : isk w a 5) : isk w (rf a 7) 12 := isk_f hw h (by decide)
theorem wf_6_1 {w : Wd} (hw : WOK w) {a : Nat} (h : isk w a 6) : isk w (rf a 1) 12 := isk_f hw h (by decide)
theorem wf_6_2 {w : Wd} (hw : WOK w) {a : Nat} (h : isk w a 6) : isk w (rf a 2) 12 := isk_f hw h (by decide)
theorem wf_7_0 {w : Wd} (hw : WOK w) {a : Nat} (h : isk w a 7) : isk w (rf a 0) 4 := isk_f hw h (by decide)
theorem wf_7_1 {w : Wd} (hw : WOK w) {a : Nat} (h : isk w a 7) : isk w (rf a 1) 3 := isk_f hw h (by decide)
theorem wf_7_2 {w : Wd} (hw : WOK w) {a : Nat} (h : isk w a 7) : isk w (rf a 2) 3 := isk_f hw h (by decide)
theorem wf_7_3 {w : Wd} (hw : WOK w) {a : Nat} (h : isk w a 7) : isk w (rf a 3) 15 := isk_f hw h (by decide)
theorem wf_7_4 {w : Wd} (hw : WOK w) {a : Nat} (h : isk w a 7) : isk w (rf a 4) 13 := isk_f hw h (by decide)
theorem wf_7_5 {w : Wd} (hw : WOK w) {a : Nat} (h : isk w a 7) : isk w (rf a 5) 13 := isk_f hw h (by decide)
theorem wf_7_6 {w : Wd} (hw : WOK w) {a : Nat} (h : isk w a 7) : isk w (rf a 6) 13 := isk_f hw h (by decide)
theorem wf_7_7 {w : Wd} (hw : WOK w) {a : Nat} (h : isk w a 7) : isk w (rf a 7) 13 := isk_f hw h (by decide)
theorem wf_8_0 {w : Wd} (hw : WOK w) {a : Nat} (h : isk w a 8) : isk w (rf a 0) 6 := isk_f hw h (by decide)
theorem wf_8_1 {w : Wd} (hw : WOK w) {a : Nat} (h : isk w a 8) : isk w (rf a 1) 16 := isk_f hw h (by decide)
theorem wf_8_2 {w : Wd} (hw : WOK w) {a : Nat} (h : isk w a 8) : isk w (rf a 2) 12 := isk_f hw h (by decide)
theorem wf_9_1 {w : Wd} (hw : WOK w) {a : Nat} (h : isk w a 9) : isk w (rf a 1) 12 := isk_f hw h (by decide)
theorem wf_9_2 {w : Wd} (hw : WOK w) {a : Nat} (h : isk w a 9) : isk w (rf a 2) 13 := isk_f hw h (by decide)
theorem wf_9_3 {w : Wd} (hw : WOK w) {a : Nat} (h : isk w a 9) : isk w (rf a 3) 12 := isk_f hw h (by decide)
theorem wf_10_0 {w : Wd} (hw : WOK w) {a : Nat} (h : isk w a 10) : isk w (rf a 0) 8 := isk_f hw h (by decide)
theorem wf_10_1 {w : Wd} (hw : WOK w) {a : Nat} (h : isk w a 10) : isk w (rf a 1) 8 := isk_f hw h (by decide)
theorem wf_10_3 {w : Wd} (hw : WOK w) {a : Nat} (h : isk w a 10) : isk w (rf a 3) 14 := isk_f hw h (by decide)
theorem wf_10_6 {w : Wd} (hw : WOK w) {a : Nat} (h : isk w a 10) : isk w (rf a 6) 12 := isk_f hw h (by decide)
theorem wf_10_8 {w : Wd} (hw : WOK w) {a : Nat} (h : isk w a 10) : isk w (rf a 8) 2 := isk_f hw h (by decide)
theorem wf_10_9 {w : Wd} (hw : WOK w) {a : Nat} (h : isk w a 10) : isk w (rf a 9) 4 := isk_f hw h (by decide)
theorem wf_10_10 {w : Wd} (hw : WOK w) {a : Nat} (h : isk w a 10) : isk w (rf a 10) 0 := isk_f hw h (by decide)
theorem wf_10_11 {w : Wd} (hw : WOK w) {a : Nat} (h : isk w a 10) : isk w (rf a 11) 7 := isk_f hw h (by decide)
theorem wf_10_12 {w : Wd} (hw : WOK w) {a : Nat} (h : isk w a 10) : isk w (rf a 12) 1 := isk_f hw h (by decide)
theorem wf_10_13 {w : Wd} (hw : WOK w) {a : Nat} (h : isk w a 10) : isk w (rf a 13) 3 := isk_f hw h (by decide)
theorem wf_10_14 {w : Wd} (hw : WOK w) {a : Nat} (h : isk w a 10) : isk w (rf a 14) 5 := isk_f hw h (by decide)
theorem wf_10_15 {w : Wd} (hw : WOK w) {a : Nat} (h : isk w a 10) : isk w (rf a 15) 13 := isk_f hw h (by decide)
theorem wf_10_16 {w : Wd} (hw : WOK w) {a : Nat} (h : isk w a 10) : isk w (rf a 16) 13 := isk_f hw h (by decide)
theorem wf_11_1 {w : Wd} (hw : WOK w) {a : Nat} (h : isk w a 11) : isk w (rf a 1) 12 := isk_f hw h (by decide)
theorem wf_11_2 {w : Wd} (hw : WOK w) {a : Nat} (h : isk w a 11) : isk w (rf a 2) 12 := isk_f hw h (by decide)
theorem wf_11_5 {w : Wd} (hw : WOK w) {a : Nat} (h : isk w a 11) : isk w (rf a 5) 12 := isk_f hw h (by decide)
theorem wf_11_8 {w : Wd} (hw : WOK w) {a : Nat} (h : isk w a 11) : isk w (rf a 8) 12 := isk_f hw h (by decide)
theorem wf_11_11 {w : Wd} (hw : WOK w) {a : Nat} (h : isk w a 11) : isk w (rf a 11) 12 := isk_f hw h (by decide)
theorem wf_11_12 {w : Wd} (hw : WOK w) {a : Nat} (h : isk w a 11) : isk w (rf a 12) 13 := isk_f hw h (by decide)
theorem wf_11_13 {w : Wd} (hw : WOK w) {a : Nat} (h : isk w a 11) : isk w (rf a 13) 13 := isk_f hw h (by decide)
theorem wf_11_14 {w : Wd} (hw : WOK w) {a : Nat} (h : isk w a 11) : isk w (rf a 14) 13 := isk_f hw h (by decide)
theorem wf_11_15 {w : Wd} (hw : WOK w) {a : Nat} (h : isk w a 11) : isk w (rf a 15) 12 := isk_f hw h (by decide)
theorem wf_11_16 {w : Wd} (hw : WOK w) {a : Nat} (h : isk w a 11) : isk w (rf a 16) 12 := isk_f hw h (by decide)
theorem wf_11_17 {w : Wd} (hw : WOK w) {a : Nat} (h : isk w a 11) : isk w (rf a 17) 12 := isk_f hw h (by decide)
theorem wf_11_26 {w : Wd} (hw : WOK w) {a : Nat} (h : isk w a 11) : isk w (rf a 26) 12 := isk_f hw h (by decide)
theorem wf_11_28 {w : Wd} (hw : WOK w) {a : Nat} (h : isk w a 11) : isk w (rf a 28) 13 := isk_f hw h (by decide)
theorem wf_11_30 {w : Wd} (hw : WOK w) {a : Nat} (h : isk w a 11) : isk w (rf a 30) 13 := isk_f hw h (by decide)
theorem wf_11_32 {w : Wd} (hw : WOK w) {a : Nat} (h : isk w a 11) : isk w (rf a 32) 13 := isk_f hw h (by decide)
theorem wf_11_35 {w : Wd} (hw : WOK w) {a : Nat} (h : isk w a 11) : isk w (rf a 35) 13 := isk_f hw h (by decide)
theorem wf_11_38 {w : Wd} (hw : WOK w) {a : Nat} (h : isk w a 11) : isk w (rf a 38) 12 := isk_f hw h (by decide)
theorem ik_0 {w : Wd} (hw : WOK w) : isk w 0 10 := ⟨by rcases hw with h | h <;> rw [h] <;> decide, by decide +kernel⟩
theorem ik_1 {w : Wd} (hw : WOK w) : isk w 1 8 := ⟨by rcases hw with h | h <;> rw [h] <;> decide, by decide +kernel⟩
theorem ik_2 {w : Wd} (hw : WOK w) : isk w 2 6 := ⟨by rcases hw with h | h <;> rw [h] <;> decide, by decide +kernel⟩
theorem ik_3 {w : Wd} (hw : WOK w) : isk w 3 12 := ⟨by rcases hw with h | h <;> rw [h] <;> decide, by decide +kernel⟩
theorem ik_5 {w : Wd} (hw : WOK w) : isk w 5 16 := ⟨by rcases hw with h | h <;> rw [h] <;> decide, by decide +kernel⟩
theorem ik_16 {w : Wd} (hw : WOK w) : isk w 16 12 := ⟨by rcases hw with h | h <;> rw [h] <;> decide, by decide +kernel⟩
theorem ik_17 {w : Wd} (hw : WOK w) : isk w 17 8 := ⟨by rcases hw with h | h <;> rw [h] <;> decide, by decide +kernel⟩
theorem ik_33 {w : Wd} (hw : WOK w) : isk w 33 14 := ⟨by rcases hw with h | h <;> rw [h] <;> decide, by decide +kernel⟩
theorem ik_34 {w : Wd} (hw : WOK w) : isk w 34 12 := ⟨by rcases hw with h | h <;> rw [h] <;> decide, by decide +kernel⟩
theorem ik_35 {w : Wd} (hw : WOK w) : isk w 35 2 := ⟨by rcases hw with h | h <;> rw [h] <;> decide, by decide +kernel⟩
theorem ik_36 {w : Wd} (hw : WOK w) : isk w 36 12 := ⟨by rcases hw with h | h <;> rw [h] <;> decide, by decide +kernel⟩
theorem ik_37 {w : Wd} (hw : WOK w) : isk w 37 12 := ⟨by rcases hw with h | h <;> rw [h] <;> decide, by decide +kernel⟩
theorem ik_38 {w : Wd} (hw : WOK w) : isk w 38 12 := ⟨by rcases hw with h | h <;> rw [h] <;> decide, by decide +kernel⟩
theorem ik_39 {w : Wd} (hw : WOK w) : isk w 39 12 := ⟨by rcases hw with h | h <;> rw [h] <;> decide, by decide +kernel⟩
theorem ik_40 {w : Wd} (hw : WOK w) : isk w 40 4 := ⟨by rcases hw with h | h <;> rw [h] <;> decide, by decide +kernel⟩
theorem ik_41 {w : Wd} (hw : WOK w) : isk w 41 6 := ⟨by rcases hw with h | h <;> rw [h] <;> decide, by decide +kernel⟩
theorem ik_42 {w : Wd} (hw : WOK w) : isk w 42 12 := ⟨by rcases hw with h | h <;> rw [h] <;> decide, by decide +kernel⟩
theorem ik_44 {w : Wd} (hw : WOK w) : isk w 44 15 := ⟨by rcases hw with h | h <;> rw [h] <;> decide, by decide +kernel⟩
theorem ik_45 {w : Wd} (hw : WOK w) : isk w 45 12 := ⟨by rcases hw with h | h <;> rw [h] <;> decide, by decide +kernel⟩
theorem ik_46 {w : Wd} (hw : WOK w) : isk w 46 13 := ⟨by rcases hw with h | h <;> rw [h] <;> decide, by decide +kernel⟩
theorem ik_47 {w : Wd} (hw : WOK w) : isk w 47 12 := ⟨by rcases hw with h | h <;> rw [h] <;> decide, by decide +kernel⟩
theorem ik_72 {w : Wd} (hw : WOK w) : isk w 72 0 := ⟨by rcases hw with h | h <;> rw [h] <;> decide, by decide +kernel⟩
theorem ik_73 {w : Wd} (hw : WOK w) : isk w 73 13 := ⟨by rcases hw with h | h <;> rw [h] <;> decide, by decide +kernel⟩
theorem ik_74 {w : Wd} (hw : WOK w) : isk w 74 13 := ⟨by rcases hw with h | h <;> rw [h] <;> decide, by decide +kernel⟩
theorem ik_75 {w : Wd} (hw : WOK w) : isk w 75 13 := ⟨by rcases hw with h | h <;> rw [h] <;> decide, by decide +kernel⟩
theorem ik_76 {w : Wd} (hw : WOK w) : isk w 76 13 := ⟨by rcases hw with h | h <;> rw [h] <;> decide, by decide +kernel⟩
theorem ik_77 {w : Wd} (hw : WOK w) : isk w 77 13 := ⟨by rcases hw with h | h <;> rw [h] <;> decide, by decide +kernel⟩
theorem ik_78 {w : Wd} (hw : WOK w) : isk w 78 13 := ⟨by rcases hw with h | h <;> rw [h] <;> decide, by decide +kernel⟩
theorem ik_79 {w : Wd} (hw : WOK w) : isk w 79 13 := ⟨by rcases hw with h | h <;> rw [h] <;> decide, by decide +kernel⟩
theorem ik_80 {w : Wd} (hw : WOK w) : isk w 80 7 := ⟨by rcases hw with h | h <;> rw [h] <;> decide, by decide +kernel⟩
theorem ik_81 {w : Wd} (hw : WOK w) : isk w 81 3 := ⟨by rcases hw with h | h <;> rw [h] <;> decide, by decide +kernel⟩
theorem ik_82 {w : Wd} (hw : WOK w) : isk w 82 16 := ⟨by rcases hw with h | h <;> rw [h] <;> decide, by decide +kernel⟩
theorem ik_90 {w : Wd} (hw : WOK w) : isk w 90 3 := ⟨by rcases hw with h | h <;> rw [h] <;> decide, by decide +kernel⟩
theorem ik_99 {w : Wd} (hw : WOK w) : isk w 99 15 := ⟨by rcases hw with h | h <;> rw [h] <;> decide, by decide +kernel⟩
theorem ik_100 {w : Wd} (hw : WOK w) : isk w 100 13 := ⟨by rcases hw with h | h <;> rw [h] <;> decide, by decide +kernel⟩
theorem ik_101 {w : Wd} (hw : WOK w) : isk w 101 13 := ⟨by rcases hw with h | h <;> rw [h] <;> decide, by decide +kernel⟩
theorem ik_102 {w : Wd} (hw : WOK w) : isk w 102 13 := ⟨by rcases hw with h | h <;> rw [h] <;> decide, by decide +kernel⟩
theorem ik_103 {w : Wd} (hw : WOK w) : isk w 103 13 := ⟨by rcases hw with h | h <;> rw [h] <;> decide, by decide +kernel⟩
theorem ik_128 {w : Wd} (hw : WOK w) : isk w 128 1 := ⟨by rcases hw with h | h <;> rw [h] <;> decide, by decide +kernel⟩
theorem ik_129 {w : Wd} (hw : WOK w) : isk w 129 12 := ⟨by rcases hw with h | h <;> rw [h] <;> decide, by decide +kernel⟩
theorem ik_130 {w : Wd} (hw : WOK w) : isk w 130 13 := ⟨by rcases hw with h | h <;> rw [h] <;> decide, by decide +kernel⟩
theorem ik_131 {w : Wd} (hw : WOK w) : isk w 131 12 := ⟨by rcases hw with h | h <;> rw [h] <;> decide, by decide +kernel⟩
theorem ik_132 {w : Wd} (hw : WOK w) : isk w 132 13 := ⟨by rcases hw with h | h <;> rw [h] <;> decide, by decide +kernel⟩
theorem ik_133 {w : Wd} (hw : WOK w) : isk w 133 13 := ⟨by rcases hw with h | h <;> rw [h] <;> decide, by decide +kernel⟩
theorem ik_134 {w : Wd} (hw : WOK w) : isk w 134 13 := ⟨by rcases hw with h | h <;> rw [h] <;> decide, by decide +kernel⟩
theorem ik_135 {w : Wd} (hw : WOK w) : isk w 135 3 := ⟨by rcases hw with h | h <;> rw [h] <;> decide, by decide +kernel⟩
theorem ik_144 {w : Wd} (hw : WOK w) : isk w 144 5 := ⟨by rcases hw with h | h <;> rw [h] <;> decide, by decide +kernel⟩
theorem ik_145 {w : Wd} (hw : WOK w) : isk w 145 16 := ⟨by rcases hw with h | h <;> rw [h] <;> decide, by decide +kernel⟩
theorem ik_155 {w : Wd} (hw : WOK w) : isk w 155 16 := ⟨by rcases hw with h | h <;> rw [h] <;> decide, by decide +kernel⟩
theorem ik_165 {w : Wd} (hw : WOK w) : isk w 165 16 := ⟨by rcases hw with h | h <;> rw [h] <;> decide, by decide +kernel⟩
theorem ik_175 {w : Wd} (hw : WOK w) : isk w 175 12 := ⟨by rcases hw with h | h <;> rw [h] <;> decide, by decide +kernel⟩
theorem ik_176 {w : Wd} (hw : WOK w) : isk w 176 13 := ⟨by rcases hw with h | h <;> rw [h] <;> decide, by decide +kernel⟩
theorem ik_177 {w : Wd} (hw : WOK w) : isk w 177 13 := ⟨by rcases hw with h | h <;> rw [h] <;> decide, by decide +kernel⟩
theorem ik_306 {w : Wd} (hw : WOK w) (hN : wn w = NT) : isk w 306 11 := ⟨by rw [hN]; decide, by decide +kernel⟩
theorem ik_307 {w : Wd} (hw : WOK w) (hN : wn w = NT) : isk w 307 12 := ⟨by rw [hN]; decide, by decide +kernel⟩
theorem ik_308 {w : Wd} (hw : WOK w) (hN : wn w = NT) : isk w 308 12 := ⟨by rw [hN]; decide, by decide +kernel⟩
theorem ik_309 {w : Wd} (hw : WOK w) (hN : wn w = NT) : isk w 309 12 := ⟨by rw [hN]; decide, by decide +kernel⟩
theorem ik_310 {w : Wd} (hw : WOK w) (hN : wn w = NT) : isk w 310 12 := ⟨by rw [hN]; decide, by decide +kernel⟩
theorem ik_311 {w : Wd} (hw : WOK w) (hN : wn w = NT) : isk w 311 12 := ⟨by rw [hN]; decide, by decide +kernel⟩
theorem ik_312 {w : Wd} (hw : WOK w) (hN : wn w = NT) : isk w 312 13 := ⟨by rw [hN]; decide, by decide +kernel⟩
theorem ik_313 {w : Wd} (hw : WOK w) (hN : wn w = NT) : isk w 313 13 := ⟨by rw [hN]; decide, by decide +kernel⟩
theorem ik_314 {w : Wd} (hw : WOK w) (hN : wn w = NT) : isk w 314 13 := ⟨by rw [hN]; decide, by decide +kernel⟩
theorem ik_315 {w : Wd} (hw : WOK w) (hN : wn w = NT) : isk w 315 12 := ⟨by rw [hN]; decide, by decide +kernel⟩
theorem ik_316 {w : Wd} (hw : WOK w) (hN : wn w = NT) : isk w 316 12 := ⟨by rw [hN]; decide, by decide +kernel⟩
theorem ik_317 {w : Wd} (hw : WOK w) (hN : wn w = NT) : isk w 317 12 := ⟨by rw [hN]; decide, by decide +kernel⟩
theorem ik_318 {w : Wd} (hw : WOK w) (hN : wn w = NT) : isk w 318 12 := ⟨by rw [hN]; decide, by decide +kernel⟩
theorem ik_319 {w : Wd} (hw : WOK w) (hN : wn w = NT) : isk w 319 13 := ⟨by rw [hN]; decide, by decide +kernel⟩
theorem ik_320 {w : Wd} (hw : WOK w) (hN : wn w = NT) : isk w 320 13 := ⟨by rw [hN]; decide, by decide +kernel⟩
theorem ik_321 {w : Wd} (hw : WOK w) (hN : wn w = NT) : isk w 321 13 := ⟨by rw [hN]; decide, by decide +kernel⟩
theorem ik_322 {w : Wd} (hw : WOK w) (hN : wn w = NT) : isk w 322 13 := ⟨by rw [hN]; decide, by decide +kernel⟩
theorem ik_323 {w : Wd} (hw : WOK w) (hN : wn w = NT) : isk w 323 12 := ⟨by rw [hN]; decide, by decide +kernel⟩
theorem rf_0_0 : rf 0 0 = 1 := by decide +kernel
theorem rf_0_1 : rf 0 1 = 17 := by decide +kernel
theorem rf_0_3 : rf 0 3 = 33 := by decide +kernel
theorem rf_0_6 : rf 0 6 = 34 := by decide +kernel
theorem rf_0_8 : rf 0 8 = 35 := by decide +kernel
theorem rf_0_9 : rf 0 9 = 40 := by decide +kernel
theorem rf_0_10 : rf 0 10 = 72 := by decide +kernel
theorem rf_0_11 : rf 0 11 = 80 := by decide +kernel
theorem rf_0_12 : rf 0 12 = 128 := by decide +kernel
theorem rf_0_13 : rf 0 13 = 135 := by decide +kernel
theorem rf_0_14 : rf 0 14 = 144 := by decide +kernel
theorem rf_0_15 : rf 0 15 = 176 := by decide +kernel
theorem rf_0_16 : rf 0 16 = 177 := by decide +kernel
theorem rf_1_0 : rf 1 0 = 2 := by decide +kernel
theorem rf_1_1 : rf 1 1 = 5 := by decide +kernel
theorem rf_1_2 : rf 1 2 = 16 := by decide +kernel
theorem rf_2_1 : rf 2 1 = 3 := by decide +kernel
theorem rf_35_0 : rf 35 0 = 36 := by decide +kernel
theorem rf_35_2 : rf 35 2 = 37 := by decide +kernel
theorem rf_35_4 : rf 35 4 = 38 := by decide +kernel
theorem rf_35_6 : rf 35 6 = 39 := by decide +kernel
theorem rf_40_0 : rf 40 0 = 41 := by decide +kernel
theorem rf_40_1 : rf 40 1 = 35 := by decide +kernel
theorem rf_40_2 : rf 40 2 = 44 := by decide +kernel
theorem rf_40_5 : rf 40 5 = 45 := by decide +kernel
theorem rf_40_7 : rf 40 7 = 46 := by decide +kernel
theorem rf_40_8 : rf 40 8 = 47 := by decide +kernel
theorem rf_41_1 : rf 41 1 = 42 := by decide +kernel
theorem rf_72_0 : rf 72 0 = 40 := by decide +kernel
theorem rf_72_1 : rf 72 1 = 73 := by decide +kernel
theorem rf_72_2 : rf 72 2 = 74 := by decide +kernel
theorem rf_72_3 : rf 72 3 = 75 := by decide +kernel
theorem rf_72_4 : rf 72 4 = 76 := by decide +kernel
theorem rf_72_5 : rf 72 5 = 77 := by decide +kernel
theorem rf_72_6 : rf 72 6 = 78 := by decide +kernel
theorem rf_72_7 : rf 72 7 = 79 := by decide +kernel
theorem rf_80_0 : rf 80 0 = 40 := by decide +kernel
theorem rf_80_1 : rf 80 1 = 81 := by decide +kernel
theorem rf_80_2 : rf 80 2 = 90 := by decide +kernel
theorem rf_80_3 : rf 80 3 = 99 := by decide +kernel
theorem rf_80_4 : rf 80 4 = 100 := by decide +kernel
theorem rf_80_5 : rf 80 5 = 101 := by decide +kernel
theorem rf_80_6 : rf 80 6 = 102 := by decide +kernel
theorem rf_80_7 : rf 80 7 = 103 := by decide +kernel
theorem rf_81_1 : rf 81 1 = 82 := by decide +kernel
theorem rf_128_0 : rf 128 0 = 40 := by decide +kernel
theorem rf_128_1 : rf 128 1 = 72 := by decide +kernel
theorem rf_128_3 : rf 128 3 = 129 := by decide +kernel
theorem rf_128_4 : rf 128 4 = 130 := by decide +kernel
theorem rf_128_5 : rf 128 5 = 131 := by decide +kernel
theorem rf_128_7 : rf 128 7 = 132 := by decide +kernel
theorem rf_128_8 : rf 128 8 = 133 := by decide +kernel
theorem rf_128_9 : rf 128 9 = 134 := by decide +kernel
theorem rf_144_2 : rf 144 2 = 145 := by decide +kernel
theorem rf_144_3 : rf 144 3 = 155 := by decide +kernel
theorem rf_144_4 : rf 144 4 = 165 := by decide +kernel
theorem rf_144_5 : rf 144 5 = 1 := by decide +kernel
theorem rf_144_6 : rf 144 6 = 72 := by decide +kernel
theorem rf_144_7 : rf 144 7 = 175 := by decide +kernel
theorem rf_306_1 : rf 306 1 = 307 := by decide +kernel
theorem rf_306_2 : rf 306 2 = 308 := by decide +kernel
theorem rf_306_5 : rf 306 5 = 309 := by decide +kernel
theorem rf_306_8 : rf 306 8 = 310 := by decide +kernel
theorem rf_306_11 : rf 306 11 = 311 := by decide +kernel
theorem rf_306_12 : rf 306 12 = 312 := by decide +kernel
theorem rf_306_13 : rf 306 13 = 313 := by decide +kernel
theorem rf_306_14 : rf 306 14 = 314 := by decide +kernel
theorem rf_306_15 : rf 306 15 = 315 := by decide +kernel
theorem rf_306_16 : rf 306 16 = 316 := by decide +kernel
theorem rf_306_17 : rf 306 17 = 317 := by decide +kernel
theorem rf_306_26 : rf 306 26 = 318 := by decide +kernel
theorem rf_306_28 : rf 306 28 = 319 := by decide +kernel
theorem rf_306_30 : rf 306 30 = 320 := by decide +kernel
theorem rf_306_32 : rf 306 32 = 321 := by decide +kernel
theorem rf_306_35 : rf 306 35 = 322 := by decide +kernel
theorem rf_306_38 : rf 306 38 = 323 := by decide +kernel
theorem ok_0_0 : FOK 0 0 RX0 TX0 8 true := ⟨by decide, rfl, by decide, ws_0, by rfl⟩
theorem ok_0_1 : FOK 0 1 RX0 TX0 8 true := ⟨by decide, rfl, by decide, ws_0, by rfl⟩
theorem ok_0_2 : FOK 0 2 RX0 TX0 8 true := ⟨by decide, rfl, by decide, ws_0, by rfl⟩
theorem ok_0_3 : FOK 0 3 RX0 TX0 8 true := ⟨by decide, rfl, by decide, ws_0, by rfl⟩
theorem ok_0_4 : FOK 0 4 RX0 TX0 8 true := ⟨by decide, rfl, by decide, ws_0, by rfl⟩
theorem ok_0_5 : FOK 0 5 RX0 TX0 8 true := ⟨by decide, rfl, by decide, ws_0, by rfl⟩
theorem ok_0_6 : FOK 0 6 RX0 TX0 8 true := ⟨by decide, rfl, by decide, ws_0, by rfl⟩
theorem ok_0_7 : FOK 0 7 RX0 TX0 8 true := ⟨by decide, rfl, by decide, ws_0, by rfl⟩
theorem ok_1_0 : FOK 1 0 RX1 TX1 10 true := ⟨by decide, rfl, by decide, ws_1, by rfl⟩
theorem ok_1_1 : FOK 1 1 RX1 TX1 10 true := ⟨by decide, rfl, by decide, ws_1, by rfl⟩
theorem ok_1_2 : FOK 1 2 RX1 TX1 10 false := ⟨by decide, rfl, by decide, ws_1, by rfl⟩
theorem ok_1_3 : FOK 1 3 RX1 TX1 10 true := ⟨by decide, rfl, by decide, ws_1, by rfl⟩
theorem ok_1_4 : FOK 1 4 RX1 TX1 10 true := ⟨by decide, rfl, by decide, ws_1, by rfl⟩
theorem ok_1_5 : FOK 1 5 RX1 TX1 10 true := ⟨by decide, rfl, by decide, ws_1, by rfl⟩
theorem ok_1_6 : FOK 1 6 RX1 TX1 10 false := ⟨by decide, rfl, by decide, ws_1, by rfl⟩
theorem ok_1_7 : FOK 1 7 RX1 TX1 10 true := ⟨by decide, rfl, by decide, ws_1, by rfl⟩
theorem ok_1_8 : FOK 1 8 RX1 TX1 10 true := ⟨by decide, rfl, by decide, ws_1, by rfl⟩
theorem ok_1_9 : FOK 1 9 RX1 TX1 10 true := ⟨by decide, rfl, by decide, ws_1, by rfl⟩
theorem ok_2_0 : FOK 2 0 RX2 TX2 7 true := ⟨by decide, rfl, by decide, ws_2, by rfl⟩
theorem ok_2_1 : FOK 2 1 RX2 TX2 7 false := ⟨by decide, rfl, by decide, ws_2, by rfl⟩
theorem ok_2_2 : FOK 2 2 RX2 TX2 7 true := ⟨by decide, rfl, by decide, ws_2, by rfl⟩
theorem ok_2_3 : FOK 2 3 RX2 TX2 7 false := ⟨by decide, rfl, by decide, ws_2, by rfl⟩
theorem ok_2_4 : FOK 2 4 RX2 TX2 7 true := ⟨by decide, rfl, by decide, ws_2, by rfl⟩
theorem ok_2_5 : FOK 2 5 RX2 TX2 7 false := ⟨by decide, rfl, by decide, ws_2, by rfl⟩
theorem ok_2_6 : FOK 2 6 RX2 TX2 7 true := ⟨by decide, rfl, by decide, ws_2, by rfl⟩
theorem ok_3_0 : FOK 3 0 RX3 TX3 3 false := ⟨by decide, rfl, by decide, ws_3, by rfl⟩
theorem ok_3_1 : FOK 3 1 RX3 TX3 3 true := ⟨by decide, rfl, by decide, ws_3, by rfl⟩
theorem ok_3_2 : FOK 3 2 RX3 TX3 3 true := ⟨by decide, rfl, by decide, ws_3, by rfl⟩
theorem ok_4_0 : FOK 4 0 RX4 TX4 9 true := ⟨by decide, rfl, by decide, ws_4, by rfl⟩
theorem ok_4_1 : FOK 4 1 RX4 TX4 9 true := ⟨by decide, rfl, by decide, ws_4, by rfl⟩
theorem ok_4_2 : FOK 4 2 RX4 TX4 9 true := ⟨by decide, rfl, by decide, ws_4, by rfl⟩
theorem ok_4_3 : FOK 4 3 RX4 TX4 9 false := ⟨by decide, rfl, by decide, ws_4, by rfl⟩
theorem ok_4_4 : FOK 4 4 RX4 TX4 9 false := ⟨by decide, rfl, by decide, ws_4, by rfl⟩
theorem ok_4_5 : FOK 4 5 RX4 TX4 9 true := ⟨by decide, rfl, by decide, ws_4, by rfl⟩
theorem ok_4_6 : FOK 4 6 RX4 TX4 9 false := ⟨by decide, rfl, by decide, ws_4, by rfl⟩
theorem ok_4_7 : FOK 4 7 RX4 TX4 9 true := ⟨by decide, rfl, by decide, ws_4, by rfl⟩
theorem ok_4_8 : FOK 4 8 RX4 TX4 9 true := ⟨by decide, rfl, by decide, ws_4, by rfl⟩
theorem ok_5_0 : FOK 5 0 RX5 TX5 11 false := ⟨by decide, rfl, by decide, ws_5, by rfl⟩
theorem ok_5_1 : FOK 5 1 RX5 TX5 11 false := ⟨by decide, rfl, by decide, ws_5, by rfl⟩
theorem ok_5_2 : FOK 5 2 RX5 TX5 11 true := ⟨by decide, rfl, by decide, ws_5, by rfl⟩
theorem ok_5_3 : FOK 5 3 RX5 TX5 11 true := ⟨by decide, rfl, by decide, ws_5, by rfl⟩
theorem ok_5_4 : FOK 5 4 RX5 TX5 11 true := ⟨by decide, rfl, by decide, ws_5, by rfl⟩
theorem ok_5_5 : FOK 5 5 RX5 TX5 11 true := ⟨by decide, rfl, by decide, ws_5, by rfl⟩
theorem ok_5_6 : FOK 5 6 RX5 TX5 11 true := ⟨by decide, rfl, by decide, ws_5, by rfl⟩
theorem ok_5_7 : FOK 5 7 RX5 TX5 11 true := ⟨by decide, rfl, by decide, ws_5, by rfl⟩
theorem ok_5_8 : FOK 5 8 RX5 TX5 11 false := ⟨by decide, rfl, by decide, ws_5, by rfl⟩
theorem ok_5_9 : FOK 5 9 RX5 TX5 11 false := ⟨by decide, rfl, by decide, ws_5, by rfl⟩
theorem ok_5_10 : FOK 5 10 RX5 TX5 11 false := ⟨by decide, rfl, by decide, ws_5, by rfl⟩
theorem ok_6_0 : FOK 6 0 RX6 TX6 3 false := ⟨by decide, rfl, by decide, ws_6, by rfl⟩
theorem ok_6_1 : FOK 6 1 RX6 TX6 3 true := ⟨by decide, rfl, by decide, ws_6, by rfl⟩
theorem ok_6_2 : FOK 6 2 RX6 TX6 3 true := ⟨by decide, rfl, by decide, ws_6, by rfl⟩
theorem ok_7_0 : FOK 7 0 RX7 TX7 11 true := ⟨by decide, rfl, by decide, ws_7, by rfl⟩
theorem ok_7_1 : FOK 7 1 RX7 TX7 11 true := ⟨by decide, rfl, by decide, ws_7, by rfl⟩
theorem ok_7_2 : FOK 7 2 RX7 TX7 11 true := ⟨by decide, rfl, by decide, ws_7, by rfl⟩
theorem ok_7_3 : FOK 7 3 RX7 TX7 11 true := ⟨by decide, rfl, by decide, ws_7, by rfl⟩
theorem ok_7_4 : FOK 7 4 RX7 TX7 11 true := ⟨by decide, rfl, by decide, ws_7, by rfl⟩
theorem ok_7_5 : FOK 7 5 RX7 TX7 11 true := ⟨by decide, rfl, by decide, ws_7, by rfl⟩
theorem ok_7_6 : FOK 7 6 RX7 TX7 11 true := ⟨by decide, rfl, by decide, ws_7, by rfl⟩
theorem ok_7_7 : FOK 7 7 RX7 TX7 11 true := ⟨by decide, rfl, by decide, ws_7, by rfl⟩
theorem ok_7_8 : FOK 7 8 RX7 TX7 11 false := ⟨by decide, rfl, by decide, ws_7, by rfl⟩
theorem ok_7_9 : FOK 7 9 RX7 TX7 11 false := ⟨by decide, rfl, by decide, ws_7, by rfl⟩
theorem ok_7_10 : FOK 7 10 RX7 TX7 11 false := ⟨by decide, rfl, by decide, ws_7, by rfl⟩
theorem ok_8_0 : FOK 8 0 RX8 TX8 3 true := ⟨by decide, rfl, by decide, ws_8, by rfl⟩
theorem ok_8_1 : FOK 8 1 RX8 TX8 3 true := ⟨by decide, rfl, by decide, ws_8, by rfl⟩
theorem ok_8_2 : FOK 8 2 RX8 TX8 3 true := ⟨by decide, rfl, by decide, ws_8, by rfl⟩
theorem ok_9_0 : FOK 9 0 RX9 TX9 4 false := ⟨by decide, rfl, by decide, ws_9, by rfl⟩
theorem ok_9_1 : FOK 9 1 RX9 TX9 4 true := ⟨by decide, rfl, by decide, ws_9, by rfl⟩
theorem ok_9_2 : FOK 9 2 RX9 TX9 4 true := ⟨by decide, rfl, by decide, ws_9, by rfl⟩
theorem ok_9_3 : FOK 9 3 RX9 TX9 4 true := ⟨by decide, rfl, by decide, ws_9, by rfl⟩
theorem ok_10_0 : FOK 10 0 RX10 TX10 17 true := ⟨by decide, rfl, by decide, ws_10, by rfl⟩
theorem ok_10_1 : FOK 10 1 RX10 TX10 17 true := ⟨by decide, rfl, by decide, ws_10, by rfl⟩
theorem ok_10_2 : FOK 10 2 RX10 TX10 17 false := ⟨by decide, rfl, by decide, ws_10, by rfl⟩
theorem ok_10_3 : FOK 10 3 RX10 TX10 17 true := ⟨by decide, rfl, by decide, ws_10, by rfl⟩
theorem ok_10_4 : FOK 10 4 RX10 TX10 17 false := ⟨by decide, rfl, by decide, ws_10, by rfl⟩
theorem ok_10_5 : FOK 10 5 RX10 TX10 17 false := ⟨by decide, rfl, by decide, ws_10, by rfl⟩
theorem ok_10_6 : FOK 10 6 RX10 TX10 17 true := ⟨by decide, rfl, by decide, ws_10, by rfl⟩
theorem ok_10_7 : FOK 10 7 RX10 TX10 17 false := ⟨by decide, rfl, by decide, ws_10, by rfl⟩
theorem ok_10_8 : FOK 10 8 RX10 TX10 17 true := ⟨by decide, rfl, by decide, ws_10, by rfl⟩
theorem ok_10_9 : FOK 10 9 RX10 TX10 17 true := ⟨by decide, rfl, by decide, ws_10, by rfl⟩
theorem ok_10_10 : FOK 10 10 RX10 TX10 17 true := ⟨by decide, rfl, by decide, ws_10, by rfl⟩
theorem ok_10_11 : FOK 10 11 RX10 TX10 17 true := ⟨by decide, rfl, by decide, ws_10, by rfl⟩
theorem ok_10_12 : FOK 10 12 RX10 TX10 17 true := ⟨by decide, rfl, by decide, ws_10, by rfl⟩
theorem ok_10_13 : FOK 10 13 RX10 TX10 17 true := ⟨by decide, rfl, by decide, ws_10, by rfl⟩
theorem ok_10_14 : FOK 10 14 RX10 TX10 17 true := ⟨by decide, rfl, by decide, ws_10, by rfl⟩
theorem ok_10_15 : FOK 10 15 RX10 TX10 17 true := ⟨by decide, rfl, by decide, ws_10, by rfl⟩
theorem ok_10_16 : FOK 10 16 RX10 TX10 17 true := ⟨by decide, rfl, by decide, ws_10, by rfl⟩
theorem ok_11_0 : FOK 11 0 RX11 TX11 39 false := ⟨by decide, rfl, by decide, ws_11, by rfl⟩
theorem ok_11_1 : FOK 11 1 RX11 TX11 39 true := ⟨by decide, rfl, by decide, ws_11, by rfl⟩
theorem ok_11_2 : FOK 11 2 RX11 TX11 39 true := ⟨by decide, rfl, by decide, ws_11, by rfl⟩
theorem ok_11_3 : FOK 11 3 RX11 TX11 39 false := ⟨by decide, rfl, by decide, ws_11, by rfl⟩
theorem ok_11_4 : FOK 11 4 RX11 TX11 39 false := ⟨by decide, rfl, by decide, ws_11, by rfl⟩
theorem ok_11_5 : FOK 11 5 RX11 TX11 39 true := ⟨by decide, rfl, by decide, ws_11, by rfl⟩
theorem ok_11_6 : FOK 11 6 RX11 TX11 39 false := ⟨by decide, rfl, by decide, ws_11, by rfl⟩
theorem ok_11_7 : FOK 11 7 RX11 TX11 39 false := ⟨by decide, rfl, by decide, ws_11, by rfl⟩
theorem ok_11_8 : FOK 11 8 RX11 TX11 39 true := ⟨by decide, rfl, by decide, ws_11, by rfl⟩
theorem ok_11_9 : FOK 11 9 RX11 TX11 39 false := ⟨by decide, rfl, by decide, ws_11, by rfl⟩
theorem ok_11_10 : FOK 11 10 RX11 TX11 39 false := ⟨by decide, rfl, by decide, ws_11, by rfl⟩
theorem ok_11_11 : FOK 11 11 RX11 TX11 39 true := ⟨by decide, rfl, by decide, ws_11, by rfl⟩
theorem ok_11_12 : FOK 11 12 RX11 TX11 39 true := ⟨by decide, rfl, by decide, ws_11, by rfl⟩
theorem ok_11_13 : FOK 11 13 RX11 TX11 39 true := ⟨by decide, rfl, by decide, ws_11, by rfl⟩
theorem ok_11_14 : FOK 11 14 RX11 TX11 39 true := ⟨by decide, rfl, by decide, ws_11, by rfl⟩
theorem ok_11_15 : FOK 11 15 RX11 TX11 39 true := ⟨by decide, rfl, by decide, ws_11, by rfl⟩
theorem ok_11_16 : FOK 11 16 RX11 TX11 39 true := ⟨by decide, rfl, by decide, ws_11, by rfl⟩
theorem ok_11_17 : FOK 11 17 RX11 TX11 39 true := ⟨by decide, rfl, by decide, ws_11, by rfl⟩
theorem ok_11_18 : FOK 11 18 RX11 TX11 39 false := ⟨by decide, rfl, by decide, ws_11, by rfl⟩
theorem ok_11_19 : FOK 11 19 RX11 TX11 39 false := ⟨by decide, rfl, by decide, ws_11, by rfl⟩
theorem ok_11_20 : FOK 11 20 RX11 TX11 39 false := ⟨by decide, rfl, by decide, ws_11, by rfl⟩
theorem ok_11_21 : FOK 11 21 RX11 TX11 39 false := ⟨by decide, rfl, by decide, ws_11, by rfl⟩
theorem ok_11_22 : FOK 11 22 RX11 TX11 39 false := ⟨by decide, rfl, by decide, ws_11, by rfl⟩
theorem ok_11_23 : FOK 11 23 RX11 TX11 39 false := ⟨by decide, rfl, by decide, ws_11, by rfl⟩
theorem ok_11_24 : FOK 11 24 RX11 TX11 39 false := ⟨by decide, rfl, by decide, ws_11, by rfl⟩
theorem ok_11_25 : FOK 11 25 RX11 TX11 39 false := ⟨by decide, rfl, by decide, ws_11, by rfl⟩
theorem ok_11_26 : FOK 11 26 RX11 TX11 39 true := ⟨by decide, rfl, by decide, ws_11, by rfl⟩
theorem ok_11_27 : FOK 11 27 RX11 TX11 39 false := ⟨by decide, rfl, by decide, ws_11, by rfl⟩
theorem ok_11_28 : FOK 11 28 RX11 TX11 39 true := ⟨by decide, rfl, by decide, ws_11, by rfl⟩
theorem ok_11_29 : FOK 11 29 RX11 TX11 39 false := ⟨by decide, rfl, by decide, ws_11, by rfl⟩
theorem ok_11_30 : FOK 11 30 RX11 TX11 39 true := ⟨by decide, rfl, by decide, ws_11, by rfl⟩
theorem ok_11_31 : FOK 11 31 RX11 TX11 39 false := ⟨by decide, rfl, by decide, ws_11, by rfl⟩
theorem ok_11_32 : FOK 11 32 RX11 TX11 39 true := ⟨by decide, rfl, by decide, ws_11, by rfl⟩
theorem ok_11_33 : FOK 11 33 RX11 TX11 39 false := ⟨by decide, rfl, by decide, ws_11, by rfl⟩
theorem ok_11_34 : FOK 11 34 RX11 TX11 39 false := ⟨by decide, rfl, by decide, ws_11, by rfl⟩
theorem ok_11_35 : FOK 11 35 RX11 TX11 39 true := ⟨by decide, rfl, by decide, ws_11, by rfl⟩
theorem ok_11_36 : FOK 11 36 RX11 TX11 39 false := ⟨by decide, rfl, by decide, ws_11, by rfl⟩
theorem ok_11_37 : FOK 11 37 RX11 TX11 39 false := ⟨by decide, rfl, by decide, ws_11, by rfl⟩
theorem ok_11_38 : FOK 11 38 RX11 TX11 39 true := ⟨by decide, rfl, by decide, ws_11, by rfl⟩
theorem okp_1_2 : FOKp 1 2 TX1 10 .int := ⟨⟨tyX1, tyX1_ok⟩, nmX1, by decide +kernel, by decide +kernel, by decide +kernel⟩
theorem okp_1_6 : FOKp 1 6 TX1 10 .int := ⟨⟨tyX1, tyX1_ok⟩, nmX1, by decide +kernel, by decide +kernel, by decide +kernel⟩
theorem okp_2_1 : FOKp 2 1 TX2 7 .int := ⟨⟨tyX2, tyX2_ok⟩, nmX2, by decide +kernel, by decide +kernel, by decide +kernel⟩
theorem okp_2_3 : FOKp 2 3 TX2 7 .int := ⟨⟨tyX2, tyX2_ok⟩, nmX2, by decide +kernel, by decide +kernel, by decide +kernel⟩
theorem okp_2_5 : FOKp 2 5 TX2 7 .int := ⟨⟨tyX2, tyX2_ok⟩, nmX2, by decide +kernel, by decide +kernel, by decide +kernel⟩
theorem okp_3_0 : FOKp 3 0 TX3 3 .int := ⟨⟨tyX3, tyX3_ok⟩, nmX3, by decide +kernel, by decide +kernel, by decide +kernel⟩
theorem okp_4_3 : FOKp 4 3 TX4 9 .boolean := ⟨⟨tyX4, tyX4_ok⟩, nmX4, by decide +kernel, by decide +kernel, by decide +kernel⟩
theorem okp_4_4 : FOKp 4 4 TX4 9 .int := ⟨⟨tyX4, tyX4_ok⟩, nmX4, by decide +kernel, by decide +kernel, by decide +kernel⟩
theorem okp_4_6 : FOKp 4 6 TX4 9 .int := ⟨⟨tyX4, tyX4_ok⟩, nmX4, by decide +kernel, by decide +kernel, by decide +kernel⟩
theorem okp_5_0 : FOKp 5 0 TX5 11 .int := ⟨⟨tyX5, tyX5_ok⟩, nmX5, by decide +kernel, by decide +kernel, by decide +kernel⟩
theorem okp_5_1 : FOKp 5 1 TX5 11 .int := ⟨⟨tyX5, tyX5_ok⟩, nmX5, by decide +kernel, by decide +kernel, by decide +kernel⟩
theorem okp_5_8 : FOKp 5 8 TX5 11 .int := ⟨⟨tyX5, tyX5_ok⟩, nmX5, by decide +kernel, by decide +kernel, by decide +kernel⟩
theorem okp_5_9 : FOKp 5 9 TX5 11 .int := ⟨⟨tyX5, tyX5_ok⟩, nmX5, by decide +kernel, by decide +kernel, by decide +kernel⟩
theorem okp_5_10 : FOKp 5 10 TX5 11 .int := ⟨⟨tyX5, tyX5_ok⟩, nmX5, by decide +kernel, by decide +kernel, by decide +kernel⟩
theorem okp_6_0 : FOKp 6 0 TX6 3 .int := ⟨⟨tyX6, tyX6_ok⟩, nmX6, by decide +kernel, by decide +kernel, by decide +kernel⟩
theorem okp_7_8 : FOKp 7 8 TX7 11 .int := ⟨⟨tyX7, tyX7_ok⟩, nmX7, by decide +kernel, by decide +kernel, by decide +kernel⟩
theorem okp_7_9 : FOKp 7 9 TX7 11 .int := ⟨⟨tyX7, tyX7_ok⟩, nmX7, by decide +kernel, by decide +kernel, by decide +kernel⟩
theorem okp_7_10 : FOKp 7 10 TX7 11 .int := ⟨⟨tyX7, tyX7_ok⟩, nmX7, by decide +kernel, by decide +kernel, by decide +kernel⟩
theorem okp_9_0 : FOKp 9 0 TX9 4 .int := ⟨⟨tyX9, tyX9_ok⟩, nmX9, by decide +kernel, by decide +kernel, by decide +kernel⟩
theorem okp_10_2 : FOKp 10 2 TX10 17 .boolean := ⟨⟨tyX10, tyX10_ok⟩, nmX10, by decide +kernel, by decide +kernel, by decide +kernel⟩
theorem okp_10_4 : FOKp 10 4 TX10 17 .int := ⟨⟨tyX10, tyX10_ok⟩, nmX10, by decide +kernel, by decide +kernel, by decide +kernel⟩
theorem okp_10_5 : FOKp 10 5 TX10 17 .int := ⟨⟨tyX10, tyX10_ok⟩, nmX10, by decide +kernel, by decide +kernel, by decide +kernel⟩
theorem okp_10_7 : FOKp 10 7 TX10 17 .int := ⟨⟨tyX10, tyX10_ok⟩, nmX10, by decide +kernel, by decide +kernel, by decide +kernel⟩
theorem okp_11_0 : FOKp 11 0 TX11 39 .int := ⟨⟨tyX11, tyX11_ok⟩, nmX11, by decide +kernel, by decide +kernel, by decide +kernel⟩
theorem okp_11_3 : FOKp 11 3 TX11 39 .int := ⟨⟨tyX11, tyX11_ok⟩, nmX11, by decide +kernel, by decide +kernel, by decide +kernel⟩
theorem okp_11_4 : FOKp 11 4 TX11 39 .int := ⟨⟨tyX11, tyX11_ok⟩, nmX11, by decide +kernel, by decide +kernel, by decide +kernel⟩
theorem okp_11_6 : FOKp 11 6 TX11 39 .int := ⟨⟨tyX11, tyX11_ok⟩, nmX11, by decide +kernel, by decide +kernel, by decide +kernel⟩
theorem okp_11_7 : FOKp 11 7 TX11 39 .int := ⟨⟨tyX11, tyX11_ok⟩, nmX11, by decide +kernel, by decide +kernel, by decide +kernel⟩
theorem okp_11_9 : FOKp 11 9 TX11 39 .boolean := ⟨⟨tyX11, tyX11_ok⟩, nmX11, by decide +kernel, by decide +kernel, by decide +kernel⟩
theorem okp_11_10 : FOKp 11 10 TX11 39 .boolean := ⟨⟨tyX11, tyX11_ok⟩, nmX11, by decide +kernel, by decide +kernel, by decide +kernel⟩
theorem okp_11_18 : FOKp 11 18 TX11 39 .int := ⟨⟨tyX11, tyX11_ok⟩, nmX11, by decide +kernel, by decide +kernel, by decide +kernel⟩
theorem okp_11_19 : FOKp 11 19 TX11 39 .int := ⟨⟨tyX11, tyX11_ok⟩, nmX11, by decide +kernel, by decide +kernel, by decide +kernel⟩
theorem okp_11_20 : FOKp 11 20 TX11 39 .int := ⟨⟨tyX11, tyX11_ok⟩, nmX11, by decide +kernel, by decide +kernel, by decide +kernel⟩
theorem okp_11_21 : FOKp 11 21 TX11 39 .int := ⟨⟨tyX11, tyX11_ok⟩, nmX11, by decide +kernel, by decide +kernel, by decide +kernel⟩
theorem okp_11_22 : FOKp 11 22 TX11 39 .int := ⟨⟨tyX11, tyX11_ok⟩, nmX11, by decide +kernel, by decide +kernel, by decide +kernel⟩
theorem okp_11_23 : FOKp 11 23 TX11 39 .int := ⟨⟨tyX11, tyX11_ok⟩, nmX11, by decide +kernel, by decide +kernel, by decide +kernel⟩
theorem okp_11_24 : FOKp 11 24 TX11 39 .int := ⟨⟨tyX11, tyX11_ok⟩, nmX11, by decide +kernel, by decide +kernel, by decide +kernel⟩
theorem okp_11_25 : FOKp 11 25 TX11 39 .int := ⟨⟨tyX11, tyX11_ok⟩, nmX11, by decide +kernel, by decide +kernel, by decide +kernel⟩
theorem okp_11_27 : FOKp 11 27 TX11 39 .int := ⟨⟨tyX11, tyX11_ok⟩, nmX11, by decide +kernel, by decide +kernel, by decide +kernel⟩
theorem okp_11_29 : FOKp 11 29 TX11 39 .int := ⟨⟨tyX11, tyX11_ok⟩, nmX11, by decide +kernel, by decide +kernel, by decide +kernel⟩
theorem okp_11_31 : FOKp 11 31 TX11 39 .int := ⟨⟨tyX11, tyX11_ok⟩, nmX11, by decide +kernel, by decide +kernel, by decide +kernel⟩
theorem okp_11_33 : FOKp 11 33 TX11 39 .boolean := ⟨⟨tyX11, tyX11_ok⟩, nmX11, by decide +kernel, by decide +kernel, by decide +kernel⟩
theorem okp_11_34 : FOKp 11 34 TX11 39 .int := ⟨⟨tyX11, tyX11_ok⟩, nmX11, by decide +kernel, by decide +kernel, by decide +kernel⟩
theorem okp_11_36 : FOKp 11 36 TX11 39 .int := ⟨⟨tyX11, tyX11_ok⟩, nmX11, by decide +kernel, by decide +kernel, by decide +kernel⟩
theorem okp_11_37 : FOKp 11 37 TX11 39 .boolean := ⟨⟨tyX11, tyX11_ok⟩, nmX11, by decide +kernel, by decide +kernel, by decide +kernel⟩
