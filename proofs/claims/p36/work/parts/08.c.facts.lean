theorem ic_b_m2 : (Int8.ofInt (-2)).toInt32 = (-2 : Int32) := by decide +kernel
theorem ic_b_6 : (Int8.ofInt (6)).toInt32 = (6 : Int32) := by decide +kernel
theorem ic_b_8 : (Int8.ofInt (8)).toInt32 = (8 : Int32) := by decide +kernel
theorem ic_b_10 : (Int8.ofInt (10)).toInt32 = (10 : Int32) := by decide +kernel
theorem ic_b_11 : (Int8.ofInt (11)).toInt32 = (11 : Int32) := by decide +kernel
theorem ic_b_12 : (Int8.ofInt (12)).toInt32 = (12 : Int32) := by decide +kernel
theorem ic_b_24 : (Int8.ofInt (24)).toInt32 = (24 : Int32) := by decide +kernel
theorem ic_b_63 : (Int8.ofInt (63)).toInt32 = (63 : Int32) := by decide +kernel
theorem ic_b_64 : (Int8.ofInt (64)).toInt32 = (64 : Int32) := by decide +kernel
theorem ic_b_97 : (Int8.ofInt (97)).toInt32 = (97 : Int32) := by decide +kernel
theorem ic_i_m8 : Int32.ofInt (-8) = (-8 : Int32) := by decide +kernel
theorem ic_i_m1 : Int32.ofInt (-1) = (-1 : Int32) := by decide +kernel
theorem ic_i_0 : Int32.ofInt (0) = (0 : Int32) := by decide +kernel
theorem ic_i_1 : Int32.ofInt (1) = (1 : Int32) := by decide +kernel
theorem ic_i_2 : Int32.ofInt (2) = (2 : Int32) := by decide +kernel
theorem ic_i_3 : Int32.ofInt (3) = (3 : Int32) := by decide +kernel
theorem ic_i_4 : Int32.ofInt (4) = (4 : Int32) := by decide +kernel
theorem ic_i_5 : Int32.ofInt (5) = (5 : Int32) := by decide +kernel
theorem ic_l_0 : Int64.ofNat ((0 : Fin 2) : Nat) = (0 : Int64) := by decide +kernel
theorem ic_l_1 : Int64.ofNat ((1 : Fin 2) : Nat) = (1 : Int64) := by decide +kernel
theorem ic_s_m10000 : (Int16.ofInt (-10000)).toInt32 = (-10000 : Int32) := by decide +kernel
theorem ic_s_m999 : (Int16.ofInt (-999)).toInt32 = (-999 : Int32) := by decide +kernel
theorem ic_s_180 : (Int16.ofInt (180)).toInt32 = (180 : Int32) := by decide +kernel
theorem ic_s_200 : (Int16.ofInt (200)).toInt32 = (200 : Int32) := by decide +kernel
theorem ic_s_255 : (Int16.ofInt (255)).toInt32 = (255 : Int32) := by decide +kernel
theorem ic_s_455 : (Int16.ofInt (455)).toInt32 = (455 : Int32) := by decide +kernel
theorem ic_s_947 : (Int16.ofInt (947)).toInt32 = (947 : Int32) := by decide +kernel
theorem ic_s_999 : (Int16.ofInt (999)).toInt32 = (999 : Int32) := by decide +kernel
theorem ic_s_1000 : (Int16.ofInt (1000)).toInt32 = (1000 : Int32) := by decide +kernel
theorem ic_s_12076 : (Int16.ofInt (12076)).toInt32 = (12076 : Int32) := by decide +kernel
theorem wf_0_0 {w : Wd} (hw : WOK w) {a : Nat} (h : isk w a 0) : isk w (rf a 0) 4 := isk_f hw h (by decide)
theorem wf_0_1 {w : Wd} (hw : WOK w) {a : Nat} (h : isk w a 0) : isk w (rf a 1) 13 := isk_f hw h (by decide)
theorem wf_0_2 {w : Wd} (hw : WOK w) {a : Nat} (h : isk w a 0) : isk w (rf a 2) 13 := isk_f hw h (by decide)
theorem wf_0_3 {w : Wd} (hw : WOK w) {a : Nat} (h : isk w a 0) : isk w (rf a 3) 13 := isk_f hw h (by decide)
theorem wf_0_4 {w : Wd} (hw : WOK w) {a : Nat} (h : isk w a 0) : isk w (rf a 4) 13 := isk_f hw h (by decide)
theorem wf_0_5 {w : Wd} (hw : WOK w) {a : Nat} (h : isk w a 0) : isk w (rf a 5) 13 := isk_f hw h (by decide)
theorem wf_0_6 {w : Wd} (hw : WOK w) {a : Nat} (h : isk w a 0) : isk w (rf a 6) 13 := isk_f hw h (by decide)
theorem wf_0_7 {w : Wd} (hw : WOK w) {a : Nat} (h : isk w a 0) : isk w (rf a 7) 13 := isk_f hw h (by decide)
theorem wf_1_0 {w : Wd} (hw : WOK w) {a : Nat} (h : isk w a 1) : isk w (rf a 0) 4 := isk_f hw h (by decide)
theorem wf_1_1 {w : Wd} (hw : WOK w) {a : Nat} (h : isk w a 1) : isk w (rf a 1) 0 := isk_f hw h (by decide)
theorem wf_1_3 {w : Wd} (hw : WOK w) {a : Nat} (h : isk w a 1) : isk w (rf a 3) 12 := isk_f hw h (by decide)
theorem wf_1_4 {w : Wd} (hw : WOK w) {a : Nat} (h : isk w a 1) : isk w (rf a 4) 13 := isk_f hw h (by decide)
theorem wf_1_5 {w : Wd} (hw : WOK w) {a : Nat} (h : isk w a 1) : isk w (rf a 5) 12 := isk_f hw h (by decide)
theorem wf_1_7 {w : Wd} (hw : WOK w) {a : Nat} (h : isk w a 1) : isk w (rf a 7) 13 := isk_f hw h (by decide)
theorem wf_1_8 {w : Wd} (hw : WOK w) {a : Nat} (h : isk w a 1) : isk w (rf a 8) 13 := isk_f hw h (by decide)
theorem wf_1_9 {w : Wd} (hw : WOK w) {a : Nat} (h : isk w a 1) : isk w (rf a 9) 13 := isk_f hw h (by decide)
theorem wf_2_0 {w : Wd} (hw : WOK w) {a : Nat} (h : isk w a 2) : isk w (rf a 0) 12 := isk_f hw h (by decide)
theorem wf_2_2 {w : Wd} (hw : WOK w) {a : Nat} (h : isk w a 2) : isk w (rf a 2) 12 := isk_f hw h (by decide)
theorem wf_2_4 {w : Wd} (hw : WOK w) {a : Nat} (h : isk w a 2) : isk w (rf a 4) 12 := isk_f hw h (by decide)
theorem wf_2_6 {w : Wd} (hw : WOK w) {a : Nat} (h : isk w a 2) : isk w (rf a 6) 12 := isk_f hw h (by decide)
theorem wf_3_1 {w : Wd} (hw : WOK w) {a : Nat} (h : isk w a 3) : isk w (rf a 1) 16 := isk_f hw h (by decide)
theorem wf_3_2 {w : Wd} (hw : WOK w) {a : Nat} (h : isk w a 3) : isk w (rf a 2) 13 := isk_f hw h (by decide)
theorem wf_4_0 {w : Wd} (hw : WOK w) {a : Nat} (h : isk w a 4) : isk w (rf a 0) 6 := isk_f hw h (by decide)
theorem wf_4_1 {w : Wd} (hw : WOK w) {a : Nat} (h : isk w a 4) : isk w (rf a 1) 2 := isk_f hw h (by decide)
theorem wf_4_2 {w : Wd} (hw : WOK w) {a : Nat} (h : isk w a 4) : isk w (rf a 2) 15 := isk_f hw h (by decide)
theorem wf_4_5 {w : Wd} (hw : WOK w) {a : Nat} (h : isk w a 4) : isk w (rf a 5) 12 := isk_f hw h (by decide)
theorem wf_4_7 {w : Wd} (hw : WOK w) {a : Nat} (h : isk w a 4) : isk w (rf a 7) 13 := isk_f hw h (by decide)
theorem wf_4_8 {w : Wd} (hw : WOK w) {a : Nat} (h : isk w a 4) : isk w (rf a 8) 12 := isk_f hw h (by decide)
theorem wf_5_2 {w : Wd} (hw : WOK w) {a : Nat} (h : isk w a 5) : isk w (rf a 2) 16 := isk_f hw h (by decide)
theorem wf_5_3 {w : Wd} (hw : WOK w) {a : Nat} (h : isk w a 5) : isk w (rf a 3) 16 := isk_f hw h (by decide)
theorem wf_5_4 {w : Wd} (hw : WOK w) {a : Nat} (h : isk w a 5) : isk w (rf a 4) 16 := isk_f hw h (by decide)
theorem wf_5_5 {w : Wd} (hw : WOK w) {a : Nat} (h : isk w a 5) : isk w (rf a 5) 8 := isk_f hw h (by decide)
theorem wf_5_6 {w : Wd} (hw : WOK w) {a : Nat} (h : isk w a 5) : isk w (rf a 6) 0 := isk_f hw h (by decide)
theorem wf_5_7 {w : Wd} (hw : WOK w) {a : Nat} (h : isk w a 5) : isk w (rf a 7) 12 := isk_f hw h (by decide)
theorem wf_6_1 {w : Wd} (hw : WOK w) {a : Nat} (h : isk w a 6) : isk w (rf a 1) 12 := isk_f hw h (by decide)
theorem wf_6_2 {w : Wd} (hw : WOK w) {a : Nat} (h : isk w a 6) : isk w (rf a 2) 12 := isk_f hw h (by decide)
theorem wf_7_0 {w : Wd} (hw : WOK w) {a : Nat} (h : isk w a 7) : isk w (rf a 0) 4 := isk_f hw h (by decide)
theorem wf_7_1 {w : Wd} (hw : WOK w) {a : Nat} (h : isk w a 7) : isk w (rf a 1) 3 := isk_f hw h (by decide)
theorem wf_7_2 {w : Wd} (hw : WOK w) {a : Nat} (h : isk w a 7) : isk w (rf a 2) 3 := isk_f hw h (by decide)
theorem wf_7_3 {w : Wd} (hw : WOK w) {a : Nat} (h : isk w a 7) : isk w (rf a 3) 15 := isk_f hw h (by decide)
theorem wf_7_4 {w : Wd} (hw : WOK w) {a : Nat} (h : isk w a 7) : isk w (rf a 4) 13 := isk_f hw h (by decide)
theorem wf_7_5 {w : Wd} (hw : WOK w) {a : Nat} (h : isk w a 7) : isk w (rf a 5) 13 := isk_f hw h (by decide)
theorem wf_7_6 {w : Wd} (hw : WOK w) {a : Nat} (h : isk w a 7) : isk w (rf a 6) 13 := isk_f hw h (by decide)
theorem wf_7_7 {w : Wd} (hw : WOK w) {a : Nat} (h : isk w a 7) : isk w (rf a 7) 13 := isk_f hw h (by decide)
theorem wf_8_0 {w : Wd} (hw : WOK w) {a : Nat} (h : isk w a 8) : isk w (rf a 0) 6 := isk_f hw h (by decide)
theorem wf_8_1 {w : Wd} (hw : WOK w) {a : Nat} (h : isk w a 8) : isk w (rf a 1) 16 := isk_f hw h (by decide)
theorem wf_8_2 {w : Wd} (hw : WOK w) {a : Nat} (h : isk w a 8) : isk w (rf a 2) 12 := isk_f hw h (by decide)
theorem wf_9_1 {w : Wd} (hw : WOK w) {a : Nat} (h : isk w a 9) : isk w (rf a 1) 12 := isk_f hw h (by decide)
theorem wf_9_2 {w : Wd} (hw : WOK w) {a : Nat} (h : isk w a 9) : isk w (rf a 2) 13 := isk_f hw h (by decide)
theorem wf_9_3 {w : Wd} (hw : WOK w) {a : Nat} (h : isk w a 9) : isk w (rf a 3) 12 := isk_f hw h (by decide)
theorem wf_10_0 {w : Wd} (hw : WOK w) {a : Nat} (h : isk w a 10) : isk w (rf a 0) 8 := isk_f hw h (by decide)
theorem wf_10_1 {w : Wd} (hw : WOK w) {a : Nat} (h : isk w a 10) : isk w (rf a 1) 8 := isk_f hw h (by decide)
theorem wf_10_3 {w : Wd} (hw : WOK w) {a : Nat} (h : isk w a 10) : isk w (rf a 3) 14 := isk_f hw h (by decide)
theorem wf_10_6 {w : Wd} (hw : WOK w) {a : Nat} (h : isk w a 10) : isk w (rf a 6) 12 := isk_f hw h (by decide)
theorem wf_10_8 {w : Wd} (hw : WOK w) {a : Nat} (h : isk w a 10) : isk w (rf a 8) 2 := isk_f hw h (by decide)
theorem wf_10_9 {w : Wd} (hw : WOK w) {a : Nat} (h : isk w a 10) : isk w (rf a 9) 4 := isk_f hw h (by decide)
theorem wf_10_10 {w : Wd} (hw : WOK w) {a : Nat} (h : isk w a 10) : isk w (rf a 10) 0 := isk_f hw h (by decide)
theorem wf_10_11 {w : Wd} (hw : WOK w) {a : Nat} (h : isk w a 10) : isk w (rf a 11) 7 := isk_f hw h (by decide)
theorem wf_10_12 {w : Wd} (hw : WOK w) {a : Nat} (h : isk w a 10) : isk w (rf a 12) 1 := isk_f hw h (by decide)
theorem wf_10_13 {w : Wd} (hw : WOK w) {a : Nat} (h : isk w a 10) : isk w (rf a 13) 3 := isk_f hw h (by decide)
theorem wf_10_14 {w : Wd} (hw : WOK w) {a : Nat} (h : isk w a 10) : isk w (rf a 14) 5 := isk_f hw h (by decide)
theorem wf_10_15 {w : Wd} (hw : WOK w) {a : Nat} (h : isk w a 10) : isk w (rf a 15) 13 := isk_f hw h (by decide)
theorem wf_10_16 {w : Wd} (hw : WOK w) {a : Nat} (h : isk w a 10) : isk w (rf a 16) 13 := isk_f hw h (by decide)
theorem ik_0 {w : Wd} (hw : WOK w) : isk w 0 10 := ⟨by rcases hw with h | h <;> rw [h] <;> decide, by decide +kernel⟩
theorem ik_1 {w : Wd} (hw : WOK w) : isk w 1 8 := ⟨by rcases hw with h | h <;> rw [h] <;> decide, by decide +kernel⟩
theorem ik_2 {w : Wd} (hw : WOK w) : isk w 2 6 := ⟨by rcases hw with h | h <;> rw [h] <;> decide, by decide +kernel⟩
theorem ik_5 {w : Wd} (hw : WOK w) : isk w 5 16 := ⟨by rcases hw with h | h <;> rw [h] <;> decide, by decide +kernel⟩
theorem ik_16 {w : Wd} (hw : WOK w) : isk w 16 12 := ⟨by rcases hw with h | h <;> rw [h] <;> decide, by decide +kernel⟩
theorem ik_33 {w : Wd} (hw : WOK w) : isk w 33 14 := ⟨by rcases hw with h | h <;> rw [h] <;> decide, by decide +kernel⟩
theorem ik_34 {w : Wd} (hw : WOK w) : isk w 34 12 := ⟨by rcases hw with h | h <;> rw [h] <;> decide, by decide +kernel⟩
theorem ik_35 {w : Wd} (hw : WOK w) : isk w 35 2 := ⟨by rcases hw with h | h <;> rw [h] <;> decide, by decide +kernel⟩
theorem ik_36 {w : Wd} (hw : WOK w) : isk w 36 12 := ⟨by rcases hw with h | h <;> rw [h] <;> decide, by decide +kernel⟩
theorem ik_37 {w : Wd} (hw : WOK w) : isk w 37 12 := ⟨by rcases hw with h | h <;> rw [h] <;> decide, by decide +kernel⟩
theorem ik_38 {w : Wd} (hw : WOK w) : isk w 38 12 := ⟨by rcases hw with h | h <;> rw [h] <;> decide, by decide +kernel⟩
theorem ik_39 {w : Wd} (hw : WOK w) : isk w 39 12 := ⟨by rcases hw with h | h <;> rw [h] <;> decide, by decide +kernel⟩
theorem ik_40 {w : Wd} (hw : WOK w) : isk w 40 4 := ⟨by rcases hw with h | h <;> rw [h] <;> decide, by decide +kernel⟩
theorem ik_41 {w : Wd} (hw : WOK w) : isk w 41 6 := ⟨by rcases hw with h | h <;> rw [h] <;> decide, by decide +kernel⟩
theorem ik_42 {w : Wd} (hw : WOK w) : isk w 42 12 := ⟨by rcases hw with h | h <;> rw [h] <;> decide, by decide +kernel⟩
theorem ik_44 {w : Wd} (hw : WOK w) : isk w 44 15 := ⟨by rcases hw with h | h <;> rw [h] <;> decide, by decide +kernel⟩
theorem ik_45 {w : Wd} (hw : WOK w) : isk w 45 12 := ⟨by rcases hw with h | h <;> rw [h] <;> decide, by decide +kernel⟩
theorem ik_46 {w : Wd} (hw : WOK w) : isk w 46 13 := ⟨by rcases hw with h | h <;> rw [h] <;> decide, by decide +kernel⟩
theorem ik_47 {w : Wd} (hw : WOK w) : isk w 47 12 := ⟨by rcases hw with h | h <;> rw [h] <;> decide, by decide +kernel⟩
theorem ik_72 {w : Wd} (hw : WOK w) : isk w 72 0 := ⟨by rcases hw with h | h <;> rw [h] <;> decide, by decide +kernel⟩
theorem ik_73 {w : Wd} (hw : WOK w) : isk w 73 13 := ⟨by rcases hw with h | h <;> rw [h] <;> decide, by decide +kernel⟩
theorem ik_176 {w : Wd} (hw : WOK w) : isk w 176 13 := ⟨by rcases hw with h | h <;> rw [h] <;> decide, by decide +kernel⟩
theorem ik_177 {w : Wd} (hw : WOK w) : isk w 177 13 := ⟨by rcases hw with h | h <;> rw [h] <;> decide, by decide +kernel⟩
theorem rf_0_0 : rf 0 0 = 1 := by decide +kernel
theorem rf_0_3 : rf 0 3 = 33 := by decide +kernel
theorem rf_0_6 : rf 0 6 = 34 := by decide +kernel
theorem rf_0_8 : rf 0 8 = 35 := by decide +kernel
theorem rf_0_9 : rf 0 9 = 40 := by decide +kernel
theorem rf_0_10 : rf 0 10 = 72 := by decide +kernel
theorem rf_0_15 : rf 0 15 = 176 := by decide +kernel
theorem rf_0_16 : rf 0 16 = 177 := by decide +kernel
theorem rf_1_0 : rf 1 0 = 2 := by decide +kernel
theorem rf_1_1 : rf 1 1 = 5 := by decide +kernel
theorem rf_1_2 : rf 1 2 = 16 := by decide +kernel
theorem rf_35_0 : rf 35 0 = 36 := by decide +kernel
theorem rf_35_2 : rf 35 2 = 37 := by decide +kernel
theorem rf_35_4 : rf 35 4 = 38 := by decide +kernel
theorem rf_35_6 : rf 35 6 = 39 := by decide +kernel
theorem rf_40_0 : rf 40 0 = 41 := by decide +kernel
theorem rf_40_1 : rf 40 1 = 35 := by decide +kernel
theorem rf_40_2 : rf 40 2 = 44 := by decide +kernel
theorem rf_40_5 : rf 40 5 = 45 := by decide +kernel
theorem rf_40_7 : rf 40 7 = 46 := by decide +kernel
theorem rf_40_8 : rf 40 8 = 47 := by decide +kernel
theorem rf_41_1 : rf 41 1 = 42 := by decide +kernel
theorem rf_72_0 : rf 72 0 = 40 := by decide +kernel
theorem rf_72_1 : rf 72 1 = 73 := by decide +kernel
theorem ok_0_0 : FOK 0 0 RX0 TX0 8 true := ⟨by decide, rfl, by decide, ws_0, by rfl⟩
theorem ok_0_1 : FOK 0 1 RX0 TX0 8 true := ⟨by decide, rfl, by decide, ws_0, by rfl⟩
theorem ok_2_0 : FOK 2 0 RX2 TX2 7 true := ⟨by decide, rfl, by decide, ws_2, by rfl⟩
theorem ok_2_1 : FOK 2 1 RX2 TX2 7 false := ⟨by decide, rfl, by decide, ws_2, by rfl⟩
theorem ok_2_2 : FOK 2 2 RX2 TX2 7 true := ⟨by decide, rfl, by decide, ws_2, by rfl⟩
theorem ok_2_3 : FOK 2 3 RX2 TX2 7 false := ⟨by decide, rfl, by decide, ws_2, by rfl⟩
theorem ok_2_4 : FOK 2 4 RX2 TX2 7 true := ⟨by decide, rfl, by decide, ws_2, by rfl⟩
theorem ok_2_5 : FOK 2 5 RX2 TX2 7 false := ⟨by decide, rfl, by decide, ws_2, by rfl⟩
theorem ok_2_6 : FOK 2 6 RX2 TX2 7 true := ⟨by decide, rfl, by decide, ws_2, by rfl⟩
theorem ok_4_0 : FOK 4 0 RX4 TX4 9 true := ⟨by decide, rfl, by decide, ws_4, by rfl⟩
theorem ok_4_1 : FOK 4 1 RX4 TX4 9 true := ⟨by decide, rfl, by decide, ws_4, by rfl⟩
theorem ok_4_2 : FOK 4 2 RX4 TX4 9 true := ⟨by decide, rfl, by decide, ws_4, by rfl⟩
theorem ok_4_3 : FOK 4 3 RX4 TX4 9 false := ⟨by decide, rfl, by decide, ws_4, by rfl⟩
theorem ok_4_4 : FOK 4 4 RX4 TX4 9 false := ⟨by decide, rfl, by decide, ws_4, by rfl⟩
theorem ok_4_5 : FOK 4 5 RX4 TX4 9 true := ⟨by decide, rfl, by decide, ws_4, by rfl⟩
theorem ok_4_6 : FOK 4 6 RX4 TX4 9 false := ⟨by decide, rfl, by decide, ws_4, by rfl⟩
theorem ok_4_7 : FOK 4 7 RX4 TX4 9 true := ⟨by decide, rfl, by decide, ws_4, by rfl⟩
theorem ok_4_8 : FOK 4 8 RX4 TX4 9 true := ⟨by decide, rfl, by decide, ws_4, by rfl⟩
theorem ok_6_0 : FOK 6 0 RX6 TX6 3 false := ⟨by decide, rfl, by decide, ws_6, by rfl⟩
theorem ok_6_1 : FOK 6 1 RX6 TX6 3 true := ⟨by decide, rfl, by decide, ws_6, by rfl⟩
theorem ok_6_2 : FOK 6 2 RX6 TX6 3 true := ⟨by decide, rfl, by decide, ws_6, by rfl⟩
theorem ok_8_0 : FOK 8 0 RX8 TX8 3 true := ⟨by decide, rfl, by decide, ws_8, by rfl⟩
theorem ok_8_1 : FOK 8 1 RX8 TX8 3 true := ⟨by decide, rfl, by decide, ws_8, by rfl⟩
theorem ok_8_2 : FOK 8 2 RX8 TX8 3 true := ⟨by decide, rfl, by decide, ws_8, by rfl⟩
theorem ok_9_0 : FOK 9 0 RX9 TX9 4 false := ⟨by decide, rfl, by decide, ws_9, by rfl⟩
theorem ok_9_1 : FOK 9 1 RX9 TX9 4 true := ⟨by decide, rfl, by decide, ws_9, by rfl⟩
theorem ok_9_2 : FOK 9 2 RX9 TX9 4 true := ⟨by decide, rfl, by decide, ws_9, by rfl⟩
theorem ok_9_3 : FOK 9 3 RX9 TX9 4 true := ⟨by decide, rfl, by decide, ws_9, by rfl⟩
theorem ok_10_0 : FOK 10 0 RX10 TX10 17 true := ⟨by decide, rfl, by decide, ws_10, by rfl⟩
theorem ok_10_3 : FOK 10 3 RX10 TX10 17 true := ⟨by decide, rfl, by decide, ws_10, by rfl⟩
theorem ok_10_4 : FOK 10 4 RX10 TX10 17 false := ⟨by decide, rfl, by decide, ws_10, by rfl⟩
theorem ok_10_5 : FOK 10 5 RX10 TX10 17 false := ⟨by decide, rfl, by decide, ws_10, by rfl⟩
theorem ok_10_6 : FOK 10 6 RX10 TX10 17 true := ⟨by decide, rfl, by decide, ws_10, by rfl⟩
theorem ok_10_7 : FOK 10 7 RX10 TX10 17 false := ⟨by decide, rfl, by decide, ws_10, by rfl⟩
theorem ok_10_8 : FOK 10 8 RX10 TX10 17 true := ⟨by decide, rfl, by decide, ws_10, by rfl⟩
theorem ok_10_9 : FOK 10 9 RX10 TX10 17 true := ⟨by decide, rfl, by decide, ws_10, by rfl⟩
theorem ok_10_10 : FOK 10 10 RX10 TX10 17 true := ⟨by decide, rfl, by decide, ws_10, by rfl⟩
theorem ok_10_15 : FOK 10 15 RX10 TX10 17 true := ⟨by decide, rfl, by decide, ws_10, by rfl⟩
theorem ok_10_16 : FOK 10 16 RX10 TX10 17 true := ⟨by decide, rfl, by decide, ws_10, by rfl⟩
theorem okp_2_1 : FOKp 2 1 TX2 7 .int := ⟨⟨tyX2, tyX2_ok⟩, nmX2, by decide +kernel, by decide +kernel, by decide +kernel⟩
theorem okp_2_3 : FOKp 2 3 TX2 7 .int := ⟨⟨tyX2, tyX2_ok⟩, nmX2, by decide +kernel, by decide +kernel, by decide +kernel⟩
theorem okp_2_5 : FOKp 2 5 TX2 7 .int := ⟨⟨tyX2, tyX2_ok⟩, nmX2, by decide +kernel, by decide +kernel, by decide +kernel⟩
theorem okp_4_3 : FOKp 4 3 TX4 9 .boolean := ⟨⟨tyX4, tyX4_ok⟩, nmX4, by decide +kernel, by decide +kernel, by decide +kernel⟩
theorem okp_4_4 : FOKp 4 4 TX4 9 .int := ⟨⟨tyX4, tyX4_ok⟩, nmX4, by decide +kernel, by decide +kernel, by decide +kernel⟩
theorem okp_4_6 : FOKp 4 6 TX4 9 .int := ⟨⟨tyX4, tyX4_ok⟩, nmX4, by decide +kernel, by decide +kernel, by decide +kernel⟩
theorem okp_6_0 : FOKp 6 0 TX6 3 .int := ⟨⟨tyX6, tyX6_ok⟩, nmX6, by decide +kernel, by decide +kernel, by decide +kernel⟩
theorem okp_9_0 : FOKp 9 0 TX9 4 .int := ⟨⟨tyX9, tyX9_ok⟩, nmX9, by decide +kernel, by decide +kernel, by decide +kernel⟩
theorem okp_10_4 : FOKp 10 4 TX10 17 .int := ⟨⟨tyX10, tyX10_ok⟩, nmX10, by decide +kernel, by decide +kernel, by decide +kernel⟩
theorem okp_10_5 : FOKp 10 5 TX10 17 .int := ⟨⟨tyX10, tyX10_ok⟩, nmX10, by decide +kernel, by decide +kernel, by decide +kernel⟩
theorem okp_10_7 : FOKp 10 7 TX10 17 .int := ⟨⟨tyX10, tyX10_ok⟩, nmX10, by decide +kernel, by decide +kernel, by decide +kernel⟩
