-- ===== PART A: goes FIRST, ahead of the names: the tables' words, and 'selects' of the private methods out of them =====
/-- a private method of a class that the tables say can be made, by its rows of tables_1 -/
def lw_okq (q : MethodName × Nat) : Prop := (q.1.cls ≠ "java/lang/invoke/MethodHandle" ∧ q.1.cls ≠ "java/lang/invoke/VarHandle") ∧ Cond.instantiable q.1.cls q.2 ∈ tables_1 ∧ Cond.privateMethod q.1 ∈ tables_1 ∧ Cond.instanceMethod q.1 ∈ tables_1
theorem tq_1 : ∀ w, w ∈ tables_1_1 → w ∈ tables_1 := fun w h => show w ∈ tables_1 from List.mem_append_left _ h
theorem tq_2 : ∀ w, w ∈ tables_1_2 → w ∈ tables_1 := fun w h => show w ∈ tables_1 from List.mem_append_right _ (List.mem_append_left _ h)
theorem tq_3 : ∀ w, w ∈ tables_1_3 → w ∈ tables_1 := fun w h => show w ∈ tables_1 from List.mem_append_right _ (List.mem_append_right _ (List.mem_append_left _ h))
theorem tq_4 : ∀ w, w ∈ tables_1_4 → w ∈ tables_1 := fun w h => show w ∈ tables_1 from List.mem_append_right _ (List.mem_append_right _ (List.mem_append_right _ (List.mem_append_left _ h)))
theorem tq_5 : ∀ w, w ∈ tables_1_5 → w ∈ tables_1 := fun w h => show w ∈ tables_1 from List.mem_append_right _ (List.mem_append_right _ (List.mem_append_right _ (List.mem_append_right _ (List.mem_append_left _ h))))
theorem tq_6 : ∀ w, w ∈ tables_1_6 → w ∈ tables_1 := fun w h => show w ∈ tables_1 from List.mem_append_right _ (List.mem_append_right _ (List.mem_append_right _ (List.mem_append_right _ (List.mem_append_right _ (List.mem_append_left _ h)))))
theorem tq_7 : ∀ w, w ∈ tables_1_7 → w ∈ tables_1 := fun w h => show w ∈ tables_1 from List.mem_append_right _ (List.mem_append_right _ (List.mem_append_right _ (List.mem_append_right _ (List.mem_append_right _ (List.mem_append_right _ (List.mem_append_left _ h))))))
theorem tq_8 : ∀ w, w ∈ tables_1_8 → w ∈ tables_1 := fun w h => show w ∈ tables_1 from List.mem_append_right _ (List.mem_append_right _ (List.mem_append_right _ (List.mem_append_right _ (List.mem_append_right _ (List.mem_append_right _ (List.mem_append_right _ (h)))))))
theorem lw_p0 : lw_okq (⟨"HallRegisters$Law", "areOverlapsAlike", "()Z"⟩, 9) := ⟨⟨by decide +kernel, by decide +kernel⟩, tq_1 _ (List.mem_of_getElem? (i := 108) rfl), tq_2 _ (List.mem_of_getElem? (i := 152) rfl), tq_2 _ (List.mem_of_getElem? (i := 153) rfl)⟩
theorem lw_p1 : lw_okq (⟨"HallRegisters$Law", "isOverlapAlike", "(III)Z"⟩, 9) := ⟨⟨by decide +kernel, by decide +kernel⟩, tq_1 _ (List.mem_of_getElem? (i := 108) rfl), tq_2 _ (List.mem_of_getElem? (i := 156) rfl), tq_2 _ (List.mem_of_getElem? (i := 157) rfl)⟩
theorem lw_p2 : lw_okq (⟨"HallRegisters$Collector", "putAhead", "(I)V"⟩, 7) := ⟨⟨by decide +kernel, by decide +kernel⟩, tq_1 _ (List.mem_of_getElem? (i := 78) rfl), tq_2 _ (List.mem_of_getElem? (i := 181) rfl), tq_2 _ (List.mem_of_getElem? (i := 182) rfl)⟩
theorem lw_p3 : lw_okq (⟨"HallRegisters$Collector", "moveOn", "(I)V"⟩, 7) := ⟨⟨by decide +kernel, by decide +kernel⟩, tq_1 _ (List.mem_of_getElem? (i := 78) rfl), tq_2 _ (List.mem_of_getElem? (i := 186) rfl), tq_2 _ (List.mem_of_getElem? (i := 187) rfl)⟩
theorem lw_p4 : lw_okq (⟨"HallRegisters$Collector", "exchange", "(LHallRegisters$Rules;II)V"⟩, 7) := ⟨⟨by decide +kernel, by decide +kernel⟩, tq_1 _ (List.mem_of_getElem? (i := 78) rfl), tq_2 _ (List.mem_of_getElem? (i := 190) rfl), tq_2 _ (List.mem_of_getElem? (i := 191) rfl)⟩
theorem lw_p5 : lw_okq (⟨"HallRegisters$Collector", "countLetters", "()V"⟩, 7) := ⟨⟨by decide +kernel, by decide +kernel⟩, tq_1 _ (List.mem_of_getElem? (i := 78) rfl), tq_2 _ (List.mem_of_getElem? (i := 194) rfl), tq_2 _ (List.mem_of_getElem? (i := 195) rfl)⟩
theorem lw_p6 : lw_okq (⟨"HallRegisters$Law", "findTerms", "()V"⟩, 9) := ⟨⟨by decide +kernel, by decide +kernel⟩, tq_1 _ (List.mem_of_getElem? (i := 108) rfl), tq_2 _ (List.mem_of_getElem? (i := 200) rfl), tq_2 _ (List.mem_of_getElem? (i := 201) rfl)⟩
theorem lw_p7 : lw_okq (⟨"HallRegisters$Law", "goToNextPoint", "()Z"⟩, 9) := ⟨⟨by decide +kernel, by decide +kernel⟩, tq_1 _ (List.mem_of_getElem? (i := 108) rfl), tq_2 _ (List.mem_of_getElem? (i := 205) rfl), tq_2 _ (List.mem_of_getElem? (i := 206) rfl)⟩
theorem lw_p8 : lw_okq (⟨"HallRegisters$Law", "findTermsAtPoint", "()V"⟩, 9) := ⟨⟨by decide +kernel, by decide +kernel⟩, tq_1 _ (List.mem_of_getElem? (i := 108) rfl), tq_2 _ (List.mem_of_getElem? (i := 213) rfl), tq_2 _ (List.mem_of_getElem? (i := 214) rfl)⟩
theorem lw_p9 : lw_okq (⟨"HallRegisters", "beginGroupAct", "()V"⟩, 17) := ⟨⟨by decide +kernel, by decide +kernel⟩, tq_1 _ (List.mem_of_getElem? (i := 17) rfl), tq_3 _ (List.mem_of_getElem? (i := 54) rfl), tq_3 _ (List.mem_of_getElem? (i := 55) rfl)⟩
theorem lw_p10 : lw_okq (⟨"HallRegisters", "beginAct", "()V"⟩, 17) := ⟨⟨by decide +kernel, by decide +kernel⟩, tq_1 _ (List.mem_of_getElem? (i := 17) rfl), tq_3 _ (List.mem_of_getElem? (i := 58) rfl), tq_3 _ (List.mem_of_getElem? (i := 59) rfl)⟩
theorem lw_p11 : lw_okq (⟨"HallRegisters", "isGenerator", "(I)Z"⟩, 17) := ⟨⟨by decide +kernel, by decide +kernel⟩, tq_1 _ (List.mem_of_getElem? (i := 17) rfl), tq_3 _ (List.mem_of_getElem? (i := 107) rfl), tq_3 _ (List.mem_of_getElem? (i := 108) rfl)⟩
theorem lw_p12 : lw_okq (⟨"HallRegisters", "hasPolynomial", "(I)Z"⟩, 17) := ⟨⟨by decide +kernel, by decide +kernel⟩, tq_1 _ (List.mem_of_getElem? (i := 17) rfl), tq_3 _ (List.mem_of_getElem? (i := 130) rfl), tq_3 _ (List.mem_of_getElem? (i := 131) rfl)⟩
theorem lw_p13 : lw_okq (⟨"HallRegisters", "areUsable", "(II)Z"⟩, 17) := ⟨⟨by decide +kernel, by decide +kernel⟩, tq_1 _ (List.mem_of_getElem? (i := 17) rfl), tq_3 _ (List.mem_of_getElem? (i := 174) rfl), tq_3 _ (List.mem_of_getElem? (i := 175) rfl)⟩
theorem lw_p14 : lw_okq (⟨"HallRegisters", "keepCounted", "(I)Z"⟩, 17) := ⟨⟨by decide +kernel, by decide +kernel⟩, tq_1 _ (List.mem_of_getElem? (i := 17) rfl), tq_3 _ (List.mem_of_getElem? (i := 184) rfl), tq_3 _ (List.mem_of_getElem? (i := 185) rfl)⟩
theorem lw_p15 : lw_okq (⟨"HallRegisters", "keep", "(I)Z"⟩, 17) := ⟨⟨by decide +kernel, by decide +kernel⟩, tq_1 _ (List.mem_of_getElem? (i := 17) rfl), tq_3 _ (List.mem_of_getElem? (i := 192) rfl), tq_3 _ (List.mem_of_getElem? (i := 193) rfl)⟩
def lw_privs_1 : List (MethodName × Nat) := [(⟨"HallRegisters$Law", "areOverlapsAlike", "()Z"⟩, 9), (⟨"HallRegisters$Law", "isOverlapAlike", "(III)Z"⟩, 9), (⟨"HallRegisters$Collector", "putAhead", "(I)V"⟩, 7), (⟨"HallRegisters$Collector", "moveOn", "(I)V"⟩, 7), (⟨"HallRegisters$Collector", "exchange", "(LHallRegisters$Rules;II)V"⟩, 7), (⟨"HallRegisters$Collector", "countLetters", "()V"⟩, 7), (⟨"HallRegisters$Law", "findTerms", "()V"⟩, 9), (⟨"HallRegisters$Law", "goToNextPoint", "()Z"⟩, 9), (⟨"HallRegisters$Law", "findTermsAtPoint", "()V"⟩, 9), (⟨"HallRegisters", "beginGroupAct", "()V"⟩, 17), (⟨"HallRegisters", "beginAct", "()V"⟩, 17), (⟨"HallRegisters", "isGenerator", "(I)Z"⟩, 17), (⟨"HallRegisters", "hasPolynomial", "(I)Z"⟩, 17), (⟨"HallRegisters", "areUsable", "(II)Z"⟩, 17), (⟨"HallRegisters", "keepCounted", "(I)Z"⟩, 17), (⟨"HallRegisters", "keep", "(I)Z"⟩, 17)]
theorem lw_r1 : ∀ q ∈ lw_privs_1, lw_okq q := List.forall_mem_cons.mpr ⟨lw_p0, List.forall_mem_cons.mpr ⟨lw_p1, List.forall_mem_cons.mpr ⟨lw_p2, List.forall_mem_cons.mpr ⟨lw_p3, List.forall_mem_cons.mpr ⟨lw_p4, List.forall_mem_cons.mpr ⟨lw_p5, List.forall_mem_cons.mpr ⟨lw_p6, List.forall_mem_cons.mpr ⟨lw_p7, List.forall_mem_cons.mpr ⟨lw_p8, List.forall_mem_cons.mpr ⟨lw_p9, List.forall_mem_cons.mpr ⟨lw_p10, List.forall_mem_cons.mpr ⟨lw_p11, List.forall_mem_cons.mpr ⟨lw_p12, List.forall_mem_cons.mpr ⟨lw_p13, List.forall_mem_cons.mpr ⟨lw_p14, List.forall_mem_cons.mpr ⟨lw_p15, fun _ h => absurd h List.not_mem_nil⟩⟩⟩⟩⟩⟩⟩⟩⟩⟩⟩⟩⟩⟩⟩⟩
theorem lw_p16 : lw_okq (⟨"HallRegisters$Arithmetic", "powerAt", "(IJ)J"⟩, 8) := ⟨⟨by decide +kernel, by decide +kernel⟩, tq_1 _ (List.mem_of_getElem? (i := 178) rfl), tq_3 _ (List.mem_of_getElem? (i := 219) rfl), tq_3 _ (List.mem_of_getElem? (i := 220) rfl)⟩
theorem lw_p17 : lw_okq (⟨"HallRegisters$Arithmetic", "putRoot", "(IJ)V"⟩, 8) := ⟨⟨by decide +kernel, by decide +kernel⟩, tq_1 _ (List.mem_of_getElem? (i := 178) rfl), tq_4 _ (List.mem_of_getElem? (i := 15) rfl), tq_4 _ (List.mem_of_getElem? (i := 16) rfl)⟩
theorem lw_p18 : lw_okq (⟨"HallRegisters$Search", "findGaps", "([J[J)V"⟩, 11) := ⟨⟨by decide +kernel, by decide +kernel⟩, tq_1 _ (List.mem_of_getElem? (i := 209) rfl), tq_4 _ (List.mem_of_getElem? (i := 29) rfl), tq_4 _ (List.mem_of_getElem? (i := 30) rfl)⟩
theorem lw_p19 : lw_okq (⟨"HallRegisters$Search", "findGap", "(LHallRegisters$Sum;LHallRegisters$Sum;)V"⟩, 11) := ⟨⟨by decide +kernel, by decide +kernel⟩, tq_1 _ (List.mem_of_getElem? (i := 209) rfl), tq_4 _ (List.mem_of_getElem? (i := 34) rfl), tq_4 _ (List.mem_of_getElem? (i := 35) rfl)⟩
theorem lw_p20 : lw_okq (⟨"HallRegisters$Search", "putU", "(J)V"⟩, 11) := ⟨⟨by decide +kernel, by decide +kernel⟩, tq_1 _ (List.mem_of_getElem? (i := 209) rfl), tq_4 _ (List.mem_of_getElem? (i := 48) rfl), tq_4 _ (List.mem_of_getElem? (i := 49) rfl)⟩
theorem lw_p21 : lw_okq (⟨"HallRegisters$Search", "setU", "(IJ)V"⟩, 11) := ⟨⟨by decide +kernel, by decide +kernel⟩, tq_1 _ (List.mem_of_getElem? (i := 209) rfl), tq_4 _ (List.mem_of_getElem? (i := 52) rfl), tq_4 _ (List.mem_of_getElem? (i := 53) rfl)⟩
theorem lw_p22 : lw_okq (⟨"HallRegisters$Search", "areClosed", "(II)Z"⟩, 11) := ⟨⟨by decide +kernel, by decide +kernel⟩, tq_1 _ (List.mem_of_getElem? (i := 209) rfl), tq_4 _ (List.mem_of_getElem? (i := 57) rfl), tq_4 _ (List.mem_of_getElem? (i := 58) rfl)⟩
theorem lw_p23 : lw_okq (⟨"HallRegisters$Search", "findWithin", "(II)Z"⟩, 11) := ⟨⟨by decide +kernel, by decide +kernel⟩, tq_1 _ (List.mem_of_getElem? (i := 209) rfl), tq_4 _ (List.mem_of_getElem? (i := 62) rfl), tq_4 _ (List.mem_of_getElem? (i := 63) rfl)⟩
theorem lw_p24 : lw_okq (⟨"HallRegisters", "feedNumber", "(I)V"⟩, 17) := ⟨⟨by decide +kernel, by decide +kernel⟩, tq_1 _ (List.mem_of_getElem? (i := 17) rfl), tq_4 _ (List.mem_of_getElem? (i := 72) rfl), tq_4 _ (List.mem_of_getElem? (i := 73) rfl)⟩
theorem lw_p25 : lw_okq (⟨"HallRegisters$Reader", "readWord", "(I)Z"⟩, 11) := ⟨⟨by decide +kernel, by decide +kernel⟩, tq_2 _ (List.mem_of_getElem? (i := 68) rfl), tq_4 _ (List.mem_of_getElem? (i := 95) rfl), tq_4 _ (List.mem_of_getElem? (i := 96) rfl)⟩
theorem lw_p26 : lw_okq (⟨"HallRegisters$Reader", "skipBlanks", "()I"⟩, 11) := ⟨⟨by decide +kernel, by decide +kernel⟩, tq_2 _ (List.mem_of_getElem? (i := 68) rfl), tq_4 _ (List.mem_of_getElem? (i := 100) rfl), tq_4 _ (List.mem_of_getElem? (i := 101) rfl)⟩
theorem lw_p27 : lw_okq (⟨"HallRegisters$Reader", "signHere", "()I"⟩, 11) := ⟨⟨by decide +kernel, by decide +kernel⟩, tq_2 _ (List.mem_of_getElem? (i := 68) rfl), tq_4 _ (List.mem_of_getElem? (i := 104) rfl), tq_4 _ (List.mem_of_getElem? (i := 105) rfl)⟩
theorem lw_p28 : lw_okq (⟨"HallRegisters$Reader", "readFactor", "(I)Z"⟩, 11) := ⟨⟨by decide +kernel, by decide +kernel⟩, tq_2 _ (List.mem_of_getElem? (i := 68) rfl), tq_4 _ (List.mem_of_getElem? (i := 111) rfl), tq_4 _ (List.mem_of_getElem? (i := 112) rfl)⟩
theorem lw_p29 : lw_okq (⟨"HallRegisters$Reader", "readRegister", "([J)Z"⟩, 11) := ⟨⟨by decide +kernel, by decide +kernel⟩, tq_2 _ (List.mem_of_getElem? (i := 68) rfl), tq_4 _ (List.mem_of_getElem? (i := 115) rfl), tq_4 _ (List.mem_of_getElem? (i := 116) rfl)⟩
theorem lw_p30 : lw_okq (⟨"HallRegisters$Reader", "fail", "(II)Z"⟩, 11) := ⟨⟨by decide +kernel, by decide +kernel⟩, tq_2 _ (List.mem_of_getElem? (i := 68) rfl), tq_4 _ (List.mem_of_getElem? (i := 120) rfl), tq_4 _ (List.mem_of_getElem? (i := 121) rfl)⟩
theorem lw_p31 : lw_okq (⟨"HallRegisters$Reader", "passFactor", "()Z"⟩, 11) := ⟨⟨by decide +kernel, by decide +kernel⟩, tq_2 _ (List.mem_of_getElem? (i := 68) rfl), tq_4 _ (List.mem_of_getElem? (i := 125) rfl), tq_4 _ (List.mem_of_getElem? (i := 126) rfl)⟩
def lw_privs_2 : List (MethodName × Nat) := [(⟨"HallRegisters$Arithmetic", "powerAt", "(IJ)J"⟩, 8), (⟨"HallRegisters$Arithmetic", "putRoot", "(IJ)V"⟩, 8), (⟨"HallRegisters$Search", "findGaps", "([J[J)V"⟩, 11), (⟨"HallRegisters$Search", "findGap", "(LHallRegisters$Sum;LHallRegisters$Sum;)V"⟩, 11), (⟨"HallRegisters$Search", "putU", "(J)V"⟩, 11), (⟨"HallRegisters$Search", "setU", "(IJ)V"⟩, 11), (⟨"HallRegisters$Search", "areClosed", "(II)Z"⟩, 11), (⟨"HallRegisters$Search", "findWithin", "(II)Z"⟩, 11), (⟨"HallRegisters", "feedNumber", "(I)V"⟩, 17), (⟨"HallRegisters$Reader", "readWord", "(I)Z"⟩, 11), (⟨"HallRegisters$Reader", "skipBlanks", "()I"⟩, 11), (⟨"HallRegisters$Reader", "signHere", "()I"⟩, 11), (⟨"HallRegisters$Reader", "readFactor", "(I)Z"⟩, 11), (⟨"HallRegisters$Reader", "readRegister", "([J)Z"⟩, 11), (⟨"HallRegisters$Reader", "fail", "(II)Z"⟩, 11), (⟨"HallRegisters$Reader", "passFactor", "()Z"⟩, 11)]
theorem lw_r2 : ∀ q ∈ lw_privs_2, lw_okq q := List.forall_mem_cons.mpr ⟨lw_p16, List.forall_mem_cons.mpr ⟨lw_p17, List.forall_mem_cons.mpr ⟨lw_p18, List.forall_mem_cons.mpr ⟨lw_p19, List.forall_mem_cons.mpr ⟨lw_p20, List.forall_mem_cons.mpr ⟨lw_p21, List.forall_mem_cons.mpr ⟨lw_p22, List.forall_mem_cons.mpr ⟨lw_p23, List.forall_mem_cons.mpr ⟨lw_p24, List.forall_mem_cons.mpr ⟨lw_p25, List.forall_mem_cons.mpr ⟨lw_p26, List.forall_mem_cons.mpr ⟨lw_p27, List.forall_mem_cons.mpr ⟨lw_p28, List.forall_mem_cons.mpr ⟨lw_p29, List.forall_mem_cons.mpr ⟨lw_p30, List.forall_mem_cons.mpr ⟨lw_p31, fun _ h => absurd h List.not_mem_nil⟩⟩⟩⟩⟩⟩⟩⟩⟩⟩⟩⟩⟩⟩⟩⟩
theorem lw_p32 : lw_okq (⟨"HallRegisters$Reader", "readLetter", "(I[J)Z"⟩, 11) := ⟨⟨by decide +kernel, by decide +kernel⟩, tq_2 _ (List.mem_of_getElem? (i := 68) rfl), tq_4 _ (List.mem_of_getElem? (i := 129) rfl), tq_4 _ (List.mem_of_getElem? (i := 130) rfl)⟩
theorem lw_p33 : lw_okq (⟨"HallRegisters$Reader", "readRound", "(I)Z"⟩, 11) := ⟨⟨by decide +kernel, by decide +kernel⟩, tq_2 _ (List.mem_of_getElem? (i := 68) rfl), tq_4 _ (List.mem_of_getElem? (i := 137) rfl), tq_4 _ (List.mem_of_getElem? (i := 138) rfl)⟩
theorem lw_p34 : lw_okq (⟨"HallRegisters$Reader", "readSquare", "(I)Z"⟩, 11) := ⟨⟨by decide +kernel, by decide +kernel⟩, tq_2 _ (List.mem_of_getElem? (i := 68) rfl), tq_4 _ (List.mem_of_getElem? (i := 141) rfl), tq_4 _ (List.mem_of_getElem? (i := 142) rfl)⟩
theorem lw_p35 : lw_okq (⟨"HallRegisters$Reader", "readPower", "([J)Z"⟩, 11) := ⟨⟨by decide +kernel, by decide +kernel⟩, tq_2 _ (List.mem_of_getElem? (i := 68) rfl), tq_4 _ (List.mem_of_getElem? (i := 148) rfl), tq_4 _ (List.mem_of_getElem? (i := 149) rfl)⟩
theorem lw_p36 : lw_okq (⟨"HallRegisters", "layerOf", "([J)I"⟩, 17) := ⟨⟨by decide +kernel, by decide +kernel⟩, tq_1 _ (List.mem_of_getElem? (i := 17) rfl), tq_4 _ (List.mem_of_getElem? (i := 181) rfl), tq_4 _ (List.mem_of_getElem? (i := 182) rfl)⟩
theorem lw_p37 : lw_okq (⟨"HallRegisters", "commutesWithAll", "([J)Z"⟩, 17) := ⟨⟨by decide +kernel, by decide +kernel⟩, tq_1 _ (List.mem_of_getElem? (i := 17) rfl), tq_4 _ (List.mem_of_getElem? (i := 186) rfl), tq_4 _ (List.mem_of_getElem? (i := 187) rfl)⟩
theorem lw_p38 : lw_okq (⟨"HallRegisters$Ball", "find", "()V"⟩, 10) := ⟨⟨by decide +kernel, by decide +kernel⟩, tq_2 _ (List.mem_of_getElem? (i := 29) rfl), tq_4 _ (List.mem_of_getElem? (i := 206) rfl), tq_4 _ (List.mem_of_getElem? (i := 207) rfl)⟩
theorem lw_p39 : lw_okq (⟨"HallRegisters$Ball", "keepMade", "()V"⟩, 10) := ⟨⟨by decide +kernel, by decide +kernel⟩, tq_2 _ (List.mem_of_getElem? (i := 29) rfl), tq_4 _ (List.mem_of_getElem? (i := 212) rfl), tq_4 _ (List.mem_of_getElem? (i := 213) rfl)⟩
theorem lw_p40 : lw_okq (⟨"HallRegisters$Ball", "slotOf", "([J)I"⟩, 10) := ⟨⟨by decide +kernel, by decide +kernel⟩, tq_2 _ (List.mem_of_getElem? (i := 29) rfl), tq_4 _ (List.mem_of_getElem? (i := 216) rfl), tq_4 _ (List.mem_of_getElem? (i := 217) rfl)⟩
theorem lw_p41 : lw_okq (⟨"HallRegisters$Ball", "isAt", "(I[J)Z"⟩, 10) := ⟨⟨by decide +kernel, by decide +kernel⟩, tq_2 _ (List.mem_of_getElem? (i := 29) rfl), tq_4 _ (List.mem_of_getElem? (i := 221) rfl), tq_4 _ (List.mem_of_getElem? (i := 222) rfl)⟩
theorem lw_p42 : lw_okq (⟨"HallRegisters$Ball", "grow", "(II)V"⟩, 10) := ⟨⟨by decide +kernel, by decide +kernel⟩, tq_2 _ (List.mem_of_getElem? (i := 29) rfl), tq_4 _ (List.mem_of_getElem? (i := 226) rfl), tq_4 _ (List.mem_of_getElem? (i := 227) rfl)⟩
theorem lw_p43 : lw_okq (⟨"HallRegisters$Ball", "growBy", "(II)V"⟩, 10) := ⟨⟨by decide +kernel, by decide +kernel⟩, tq_2 _ (List.mem_of_getElem? (i := 29) rfl), tq_4 _ (List.mem_of_getElem? (i := 230) rfl), tq_4 _ (List.mem_of_getElem? (i := 231) rfl)⟩
theorem lw_p44 : lw_okq (⟨"HallRegisters", "greatestRoot", "([J)I"⟩, 17) := ⟨⟨by decide +kernel, by decide +kernel⟩, tq_1 _ (List.mem_of_getElem? (i := 17) rfl), tq_4 _ (List.mem_of_getElem? (i := 236) rfl), tq_4 _ (List.mem_of_getElem? (i := 237) rfl)⟩
theorem lw_p45 : lw_okq (⟨"HallRegisters", "sameAs", "([J)I"⟩, 17) := ⟨⟨by decide +kernel, by decide +kernel⟩, tq_1 _ (List.mem_of_getElem? (i := 17) rfl), tq_5 _ (List.mem_of_getElem? (i := 0) rfl), tq_5 _ (List.mem_of_getElem? (i := 1) rfl)⟩
theorem lw_p46 : lw_okq (⟨"HallRegisters", "leastMade", "([JI)I"⟩, 17) := ⟨⟨by decide +kernel, by decide +kernel⟩, tq_1 _ (List.mem_of_getElem? (i := 17) rfl), tq_5 _ (List.mem_of_getElem? (i := 5) rfl), tq_5 _ (List.mem_of_getElem? (i := 6) rfl)⟩
theorem lw_p47 : lw_okq (⟨"HallRegisters$Lattice", "meet", "(I)V"⟩, 3) := ⟨⟨by decide +kernel, by decide +kernel⟩, tq_1 _ (List.mem_of_getElem? (i := 215) rfl), tq_5 _ (List.mem_of_getElem? (i := 25) rfl), tq_5 _ (List.mem_of_getElem? (i := 26) rfl)⟩
def lw_privs_3 : List (MethodName × Nat) := [(⟨"HallRegisters$Reader", "readLetter", "(I[J)Z"⟩, 11), (⟨"HallRegisters$Reader", "readRound", "(I)Z"⟩, 11), (⟨"HallRegisters$Reader", "readSquare", "(I)Z"⟩, 11), (⟨"HallRegisters$Reader", "readPower", "([J)Z"⟩, 11), (⟨"HallRegisters", "layerOf", "([J)I"⟩, 17), (⟨"HallRegisters", "commutesWithAll", "([J)Z"⟩, 17), (⟨"HallRegisters$Ball", "find", "()V"⟩, 10), (⟨"HallRegisters$Ball", "keepMade", "()V"⟩, 10), (⟨"HallRegisters$Ball", "slotOf", "([J)I"⟩, 10), (⟨"HallRegisters$Ball", "isAt", "(I[J)Z"⟩, 10), (⟨"HallRegisters$Ball", "grow", "(II)V"⟩, 10), (⟨"HallRegisters$Ball", "growBy", "(II)V"⟩, 10), (⟨"HallRegisters", "greatestRoot", "([J)I"⟩, 17), (⟨"HallRegisters", "sameAs", "([J)I"⟩, 17), (⟨"HallRegisters", "leastMade", "([JI)I"⟩, 17), (⟨"HallRegisters$Lattice", "meet", "(I)V"⟩, 3)]
theorem lw_r3 : ∀ q ∈ lw_privs_3, lw_okq q := List.forall_mem_cons.mpr ⟨lw_p32, List.forall_mem_cons.mpr ⟨lw_p33, List.forall_mem_cons.mpr ⟨lw_p34, List.forall_mem_cons.mpr ⟨lw_p35, List.forall_mem_cons.mpr ⟨lw_p36, List.forall_mem_cons.mpr ⟨lw_p37, List.forall_mem_cons.mpr ⟨lw_p38, List.forall_mem_cons.mpr ⟨lw_p39, List.forall_mem_cons.mpr ⟨lw_p40, List.forall_mem_cons.mpr ⟨lw_p41, List.forall_mem_cons.mpr ⟨lw_p42, List.forall_mem_cons.mpr ⟨lw_p43, List.forall_mem_cons.mpr ⟨lw_p44, List.forall_mem_cons.mpr ⟨lw_p45, List.forall_mem_cons.mpr ⟨lw_p46, List.forall_mem_cons.mpr ⟨lw_p47, fun _ h => absurd h List.not_mem_nil⟩⟩⟩⟩⟩⟩⟩⟩⟩⟩⟩⟩⟩⟩⟩⟩
theorem lw_p48 : lw_okq (⟨"HallRegisters$Lattice", "subtract", "([J[JJ)V"⟩, 3) := ⟨⟨by decide +kernel, by decide +kernel⟩, tq_1 _ (List.mem_of_getElem? (i := 215) rfl), tq_5 _ (List.mem_of_getElem? (i := 32) rfl), tq_5 _ (List.mem_of_getElem? (i := 33) rfl)⟩
theorem lw_p49 : lw_okq (⟨"HallRegisters$Lattice", "swapWithSpare", "([J)V"⟩, 3) := ⟨⟨by decide +kernel, by decide +kernel⟩, tq_1 _ (List.mem_of_getElem? (i := 215) rfl), tq_5 _ (List.mem_of_getElem? (i := 36) rfl), tq_5 _ (List.mem_of_getElem? (i := 37) rfl)⟩
theorem lw_p50 : lw_okq (⟨"HallRegisters$Lattice", "negate", "([J)V"⟩, 3) := ⟨⟨by decide +kernel, by decide +kernel⟩, tq_1 _ (List.mem_of_getElem? (i := 215) rfl), tq_5 _ (List.mem_of_getElem? (i := 40) rfl), tq_5 _ (List.mem_of_getElem? (i := 41) rfl)⟩
theorem lw_p51 : lw_okq (⟨"HallRegisters$Lattice", "tidy", "()V"⟩, 3) := ⟨⟨by decide +kernel, by decide +kernel⟩, tq_1 _ (List.mem_of_getElem? (i := 215) rfl), tq_5 _ (List.mem_of_getElem? (i := 44) rfl), tq_5 _ (List.mem_of_getElem? (i := 45) rfl)⟩
theorem lw_p52 : lw_okq (⟨"HallRegisters$Lattice", "takeStep", "([JI)V"⟩, 3) := ⟨⟨by decide +kernel, by decide +kernel⟩, tq_1 _ (List.mem_of_getElem? (i := 215) rfl), tq_5 _ (List.mem_of_getElem? (i := 48) rfl), tq_5 _ (List.mem_of_getElem? (i := 49) rfl)⟩
theorem lw_p53 : lw_okq (⟨"HallRegisters", "firstDifference", "([J[J)I"⟩, 17) := ⟨⟨by decide +kernel, by decide +kernel⟩, tq_1 _ (List.mem_of_getElem? (i := 17) rfl), tq_5 _ (List.mem_of_getElem? (i := 60) rfl), tq_5 _ (List.mem_of_getElem? (i := 61) rfl)⟩
theorem lw_p54 : lw_okq (⟨"HallRegisters$Search", "findTurns", "()V"⟩, 11) := ⟨⟨by decide +kernel, by decide +kernel⟩, tq_1 _ (List.mem_of_getElem? (i := 209) rfl), tq_5 _ (List.mem_of_getElem? (i := 77) rfl), tq_5 _ (List.mem_of_getElem? (i := 78) rfl)⟩
theorem lw_p55 : lw_okq (⟨"HallRegisters$Search", "copyGaps", "(II[J)V"⟩, 11) := ⟨⟨by decide +kernel, by decide +kernel⟩, tq_1 _ (List.mem_of_getElem? (i := 209) rfl), tq_5 _ (List.mem_of_getElem? (i := 82) rfl), tq_5 _ (List.mem_of_getElem? (i := 83) rfl)⟩
theorem lw_p56 : lw_okq (⟨"HallRegisters$Search", "turnWeightTwo", "()Z"⟩, 11) := ⟨⟨by decide +kernel, by decide +kernel⟩, tq_1 _ (List.mem_of_getElem? (i := 209) rfl), tq_5 _ (List.mem_of_getElem? (i := 88) rfl), tq_5 _ (List.mem_of_getElem? (i := 89) rfl)⟩
theorem lw_p57 : lw_okq (⟨"HallRegisters$Search", "findShifts", "()V"⟩, 11) := ⟨⟨by decide +kernel, by decide +kernel⟩, tq_1 _ (List.mem_of_getElem? (i := 209) rfl), tq_5 _ (List.mem_of_getElem? (i := 93) rfl), tq_5 _ (List.mem_of_getElem? (i := 94) rfl)⟩
theorem lw_p58 : lw_okq (⟨"HallRegisters$Search", "insertShift", "()V"⟩, 11) := ⟨⟨by decide +kernel, by decide +kernel⟩, tq_1 _ (List.mem_of_getElem? (i := 209) rfl), tq_5 _ (List.mem_of_getElem? (i := 101) rfl), tq_5 _ (List.mem_of_getElem? (i := 102) rfl)⟩
theorem lw_p59 : lw_okq (⟨"HallRegisters", "registersNotOne", "()I"⟩, 17) := ⟨⟨by decide +kernel, by decide +kernel⟩, tq_1 _ (List.mem_of_getElem? (i := 17) rfl), tq_5 _ (List.mem_of_getElem? (i := 150) rfl), tq_5 _ (List.mem_of_getElem? (i := 151) rfl)⟩
theorem lw_p60 : lw_okq (⟨"HallRegisters", "centralGenerators", "()I"⟩, 17) := ⟨⟨by decide +kernel, by decide +kernel⟩, tq_1 _ (List.mem_of_getElem? (i := 17) rfl), tq_5 _ (List.mem_of_getElem? (i := 154) rfl), tq_5 _ (List.mem_of_getElem? (i := 155) rfl)⟩
theorem lw_p61 : lw_okq (⟨"HallRegistersModel", "plain", "()V"⟩, 39) := ⟨⟨by decide +kernel, by decide +kernel⟩, tq_5 _ (List.mem_of_getElem? (i := 158) rfl), tq_5 _ (List.mem_of_getElem? (i := 165) rfl), tq_5 _ (List.mem_of_getElem? (i := 166) rfl)⟩
theorem lw_p62 : lw_okq (⟨"HallRegistersModel", "clears", "(I)V"⟩, 39) := ⟨⟨by decide +kernel, by decide +kernel⟩, tq_5 _ (List.mem_of_getElem? (i := 158) rfl), tq_5 _ (List.mem_of_getElem? (i := 169) rfl), tq_5 _ (List.mem_of_getElem? (i := 170) rfl)⟩
theorem lw_p63 : lw_okq (⟨"HallRegistersModel", "putsTail", "(IIII)V"⟩, 39) := ⟨⟨by decide +kernel, by decide +kernel⟩, tq_5 _ (List.mem_of_getElem? (i := 158) rfl), tq_5 _ (List.mem_of_getElem? (i := 173) rfl), tq_5 _ (List.mem_of_getElem? (i := 174) rfl)⟩
def lw_privs_4 : List (MethodName × Nat) := [(⟨"HallRegisters$Lattice", "subtract", "([J[JJ)V"⟩, 3), (⟨"HallRegisters$Lattice", "swapWithSpare", "([J)V"⟩, 3), (⟨"HallRegisters$Lattice", "negate", "([J)V"⟩, 3), (⟨"HallRegisters$Lattice", "tidy", "()V"⟩, 3), (⟨"HallRegisters$Lattice", "takeStep", "([JI)V"⟩, 3), (⟨"HallRegisters", "firstDifference", "([J[J)I"⟩, 17), (⟨"HallRegisters$Search", "findTurns", "()V"⟩, 11), (⟨"HallRegisters$Search", "copyGaps", "(II[J)V"⟩, 11), (⟨"HallRegisters$Search", "turnWeightTwo", "()Z"⟩, 11), (⟨"HallRegisters$Search", "findShifts", "()V"⟩, 11), (⟨"HallRegisters$Search", "insertShift", "()V"⟩, 11), (⟨"HallRegisters", "registersNotOne", "()I"⟩, 17), (⟨"HallRegisters", "centralGenerators", "()I"⟩, 17), (⟨"HallRegistersModel", "plain", "()V"⟩, 39), (⟨"HallRegistersModel", "clears", "(I)V"⟩, 39), (⟨"HallRegistersModel", "putsTail", "(IIII)V"⟩, 39)]
theorem lw_r4 : ∀ q ∈ lw_privs_4, lw_okq q := List.forall_mem_cons.mpr ⟨lw_p48, List.forall_mem_cons.mpr ⟨lw_p49, List.forall_mem_cons.mpr ⟨lw_p50, List.forall_mem_cons.mpr ⟨lw_p51, List.forall_mem_cons.mpr ⟨lw_p52, List.forall_mem_cons.mpr ⟨lw_p53, List.forall_mem_cons.mpr ⟨lw_p54, List.forall_mem_cons.mpr ⟨lw_p55, List.forall_mem_cons.mpr ⟨lw_p56, List.forall_mem_cons.mpr ⟨lw_p57, List.forall_mem_cons.mpr ⟨lw_p58, List.forall_mem_cons.mpr ⟨lw_p59, List.forall_mem_cons.mpr ⟨lw_p60, List.forall_mem_cons.mpr ⟨lw_p61, List.forall_mem_cons.mpr ⟨lw_p62, List.forall_mem_cons.mpr ⟨lw_p63, fun _ h => absurd h List.not_mem_nil⟩⟩⟩⟩⟩⟩⟩⟩⟩⟩⟩⟩⟩⟩⟩⟩
theorem lw_p64 : lw_okq (⟨"HallRegistersModel", "isIn", "(JJJ)Z"⟩, 39) := ⟨⟨by decide +kernel, by decide +kernel⟩, tq_5 _ (List.mem_of_getElem? (i := 158) rfl), tq_6 _ (List.mem_of_getElem? (i := 64) rfl), tq_6 _ (List.mem_of_getElem? (i := 65) rfl)⟩
theorem lw_p65 : lw_okq (⟨"HallRegistersModel", "areWeights", "(II)Z"⟩, 39) := ⟨⟨by decide +kernel, by decide +kernel⟩, tq_5 _ (List.mem_of_getElem? (i := 158) rfl), tq_6 _ (List.mem_of_getElem? (i := 68) rfl), tq_6 _ (List.mem_of_getElem? (i := 69) rfl)⟩
theorem lw_p66 : lw_okq (⟨"HallRegistersModel", "keepsAct", "()V"⟩, 39) := ⟨⟨by decide +kernel, by decide +kernel⟩, tq_5 _ (List.mem_of_getElem? (i := 158) rfl), tq_6 _ (List.mem_of_getElem? (i := 73) rfl), tq_6 _ (List.mem_of_getElem? (i := 74) rfl)⟩
theorem lw_p67 : lw_okq (⟨"HallRegistersModel", "isTail", "(III)Z"⟩, 39) := ⟨⟨by decide +kernel, by decide +kernel⟩, tq_5 _ (List.mem_of_getElem? (i := 158) rfl), tq_6 _ (List.mem_of_getElem? (i := 81) rfl), tq_6 _ (List.mem_of_getElem? (i := 82) rfl)⟩
theorem lw_p68 : lw_okq (⟨"HallRegistersModel", "n", "()I"⟩, 39) := ⟨⟨by decide +kernel, by decide +kernel⟩, tq_5 _ (List.mem_of_getElem? (i := 158) rfl), tq_6 _ (List.mem_of_getElem? (i := 85) rfl), tq_6 _ (List.mem_of_getElem? (i := 86) rfl)⟩
theorem lw_p69 : lw_okq (⟨"HallRegistersModel", "weight", "(I)I"⟩, 39) := ⟨⟨by decide +kernel, by decide +kernel⟩, tq_5 _ (List.mem_of_getElem? (i := 158) rfl), tq_6 _ (List.mem_of_getElem? (i := 90) rfl), tq_6 _ (List.mem_of_getElem? (i := 91) rfl)⟩
theorem lw_p70 : lw_okq (⟨"HallRegistersModel", "onesAll", "()V"⟩, 39) := ⟨⟨by decide +kernel, by decide +kernel⟩, tq_5 _ (List.mem_of_getElem? (i := 158) rfl), tq_6 _ (List.mem_of_getElem? (i := 94) rfl), tq_6 _ (List.mem_of_getElem? (i := 95) rfl)⟩
theorem lw_p71 : lw_okq (⟨"HallRegistersModel", "weighs", "(IIIIII)V"⟩, 39) := ⟨⟨by decide +kernel, by decide +kernel⟩, tq_5 _ (List.mem_of_getElem? (i := 158) rfl), tq_6 _ (List.mem_of_getElem? (i := 102) rfl), tq_6 _ (List.mem_of_getElem? (i := 103) rfl)⟩
theorem lw_p72 : lw_okq (⟨"HallRegistersModel", "can", "(III)Z"⟩, 39) := ⟨⟨by decide +kernel, by decide +kernel⟩, tq_5 _ (List.mem_of_getElem? (i := 158) rfl), tq_6 _ (List.mem_of_getElem? (i := 110) rfl), tq_6 _ (List.mem_of_getElem? (i := 111) rfl)⟩
theorem lw_p73 : lw_okq (⟨"HallRegistersModel", "isRegister", "(I)Z"⟩, 39) := ⟨⟨by decide +kernel, by decide +kernel⟩, tq_5 _ (List.mem_of_getElem? (i := 158) rfl), tq_6 _ (List.mem_of_getElem? (i := 114) rfl), tq_6 _ (List.mem_of_getElem? (i := 115) rfl)⟩
theorem lw_p74 : lw_okq (⟨"HallRegistersModel", "isConsistent", "()Z"⟩, 39) := ⟨⟨by decide +kernel, by decide +kernel⟩, tq_5 _ (List.mem_of_getElem? (i := 158) rfl), tq_6 _ (List.mem_of_getElem? (i := 119) rfl), tq_6 _ (List.mem_of_getElem? (i := 120) rfl)⟩
theorem lw_p75 : lw_okq (⟨"HallRegistersModel", "lays", "()V"⟩, 39) := ⟨⟨by decide +kernel, by decide +kernel⟩, tq_5 _ (List.mem_of_getElem? (i := 158) rfl), tq_6 _ (List.mem_of_getElem? (i := 123) rfl), tq_6 _ (List.mem_of_getElem? (i := 124) rfl)⟩
theorem lw_p76 : lw_okq (⟨"HallRegistersModel", "isAlikeBy", "(III)Z"⟩, 39) := ⟨⟨by decide +kernel, by decide +kernel⟩, tq_5 _ (List.mem_of_getElem? (i := 158) rfl), tq_6 _ (List.mem_of_getElem? (i := 127) rfl), tq_6 _ (List.mem_of_getElem? (i := 128) rfl)⟩
theorem lw_p77 : lw_okq (⟨"HallRegistersModel", "writes", "(I)V"⟩, 39) := ⟨⟨by decide +kernel, by decide +kernel⟩, tq_5 _ (List.mem_of_getElem? (i := 158) rfl), tq_6 _ (List.mem_of_getElem? (i := 131) rfl), tq_6 _ (List.mem_of_getElem? (i := 132) rfl)⟩
theorem lw_p78 : lw_okq (⟨"HallRegistersModel", "exchanges", "(I)V"⟩, 39) := ⟨⟨by decide +kernel, by decide +kernel⟩, tq_5 _ (List.mem_of_getElem? (i := 158) rfl), tq_6 _ (List.mem_of_getElem? (i := 135) rfl), tq_6 _ (List.mem_of_getElem? (i := 136) rfl)⟩
theorem lw_p79 : lw_okq (⟨"HallRegistersModel", "tail", "(III)I"⟩, 39) := ⟨⟨by decide +kernel, by decide +kernel⟩, tq_5 _ (List.mem_of_getElem? (i := 158) rfl), tq_6 _ (List.mem_of_getElem? (i := 139) rfl), tq_6 _ (List.mem_of_getElem? (i := 140) rfl)⟩
def lw_privs_5 : List (MethodName × Nat) := [(⟨"HallRegistersModel", "isIn", "(JJJ)Z"⟩, 39), (⟨"HallRegistersModel", "areWeights", "(II)Z"⟩, 39), (⟨"HallRegistersModel", "keepsAct", "()V"⟩, 39), (⟨"HallRegistersModel", "isTail", "(III)Z"⟩, 39), (⟨"HallRegistersModel", "n", "()I"⟩, 39), (⟨"HallRegistersModel", "weight", "(I)I"⟩, 39), (⟨"HallRegistersModel", "onesAll", "()V"⟩, 39), (⟨"HallRegistersModel", "weighs", "(IIIIII)V"⟩, 39), (⟨"HallRegistersModel", "can", "(III)Z"⟩, 39), (⟨"HallRegistersModel", "isRegister", "(I)Z"⟩, 39), (⟨"HallRegistersModel", "isConsistent", "()Z"⟩, 39), (⟨"HallRegistersModel", "lays", "()V"⟩, 39), (⟨"HallRegistersModel", "isAlikeBy", "(III)Z"⟩, 39), (⟨"HallRegistersModel", "writes", "(I)V"⟩, 39), (⟨"HallRegistersModel", "exchanges", "(I)V"⟩, 39), (⟨"HallRegistersModel", "tail", "(III)I"⟩, 39)]
theorem lw_r5 : ∀ q ∈ lw_privs_5, lw_okq q := List.forall_mem_cons.mpr ⟨lw_p64, List.forall_mem_cons.mpr ⟨lw_p65, List.forall_mem_cons.mpr ⟨lw_p66, List.forall_mem_cons.mpr ⟨lw_p67, List.forall_mem_cons.mpr ⟨lw_p68, List.forall_mem_cons.mpr ⟨lw_p69, List.forall_mem_cons.mpr ⟨lw_p70, List.forall_mem_cons.mpr ⟨lw_p71, List.forall_mem_cons.mpr ⟨lw_p72, List.forall_mem_cons.mpr ⟨lw_p73, List.forall_mem_cons.mpr ⟨lw_p74, List.forall_mem_cons.mpr ⟨lw_p75, List.forall_mem_cons.mpr ⟨lw_p76, List.forall_mem_cons.mpr ⟨lw_p77, List.forall_mem_cons.mpr ⟨lw_p78, List.forall_mem_cons.mpr ⟨lw_p79, fun _ h => absurd h List.not_mem_nil⟩⟩⟩⟩⟩⟩⟩⟩⟩⟩⟩⟩⟩⟩⟩⟩
theorem lw_p80 : lw_okq (⟨"HallRegistersModel", "collects", "()Z"⟩, 39) := ⟨⟨by decide +kernel, by decide +kernel⟩, tq_5 _ (List.mem_of_getElem? (i := 158) rfl), tq_6 _ (List.mem_of_getElem? (i := 143) rfl), tq_6 _ (List.mem_of_getElem? (i := 144) rfl)⟩
theorem lw_p81 : lw_okq (⟨"HallRegistersModel", "letters", "(I)I"⟩, 39) := ⟨⟨by decide +kernel, by decide +kernel⟩, tq_5 _ (List.mem_of_getElem? (i := 158) rfl), tq_6 _ (List.mem_of_getElem? (i := 147) rfl), tq_6 _ (List.mem_of_getElem? (i := 148) rfl)⟩
theorem lw_p82 : lw_okq (⟨"HallRegistersModel", "laysTerms", "(I)V"⟩, 39) := ⟨⟨by decide +kernel, by decide +kernel⟩, tq_5 _ (List.mem_of_getElem? (i := 158) rfl), tq_6 _ (List.mem_of_getElem? (i := 151) rfl), tq_6 _ (List.mem_of_getElem? (i := 152) rfl)⟩
theorem lw_p83 : lw_okq (⟨"HallRegistersModel", "rows", "(III)V"⟩, 39) := ⟨⟨by decide +kernel, by decide +kernel⟩, tq_5 _ (List.mem_of_getElem? (i := 158) rfl), tq_6 _ (List.mem_of_getElem? (i := 155) rfl), tq_6 _ (List.mem_of_getElem? (i := 156) rfl)⟩
theorem lw_p84 : lw_okq (⟨"HallRegistersModel", "difference", "(IIJ)J"⟩, 39) := ⟨⟨by decide +kernel, by decide +kernel⟩, tq_5 _ (List.mem_of_getElem? (i := 158) rfl), tq_6 _ (List.mem_of_getElem? (i := 159) rfl), tq_6 _ (List.mem_of_getElem? (i := 160) rfl)⟩
theorem lw_p85 : lw_okq (⟨"HallRegistersModel", "puts", "(IIJ)V"⟩, 39) := ⟨⟨by decide +kernel, by decide +kernel⟩, tq_5 _ (List.mem_of_getElem? (i := 158) rfl), tq_6 _ (List.mem_of_getElem? (i := 163) rfl), tq_6 _ (List.mem_of_getElem? (i := 164) rfl)⟩
theorem lw_p86 : lw_okq (⟨"HallRegistersModel", "times", "(II)V"⟩, 39) := ⟨⟨by decide +kernel, by decide +kernel⟩, tq_5 _ (List.mem_of_getElem? (i := 158) rfl), tq_6 _ (List.mem_of_getElem? (i := 167) rfl), tq_6 _ (List.mem_of_getElem? (i := 168) rfl)⟩
theorem lw_p87 : lw_okq (⟨"HallRegistersModel", "of", "(II)J"⟩, 39) := ⟨⟨by decide +kernel, by decide +kernel⟩, tq_5 _ (List.mem_of_getElem? (i := 158) rfl), tq_6 _ (List.mem_of_getElem? (i := 171) rfl), tq_6 _ (List.mem_of_getElem? (i := 172) rfl)⟩
theorem lw_p88 : lw_okq (⟨"HallRegistersModel", "timesLetter", "(IIJ)V"⟩, 39) := ⟨⟨by decide +kernel, by decide +kernel⟩, tq_5 _ (List.mem_of_getElem? (i := 158) rfl), tq_6 _ (List.mem_of_getElem? (i := 175) rfl), tq_6 _ (List.mem_of_getElem? (i := 176) rfl)⟩
theorem lw_p89 : lw_okq (⟨"HallRegistersModel", "passesTwo", "(IIIJ)V"⟩, 39) := ⟨⟨by decide +kernel, by decide +kernel⟩, tq_5 _ (List.mem_of_getElem? (i := 158) rfl), tq_6 _ (List.mem_of_getElem? (i := 179) rfl), tq_6 _ (List.mem_of_getElem? (i := 180) rfl)⟩
theorem lw_p90 : lw_okq (⟨"HallRegistersModel", "passesOne", "(IIIJ)V"⟩, 39) := ⟨⟨by decide +kernel, by decide +kernel⟩, tq_5 _ (List.mem_of_getElem? (i := 158) rfl), tq_6 _ (List.mem_of_getElem? (i := 183) rfl), tq_6 _ (List.mem_of_getElem? (i := 184) rfl)⟩
theorem lw_p91 : lw_okq (⟨"HallRegistersModel", "two", "(J)J"⟩, 39) := ⟨⟨by decide +kernel, by decide +kernel⟩, tq_5 _ (List.mem_of_getElem? (i := 158) rfl), tq_6 _ (List.mem_of_getElem? (i := 187) rfl), tq_6 _ (List.mem_of_getElem? (i := 188) rfl)⟩
theorem lw_p92 : lw_okq (⟨"HallRegistersModel", "choose", "(II)J"⟩, 39) := ⟨⟨by decide +kernel, by decide +kernel⟩, tq_5 _ (List.mem_of_getElem? (i := 158) rfl), tq_6 _ (List.mem_of_getElem? (i := 192) rfl), tq_6 _ (List.mem_of_getElem? (i := 193) rfl)⟩
theorem lw_p93 : lw_okq (⟨"HallRegistersModel", "weightOf", "(I)I"⟩, 39) := ⟨⟨by decide +kernel, by decide +kernel⟩, tq_5 _ (List.mem_of_getElem? (i := 158) rfl), tq_6 _ (List.mem_of_getElem? (i := 197) rfl), tq_6 _ (List.mem_of_getElem? (i := 198) rfl)⟩
theorem lw_p94 : lw_okq (⟨"HallRegistersModel", "laysRegister", "(II)V"⟩, 39) := ⟨⟨by decide +kernel, by decide +kernel⟩, tq_5 _ (List.mem_of_getElem? (i := 158) rfl), tq_6 _ (List.mem_of_getElem? (i := 203) rfl), tq_6 _ (List.mem_of_getElem? (i := 204) rfl)⟩
theorem lw_p95 : lw_okq (⟨"HallRegistersModel", "ofRow", "(II)I"⟩, 39) := ⟨⟨by decide +kernel, by decide +kernel⟩, tq_5 _ (List.mem_of_getElem? (i := 158) rfl), tq_6 _ (List.mem_of_getElem? (i := 207) rfl), tq_6 _ (List.mem_of_getElem? (i := 208) rfl)⟩
def lw_privs_6 : List (MethodName × Nat) := [(⟨"HallRegistersModel", "collects", "()Z"⟩, 39), (⟨"HallRegistersModel", "letters", "(I)I"⟩, 39), (⟨"HallRegistersModel", "laysTerms", "(I)V"⟩, 39), (⟨"HallRegistersModel", "rows", "(III)V"⟩, 39), (⟨"HallRegistersModel", "difference", "(IIJ)J"⟩, 39), (⟨"HallRegistersModel", "puts", "(IIJ)V"⟩, 39), (⟨"HallRegistersModel", "times", "(II)V"⟩, 39), (⟨"HallRegistersModel", "of", "(II)J"⟩, 39), (⟨"HallRegistersModel", "timesLetter", "(IIJ)V"⟩, 39), (⟨"HallRegistersModel", "passesTwo", "(IIIJ)V"⟩, 39), (⟨"HallRegistersModel", "passesOne", "(IIIJ)V"⟩, 39), (⟨"HallRegistersModel", "two", "(J)J"⟩, 39), (⟨"HallRegistersModel", "choose", "(II)J"⟩, 39), (⟨"HallRegistersModel", "weightOf", "(I)I"⟩, 39), (⟨"HallRegistersModel", "laysRegister", "(II)V"⟩, 39), (⟨"HallRegistersModel", "ofRow", "(II)I"⟩, 39)]
theorem lw_r6 : ∀ q ∈ lw_privs_6, lw_okq q := List.forall_mem_cons.mpr ⟨lw_p80, List.forall_mem_cons.mpr ⟨lw_p81, List.forall_mem_cons.mpr ⟨lw_p82, List.forall_mem_cons.mpr ⟨lw_p83, List.forall_mem_cons.mpr ⟨lw_p84, List.forall_mem_cons.mpr ⟨lw_p85, List.forall_mem_cons.mpr ⟨lw_p86, List.forall_mem_cons.mpr ⟨lw_p87, List.forall_mem_cons.mpr ⟨lw_p88, List.forall_mem_cons.mpr ⟨lw_p89, List.forall_mem_cons.mpr ⟨lw_p90, List.forall_mem_cons.mpr ⟨lw_p91, List.forall_mem_cons.mpr ⟨lw_p92, List.forall_mem_cons.mpr ⟨lw_p93, List.forall_mem_cons.mpr ⟨lw_p94, List.forall_mem_cons.mpr ⟨lw_p95, fun _ h => absurd h List.not_mem_nil⟩⟩⟩⟩⟩⟩⟩⟩⟩⟩⟩⟩⟩⟩⟩⟩
theorem lw_p96 : lw_okq (⟨"HallRegistersModel", "gives", "(II)Z"⟩, 39) := ⟨⟨by decide +kernel, by decide +kernel⟩, tq_5 _ (List.mem_of_getElem? (i := 158) rfl), tq_6 _ (List.mem_of_getElem? (i := 211) rfl), tq_6 _ (List.mem_of_getElem? (i := 212) rfl)⟩
theorem lw_p97 : lw_okq (⟨"HallRegistersModel", "isElement", "(I)Z"⟩, 39) := ⟨⟨by decide +kernel, by decide +kernel⟩, tq_5 _ (List.mem_of_getElem? (i := 158) rfl), tq_6 _ (List.mem_of_getElem? (i := 215) rfl), tq_6 _ (List.mem_of_getElem? (i := 216) rfl)⟩
theorem lw_p98 : lw_okq (⟨"HallRegistersModel", "inverse", "(II)V"⟩, 39) := ⟨⟨by decide +kernel, by decide +kernel⟩, tq_5 _ (List.mem_of_getElem? (i := 158) rfl), tq_6 _ (List.mem_of_getElem? (i := 227) rfl), tq_6 _ (List.mem_of_getElem? (i := 228) rfl)⟩
theorem lw_p99 : lw_okq (⟨"HallRegistersModel", "ones", "(I)V"⟩, 39) := ⟨⟨by decide +kernel, by decide +kernel⟩, tq_5 _ (List.mem_of_getElem? (i := 158) rfl), tq_6 _ (List.mem_of_getElem? (i := 231) rfl), tq_6 _ (List.mem_of_getElem? (i := 232) rfl)⟩
theorem lw_p100 : lw_okq (⟨"HallRegistersModel", "copies", "(II)V"⟩, 39) := ⟨⟨by decide +kernel, by decide +kernel⟩, tq_5 _ (List.mem_of_getElem? (i := 158) rfl), tq_6 _ (List.mem_of_getElem? (i := 235) rfl), tq_6 _ (List.mem_of_getElem? (i := 236) rfl)⟩
theorem lw_p101 : lw_okq (⟨"HallRegistersModel", "raises", "(III)V"⟩, 39) := ⟨⟨by decide +kernel, by decide +kernel⟩, tq_5 _ (List.mem_of_getElem? (i := 158) rfl), tq_7 _ (List.mem_of_getElem? (i := 5) rfl), tq_7 _ (List.mem_of_getElem? (i := 6) rfl)⟩
theorem lw_p102 : lw_okq (⟨"HallRegistersModel", "commutator", "(III)V"⟩, 39) := ⟨⟨by decide +kernel, by decide +kernel⟩, tq_5 _ (List.mem_of_getElem? (i := 158) rfl), tq_7 _ (List.mem_of_getElem? (i := 13) rfl), tq_7 _ (List.mem_of_getElem? (i := 14) rfl)⟩
theorem lw_p103 : lw_okq (⟨"HallRegistersModel", "conjugates", "(III)V"⟩, 39) := ⟨⟨by decide +kernel, by decide +kernel⟩, tq_5 _ (List.mem_of_getElem? (i := 158) rfl), tq_7 _ (List.mem_of_getElem? (i := 21) rfl), tq_7 _ (List.mem_of_getElem? (i := 22) rfl)⟩
theorem lw_p104 : lw_okq (⟨"HallRegistersModel", "extracts", "(III)Z"⟩, 39) := ⟨⟨by decide +kernel, by decide +kernel⟩, tq_5 _ (List.mem_of_getElem? (i := 158) rfl), tq_7 _ (List.mem_of_getElem? (i := 29) rfl), tq_7 _ (List.mem_of_getElem? (i := 30) rfl)⟩
theorem lw_p105 : lw_okq (⟨"HallRegistersModel", "seeks", "(II)Z"⟩, 39) := ⟨⟨by decide +kernel, by decide +kernel⟩, tq_5 _ (List.mem_of_getElem? (i := 158) rfl), tq_7 _ (List.mem_of_getElem? (i := 37) rfl), tq_7 _ (List.mem_of_getElem? (i := 38) rfl)⟩
theorem lw_p106 : lw_okq (⟨"HallRegistersModel", "level", "()I"⟩, 39) := ⟨⟨by decide +kernel, by decide +kernel⟩, tq_5 _ (List.mem_of_getElem? (i := 158) rfl), tq_7 _ (List.mem_of_getElem? (i := 41) rfl), tq_7 _ (List.mem_of_getElem? (i := 42) rfl)⟩
theorem lw_p107 : lw_okq (⟨"HallRegistersModel", "areSame", "(II)Z"⟩, 39) := ⟨⟨by decide +kernel, by decide +kernel⟩, tq_5 _ (List.mem_of_getElem? (i := 158) rfl), tq_7 _ (List.mem_of_getElem? (i := 45) rfl), tq_7 _ (List.mem_of_getElem? (i := 46) rfl)⟩
theorem lw_p108 : lw_okq (⟨"HallRegistersModel", "types", "(I)V"⟩, 39) := ⟨⟨by decide +kernel, by decide +kernel⟩, tq_5 _ (List.mem_of_getElem? (i := 158) rfl), tq_7 _ (List.mem_of_getElem? (i := 53) rfl), tq_7 _ (List.mem_of_getElem? (i := 54) rfl)⟩
theorem lw_p109 : lw_okq (⟨"HallRegistersModel", "readWord", "(I)V"⟩, 39) := ⟨⟨by decide +kernel, by decide +kernel⟩, tq_5 _ (List.mem_of_getElem? (i := 158) rfl), tq_7 _ (List.mem_of_getElem? (i := 65) rfl), tq_7 _ (List.mem_of_getElem? (i := 66) rfl)⟩
theorem lw_p110 : lw_okq (⟨"HallRegistersModel", "isWrong", "()Z"⟩, 39) := ⟨⟨by decide +kernel, by decide +kernel⟩, tq_5 _ (List.mem_of_getElem? (i := 158) rfl), tq_7 _ (List.mem_of_getElem? (i := 69) rfl), tq_7 _ (List.mem_of_getElem? (i := 70) rfl)⟩
theorem lw_p111 : lw_okq (⟨"HallRegistersModel", "behindBlanks", "()I"⟩, 39) := ⟨⟨by decide +kernel, by decide +kernel⟩, tq_5 _ (List.mem_of_getElem? (i := 158) rfl), tq_7 _ (List.mem_of_getElem? (i := 73) rfl), tq_7 _ (List.mem_of_getElem? (i := 74) rfl)⟩
def lw_privs_7 : List (MethodName × Nat) := [(⟨"HallRegistersModel", "gives", "(II)Z"⟩, 39), (⟨"HallRegistersModel", "isElement", "(I)Z"⟩, 39), (⟨"HallRegistersModel", "inverse", "(II)V"⟩, 39), (⟨"HallRegistersModel", "ones", "(I)V"⟩, 39), (⟨"HallRegistersModel", "copies", "(II)V"⟩, 39), (⟨"HallRegistersModel", "raises", "(III)V"⟩, 39), (⟨"HallRegistersModel", "commutator", "(III)V"⟩, 39), (⟨"HallRegistersModel", "conjugates", "(III)V"⟩, 39), (⟨"HallRegistersModel", "extracts", "(III)Z"⟩, 39), (⟨"HallRegistersModel", "seeks", "(II)Z"⟩, 39), (⟨"HallRegistersModel", "level", "()I"⟩, 39), (⟨"HallRegistersModel", "areSame", "(II)Z"⟩, 39), (⟨"HallRegistersModel", "types", "(I)V"⟩, 39), (⟨"HallRegistersModel", "readWord", "(I)V"⟩, 39), (⟨"HallRegistersModel", "isWrong", "()Z"⟩, 39), (⟨"HallRegistersModel", "behindBlanks", "()I"⟩, 39)]
theorem lw_r7 : ∀ q ∈ lw_privs_7, lw_okq q := List.forall_mem_cons.mpr ⟨lw_p96, List.forall_mem_cons.mpr ⟨lw_p97, List.forall_mem_cons.mpr ⟨lw_p98, List.forall_mem_cons.mpr ⟨lw_p99, List.forall_mem_cons.mpr ⟨lw_p100, List.forall_mem_cons.mpr ⟨lw_p101, List.forall_mem_cons.mpr ⟨lw_p102, List.forall_mem_cons.mpr ⟨lw_p103, List.forall_mem_cons.mpr ⟨lw_p104, List.forall_mem_cons.mpr ⟨lw_p105, List.forall_mem_cons.mpr ⟨lw_p106, List.forall_mem_cons.mpr ⟨lw_p107, List.forall_mem_cons.mpr ⟨lw_p108, List.forall_mem_cons.mpr ⟨lw_p109, List.forall_mem_cons.mpr ⟨lw_p110, List.forall_mem_cons.mpr ⟨lw_p111, fun _ h => absurd h List.not_mem_nil⟩⟩⟩⟩⟩⟩⟩⟩⟩⟩⟩⟩⟩⟩⟩⟩
theorem lw_p112 : lw_okq (⟨"HallRegistersModel", "here", "()I"⟩, 39) := ⟨⟨by decide +kernel, by decide +kernel⟩, tq_5 _ (List.mem_of_getElem? (i := 158) rfl), tq_7 _ (List.mem_of_getElem? (i := 77) rfl), tq_7 _ (List.mem_of_getElem? (i := 78) rfl)⟩
theorem lw_p113 : lw_okq (⟨"HallRegistersModel", "isFactor", "(I)Z"⟩, 39) := ⟨⟨by decide +kernel, by decide +kernel⟩, tq_5 _ (List.mem_of_getElem? (i := 158) rfl), tq_7 _ (List.mem_of_getElem? (i := 81) rfl), tq_7 _ (List.mem_of_getElem? (i := 82) rfl)⟩
theorem lw_p114 : lw_okq (⟨"HallRegistersModel", "readFactor", "(I)V"⟩, 39) := ⟨⟨by decide +kernel, by decide +kernel⟩, tq_5 _ (List.mem_of_getElem? (i := 158) rfl), tq_7 _ (List.mem_of_getElem? (i := 85) rfl), tq_7 _ (List.mem_of_getElem? (i := 86) rfl)⟩
theorem lw_p115 : lw_okq (⟨"HallRegistersModel", "errs", "(II)V"⟩, 39) := ⟨⟨by decide +kernel, by decide +kernel⟩, tq_5 _ (List.mem_of_getElem? (i := 158) rfl), tq_7 _ (List.mem_of_getElem? (i := 89) rfl), tq_7 _ (List.mem_of_getElem? (i := 90) rfl)⟩
theorem lw_p116 : lw_okq (⟨"HallRegistersModel", "isDigit", "(I)Z"⟩, 39) := ⟨⟨by decide +kernel, by decide +kernel⟩, tq_5 _ (List.mem_of_getElem? (i := 158) rfl), tq_7 _ (List.mem_of_getElem? (i := 93) rfl), tq_7 _ (List.mem_of_getElem? (i := 94) rfl)⟩
theorem lw_p117 : lw_okq (⟨"HallRegistersModel", "readOpen", "(II)V"⟩, 39) := ⟨⟨by decide +kernel, by decide +kernel⟩, tq_5 _ (List.mem_of_getElem? (i := 158) rfl), tq_7 _ (List.mem_of_getElem? (i := 97) rfl), tq_7 _ (List.mem_of_getElem? (i := 98) rfl)⟩
theorem lw_p118 : lw_okq (⟨"HallRegistersModel", "must", "(I)V"⟩, 39) := ⟨⟨by decide +kernel, by decide +kernel⟩, tq_5 _ (List.mem_of_getElem? (i := 158) rfl), tq_7 _ (List.mem_of_getElem? (i := 101) rfl), tq_7 _ (List.mem_of_getElem? (i := 102) rfl)⟩
theorem lw_p119 : lw_okq (⟨"HallRegistersModel", "readCommutator", "(I)V"⟩, 39) := ⟨⟨by decide +kernel, by decide +kernel⟩, tq_5 _ (List.mem_of_getElem? (i := 158) rfl), tq_7 _ (List.mem_of_getElem? (i := 105) rfl), tq_7 _ (List.mem_of_getElem? (i := 106) rfl)⟩
theorem lw_p120 : lw_okq (⟨"HallRegistersModel", "checks", "(I)V"⟩, 39) := ⟨⟨by decide +kernel, by decide +kernel⟩, tq_5 _ (List.mem_of_getElem? (i := 158) rfl), tq_7 _ (List.mem_of_getElem? (i := 109) rfl), tq_7 _ (List.mem_of_getElem? (i := 110) rfl)⟩
theorem lw_p121 : lw_okq (⟨"HallRegistersModel", "readPower", "(I)V"⟩, 39) := ⟨⟨by decide +kernel, by decide +kernel⟩, tq_5 _ (List.mem_of_getElem? (i := 158) rfl), tq_7 _ (List.mem_of_getElem? (i := 113) rfl), tq_7 _ (List.mem_of_getElem? (i := 114) rfl)⟩
theorem lw_p122 : lw_okq (⟨"HallRegistersModel", "isCentralLetter", "(I)Z"⟩, 39) := ⟨⟨by decide +kernel, by decide +kernel⟩, tq_5 _ (List.mem_of_getElem? (i := 158) rfl), tq_7 _ (List.mem_of_getElem? (i := 142) rfl), tq_7 _ (List.mem_of_getElem? (i := 143) rfl)⟩
theorem lw_p123 : lw_okq (⟨"HallRegistersModel", "isCentral", "(II)Z"⟩, 39) := ⟨⟨by decide +kernel, by decide +kernel⟩, tq_5 _ (List.mem_of_getElem? (i := 158) rfl), tq_7 _ (List.mem_of_getElem? (i := 146) rfl), tq_7 _ (List.mem_of_getElem? (i := 147) rfl)⟩
theorem lw_p124 : lw_okq (⟨"HallRegistersModel", "areCommuting", "(III)Z"⟩, 39) := ⟨⟨by decide +kernel, by decide +kernel⟩, tq_5 _ (List.mem_of_getElem? (i := 158) rfl), tq_7 _ (List.mem_of_getElem? (i := 150) rfl), tq_7 _ (List.mem_of_getElem? (i := 151) rfl)⟩
theorem lw_p125 : lw_okq (⟨"HallRegistersModel", "isOne", "(I)Z"⟩, 39) := ⟨⟨by decide +kernel, by decide +kernel⟩, tq_5 _ (List.mem_of_getElem? (i := 158) rfl), tq_7 _ (List.mem_of_getElem? (i := 154) rfl), tq_7 _ (List.mem_of_getElem? (i := 155) rfl)⟩
theorem lw_p126 : lw_okq (⟨"HallRegistersModel", "isPolynomial", "(I)Z"⟩, 39) := ⟨⟨by decide +kernel, by decide +kernel⟩, tq_5 _ (List.mem_of_getElem? (i := 158) rfl), tq_7 _ (List.mem_of_getElem? (i := 166) rfl), tq_7 _ (List.mem_of_getElem? (i := 167) rfl)⟩
theorem lw_p127 : lw_okq (⟨"HallRegistersModel", "termAt", "(II)I"⟩, 39) := ⟨⟨by decide +kernel, by decide +kernel⟩, tq_5 _ (List.mem_of_getElem? (i := 158) rfl), tq_7 _ (List.mem_of_getElem? (i := 174) rfl), tq_7 _ (List.mem_of_getElem? (i := 175) rfl)⟩
def lw_privs_8 : List (MethodName × Nat) := [(⟨"HallRegistersModel", "here", "()I"⟩, 39), (⟨"HallRegistersModel", "isFactor", "(I)Z"⟩, 39), (⟨"HallRegistersModel", "readFactor", "(I)V"⟩, 39), (⟨"HallRegistersModel", "errs", "(II)V"⟩, 39), (⟨"HallRegistersModel", "isDigit", "(I)Z"⟩, 39), (⟨"HallRegistersModel", "readOpen", "(II)V"⟩, 39), (⟨"HallRegistersModel", "must", "(I)V"⟩, 39), (⟨"HallRegistersModel", "readCommutator", "(I)V"⟩, 39), (⟨"HallRegistersModel", "checks", "(I)V"⟩, 39), (⟨"HallRegistersModel", "readPower", "(I)V"⟩, 39), (⟨"HallRegistersModel", "isCentralLetter", "(I)Z"⟩, 39), (⟨"HallRegistersModel", "isCentral", "(II)Z"⟩, 39), (⟨"HallRegistersModel", "areCommuting", "(III)Z"⟩, 39), (⟨"HallRegistersModel", "isOne", "(I)Z"⟩, 39), (⟨"HallRegistersModel", "isPolynomial", "(I)Z"⟩, 39), (⟨"HallRegistersModel", "termAt", "(II)I"⟩, 39)]
theorem lw_r8 : ∀ q ∈ lw_privs_8, lw_okq q := List.forall_mem_cons.mpr ⟨lw_p112, List.forall_mem_cons.mpr ⟨lw_p113, List.forall_mem_cons.mpr ⟨lw_p114, List.forall_mem_cons.mpr ⟨lw_p115, List.forall_mem_cons.mpr ⟨lw_p116, List.forall_mem_cons.mpr ⟨lw_p117, List.forall_mem_cons.mpr ⟨lw_p118, List.forall_mem_cons.mpr ⟨lw_p119, List.forall_mem_cons.mpr ⟨lw_p120, List.forall_mem_cons.mpr ⟨lw_p121, List.forall_mem_cons.mpr ⟨lw_p122, List.forall_mem_cons.mpr ⟨lw_p123, List.forall_mem_cons.mpr ⟨lw_p124, List.forall_mem_cons.mpr ⟨lw_p125, List.forall_mem_cons.mpr ⟨lw_p126, List.forall_mem_cons.mpr ⟨lw_p127, fun _ h => absurd h List.not_mem_nil⟩⟩⟩⟩⟩⟩⟩⟩⟩⟩⟩⟩⟩⟩⟩⟩
theorem lw_p128 : lw_okq (⟨"HallRegistersModel", "degreeOf", "(II)I"⟩, 39) := ⟨⟨by decide +kernel, by decide +kernel⟩, tq_5 _ (List.mem_of_getElem? (i := 158) rfl), tq_7 _ (List.mem_of_getElem? (i := 182) rfl), tq_7 _ (List.mem_of_getElem? (i := 183) rfl)⟩
theorem lw_p129 : lw_okq (⟨"HallRegistersModel", "weightOfTerm", "(II)I"⟩, 39) := ⟨⟨by decide +kernel, by decide +kernel⟩, tq_5 _ (List.mem_of_getElem? (i := 158) rfl), tq_7 _ (List.mem_of_getElem? (i := 187) rfl), tq_7 _ (List.mem_of_getElem? (i := 188) rfl)⟩
theorem lw_p130 : lw_okq (⟨"HallRegistersModel", "isInBoth", "(II)Z"⟩, 39) := ⟨⟨by decide +kernel, by decide +kernel⟩, tq_5 _ (List.mem_of_getElem? (i := 158) rfl), tq_7 _ (List.mem_of_getElem? (i := 191) rfl), tq_7 _ (List.mem_of_getElem? (i := 192) rfl)⟩
theorem lw_p131 : lw_okq (⟨"HallRegistersModel", "laysBall", "(I)I"⟩, 39) := ⟨⟨by decide +kernel, by decide +kernel⟩, tq_5 _ (List.mem_of_getElem? (i := 158) rfl), tq_7 _ (List.mem_of_getElem? (i := 200) rfl), tq_7 _ (List.mem_of_getElem? (i := 201) rfl)⟩
theorem lw_p132 : lw_okq (⟨"HallRegistersModel", "meets", "(I)V"⟩, 39) := ⟨⟨by decide +kernel, by decide +kernel⟩, tq_5 _ (List.mem_of_getElem? (i := 158) rfl), tq_7 _ (List.mem_of_getElem? (i := 204) rfl), tq_7 _ (List.mem_of_getElem? (i := 205) rfl)⟩
theorem lw_p133 : lw_okq (⟨"HallRegistersModel", "place", "(I)I"⟩, 39) := ⟨⟨by decide +kernel, by decide +kernel⟩, tq_5 _ (List.mem_of_getElem? (i := 158) rfl), tq_7 _ (List.mem_of_getElem? (i := 208) rfl), tq_7 _ (List.mem_of_getElem? (i := 209) rfl)⟩
theorem lw_p134 : lw_okq (⟨"HallRegistersModel", "layer", "(I)I"⟩, 39) := ⟨⟨by decide +kernel, by decide +kernel⟩, tq_5 _ (List.mem_of_getElem? (i := 158) rfl), tq_7 _ (List.mem_of_getElem? (i := 217) rfl), tq_7 _ (List.mem_of_getElem? (i := 218) rfl)⟩
theorem lw_p135 : lw_okq (⟨"HallRegistersModel", "shortOf", "(I)I"⟩, 39) := ⟨⟨by decide +kernel, by decide +kernel⟩, tq_5 _ (List.mem_of_getElem? (i := 158) rfl), tq_7 _ (List.mem_of_getElem? (i := 221) rfl), tq_7 _ (List.mem_of_getElem? (i := 222) rfl)⟩
theorem lw_p136 : lw_okq (⟨"HallRegistersModel", "isMade", "(II)Z"⟩, 39) := ⟨⟨by decide +kernel, by decide +kernel⟩, tq_5 _ (List.mem_of_getElem? (i := 158) rfl), tq_7 _ (List.mem_of_getElem? (i := 225) rfl), tq_7 _ (List.mem_of_getElem? (i := 226) rfl)⟩
theorem lw_p137 : lw_okq (⟨"HallRegistersModel", "addsTail", "(II)V"⟩, 39) := ⟨⟨by decide +kernel, by decide +kernel⟩, tq_5 _ (List.mem_of_getElem? (i := 158) rfl), tq_7 _ (List.mem_of_getElem? (i := 229) rfl), tq_7 _ (List.mem_of_getElem? (i := 230) rfl)⟩
theorem lw_p138 : lw_okq (⟨"HallRegistersModel", "canMake", "()Z"⟩, 39) := ⟨⟨by decide +kernel, by decide +kernel⟩, tq_5 _ (List.mem_of_getElem? (i := 158) rfl), tq_7 _ (List.mem_of_getElem? (i := 233) rfl), tq_7 _ (List.mem_of_getElem? (i := 234) rfl)⟩
theorem lw_p139 : lw_okq (⟨"HallRegistersModel", "clearsAt", "(II)Z"⟩, 39) := ⟨⟨by decide +kernel, by decide +kernel⟩, tq_5 _ (List.mem_of_getElem? (i := 158) rfl), tq_7 _ (List.mem_of_getElem? (i := 237) rfl), tq_7 _ (List.mem_of_getElem? (i := 238) rfl)⟩
theorem lw_p140 : lw_okq (⟨"HallRegistersModel", "ofColumn", "(II)J"⟩, 39) := ⟨⟨by decide +kernel, by decide +kernel⟩, tq_5 _ (List.mem_of_getElem? (i := 158) rfl), tq_8 _ (List.mem_of_getElem? (i := 1) rfl), tq_8 _ (List.mem_of_getElem? (i := 2) rfl)⟩
theorem lw_p141 : lw_okq (⟨"HallRegistersModel", "changes", "(II)V"⟩, 39) := ⟨⟨by decide +kernel, by decide +kernel⟩, tq_5 _ (List.mem_of_getElem? (i := 158) rfl), tq_8 _ (List.mem_of_getElem? (i := 8) rfl), tq_8 _ (List.mem_of_getElem? (i := 9) rfl)⟩
theorem lw_p142 : lw_okq (⟨"HallRegistersModel", "lessens", "(IIJ)V"⟩, 39) := ⟨⟨by decide +kernel, by decide +kernel⟩, tq_5 _ (List.mem_of_getElem? (i := 158) rfl), tq_8 _ (List.mem_of_getElem? (i := 12) rfl), tq_8 _ (List.mem_of_getElem? (i := 13) rfl)⟩
theorem lw_p143 : lw_okq (⟨"HallRegistersModel", "leastMade", "(I)I"⟩, 39) := ⟨⟨by decide +kernel, by decide +kernel⟩, tq_5 _ (List.mem_of_getElem? (i := 158) rfl), tq_8 _ (List.mem_of_getElem? (i := 16) rfl), tq_8 _ (List.mem_of_getElem? (i := 17) rfl)⟩
def lw_privs_9 : List (MethodName × Nat) := [(⟨"HallRegistersModel", "degreeOf", "(II)I"⟩, 39), (⟨"HallRegistersModel", "weightOfTerm", "(II)I"⟩, 39), (⟨"HallRegistersModel", "isInBoth", "(II)Z"⟩, 39), (⟨"HallRegistersModel", "laysBall", "(I)I"⟩, 39), (⟨"HallRegistersModel", "meets", "(I)V"⟩, 39), (⟨"HallRegistersModel", "place", "(I)I"⟩, 39), (⟨"HallRegistersModel", "layer", "(I)I"⟩, 39), (⟨"HallRegistersModel", "shortOf", "(I)I"⟩, 39), (⟨"HallRegistersModel", "isMade", "(II)Z"⟩, 39), (⟨"HallRegistersModel", "addsTail", "(II)V"⟩, 39), (⟨"HallRegistersModel", "canMake", "()Z"⟩, 39), (⟨"HallRegistersModel", "clearsAt", "(II)Z"⟩, 39), (⟨"HallRegistersModel", "ofColumn", "(II)J"⟩, 39), (⟨"HallRegistersModel", "changes", "(II)V"⟩, 39), (⟨"HallRegistersModel", "lessens", "(IIJ)V"⟩, 39), (⟨"HallRegistersModel", "leastMade", "(I)I"⟩, 39)]
theorem lw_r9 : ∀ q ∈ lw_privs_9, lw_okq q := List.forall_mem_cons.mpr ⟨lw_p128, List.forall_mem_cons.mpr ⟨lw_p129, List.forall_mem_cons.mpr ⟨lw_p130, List.forall_mem_cons.mpr ⟨lw_p131, List.forall_mem_cons.mpr ⟨lw_p132, List.forall_mem_cons.mpr ⟨lw_p133, List.forall_mem_cons.mpr ⟨lw_p134, List.forall_mem_cons.mpr ⟨lw_p135, List.forall_mem_cons.mpr ⟨lw_p136, List.forall_mem_cons.mpr ⟨lw_p137, List.forall_mem_cons.mpr ⟨lw_p138, List.forall_mem_cons.mpr ⟨lw_p139, List.forall_mem_cons.mpr ⟨lw_p140, List.forall_mem_cons.mpr ⟨lw_p141, List.forall_mem_cons.mpr ⟨lw_p142, List.forall_mem_cons.mpr ⟨lw_p143, fun _ h => absurd h List.not_mem_nil⟩⟩⟩⟩⟩⟩⟩⟩⟩⟩⟩⟩⟩⟩⟩⟩
theorem lw_p144 : lw_okq (⟨"HallRegistersModel", "greatestRoot", "(I)I"⟩, 39) := ⟨⟨by decide +kernel, by decide +kernel⟩, tq_5 _ (List.mem_of_getElem? (i := 158) rfl), tq_8 _ (List.mem_of_getElem? (i := 20) rfl), tq_8 _ (List.mem_of_getElem? (i := 21) rfl)⟩
theorem lw_p145 : lw_okq (⟨"HallRegistersModel", "sameAs", "(I)I"⟩, 39) := ⟨⟨by decide +kernel, by decide +kernel⟩, tq_5 _ (List.mem_of_getElem? (i := 158) rfl), tq_8 _ (List.mem_of_getElem? (i := 24) rfl), tq_8 _ (List.mem_of_getElem? (i := 25) rfl)⟩
theorem lw_p146 : lw_okq (⟨"HallRegistersModel", "firstApart", "()I"⟩, 39) := ⟨⟨by decide +kernel, by decide +kernel⟩, tq_5 _ (List.mem_of_getElem? (i := 158) rfl), tq_8 _ (List.mem_of_getElem? (i := 32) rfl), tq_8 _ (List.mem_of_getElem? (i := 33) rfl)⟩
theorem lw_p147 : lw_okq (⟨"HallRegistersModel", "areAlike", "()Z"⟩, 39) := ⟨⟨by decide +kernel, by decide +kernel⟩, tq_5 _ (List.mem_of_getElem? (i := 158) rfl), tq_8 _ (List.mem_of_getElem? (i := 42) rfl), tq_8 _ (List.mem_of_getElem? (i := 43) rfl)⟩
theorem lw_p148 : lw_okq (⟨"HallRegistersModel", "areAlikeUpTo", "(III)Z"⟩, 39) := ⟨⟨by decide +kernel, by decide +kernel⟩, tq_5 _ (List.mem_of_getElem? (i := 158) rfl), tq_8 _ (List.mem_of_getElem? (i := 46) rfl), tq_8 _ (List.mem_of_getElem? (i := 47) rfl)⟩
theorem lw_p149 : lw_okq (⟨"HallRegistersModel", "letterAt", "(IIJ)V"⟩, 39) := ⟨⟨by decide +kernel, by decide +kernel⟩, tq_5 _ (List.mem_of_getElem? (i := 158) rfl), tq_8 _ (List.mem_of_getElem? (i := 50) rfl), tq_8 _ (List.mem_of_getElem? (i := 51) rfl)⟩
theorem lw_p150 : lw_okq (⟨"HallRegistersModel", "adds", "(III)V"⟩, 39) := ⟨⟨by decide +kernel, by decide +kernel⟩, tq_5 _ (List.mem_of_getElem? (i := 158) rfl), tq_8 _ (List.mem_of_getElem? (i := 54) rfl), tq_8 _ (List.mem_of_getElem? (i := 55) rfl)⟩
theorem lw_p151 : lw_okq (⟨"HallRegistersModel", "laysDue", "(III)V"⟩, 39) := ⟨⟨by decide +kernel, by decide +kernel⟩, tq_5 _ (List.mem_of_getElem? (i := 158) rfl), tq_8 _ (List.mem_of_getElem? (i := 58) rfl), tq_8 _ (List.mem_of_getElem? (i := 59) rfl)⟩
theorem lw_p152 : lw_okq (⟨"HallRegistersModel", "areAlikeInLast", "()Z"⟩, 39) := ⟨⟨by decide +kernel, by decide +kernel⟩, tq_5 _ (List.mem_of_getElem? (i := 158) rfl), tq_8 _ (List.mem_of_getElem? (i := 62) rfl), tq_8 _ (List.mem_of_getElem? (i := 63) rfl)⟩
theorem lw_p153 : lw_okq (⟨"HallRegistersModel", "tails", "()I"⟩, 39) := ⟨⟨by decide +kernel, by decide +kernel⟩, tq_5 _ (List.mem_of_getElem? (i := 158) rfl), tq_8 _ (List.mem_of_getElem? (i := 83) rfl), tq_8 _ (List.mem_of_getElem? (i := 84) rfl)⟩
theorem lw_p154 : lw_okq (⟨"HallRegistersModel", "termsOfAll", "()I"⟩, 39) := ⟨⟨by decide +kernel, by decide +kernel⟩, tq_5 _ (List.mem_of_getElem? (i := 158) rfl), tq_8 _ (List.mem_of_getElem? (i := 87) rfl), tq_8 _ (List.mem_of_getElem? (i := 88) rfl)⟩
theorem lw_p155 : lw_okq (⟨"HallRegistersModel", "notOnes", "()I"⟩, 39) := ⟨⟨by decide +kernel, by decide +kernel⟩, tq_5 _ (List.mem_of_getElem? (i := 158) rfl), tq_8 _ (List.mem_of_getElem? (i := 91) rfl), tq_8 _ (List.mem_of_getElem? (i := 92) rfl)⟩
theorem lw_p156 : lw_okq (⟨"HallRegistersModel", "centrals", "()I"⟩, 39) := ⟨⟨by decide +kernel, by decide +kernel⟩, tq_5 _ (List.mem_of_getElem? (i := 158) rfl), tq_8 _ (List.mem_of_getElem? (i := 95) rfl), tq_8 _ (List.mem_of_getElem? (i := 96) rfl)⟩
def lw_privs_10 : List (MethodName × Nat) := [(⟨"HallRegistersModel", "greatestRoot", "(I)I"⟩, 39), (⟨"HallRegistersModel", "sameAs", "(I)I"⟩, 39), (⟨"HallRegistersModel", "firstApart", "()I"⟩, 39), (⟨"HallRegistersModel", "areAlike", "()Z"⟩, 39), (⟨"HallRegistersModel", "areAlikeUpTo", "(III)Z"⟩, 39), (⟨"HallRegistersModel", "letterAt", "(IIJ)V"⟩, 39), (⟨"HallRegistersModel", "adds", "(III)V"⟩, 39), (⟨"HallRegistersModel", "laysDue", "(III)V"⟩, 39), (⟨"HallRegistersModel", "areAlikeInLast", "()Z"⟩, 39), (⟨"HallRegistersModel", "tails", "()I"⟩, 39), (⟨"HallRegistersModel", "termsOfAll", "()I"⟩, 39), (⟨"HallRegistersModel", "notOnes", "()I"⟩, 39), (⟨"HallRegistersModel", "centrals", "()I"⟩, 39)]
theorem lw_r10 : ∀ q ∈ lw_privs_10, lw_okq q := List.forall_mem_cons.mpr ⟨lw_p144, List.forall_mem_cons.mpr ⟨lw_p145, List.forall_mem_cons.mpr ⟨lw_p146, List.forall_mem_cons.mpr ⟨lw_p147, List.forall_mem_cons.mpr ⟨lw_p148, List.forall_mem_cons.mpr ⟨lw_p149, List.forall_mem_cons.mpr ⟨lw_p150, List.forall_mem_cons.mpr ⟨lw_p151, List.forall_mem_cons.mpr ⟨lw_p152, List.forall_mem_cons.mpr ⟨lw_p153, List.forall_mem_cons.mpr ⟨lw_p154, List.forall_mem_cons.mpr ⟨lw_p155, List.forall_mem_cons.mpr ⟨lw_p156, fun _ h => absurd h List.not_mem_nil⟩⟩⟩⟩⟩⟩⟩⟩⟩⟩⟩⟩⟩
def lw_privs : List (MethodName × Nat) := lw_privs_1 ++ (lw_privs_2 ++ (lw_privs_3 ++ (lw_privs_4 ++ (lw_privs_5 ++ (lw_privs_6 ++ (lw_privs_7 ++ (lw_privs_8 ++ (lw_privs_9 ++ (lw_privs_10)))))))))
def lw_tbl : List Cond := k2_sels lw_privs ++ tables_1
theorem lw_privs_ok : ∀ q ∈ lw_privs, lw_okq q := by
  show ∀ q ∈ lw_privs_1 ++ (lw_privs_2 ++ (lw_privs_3 ++ (lw_privs_4 ++ (lw_privs_5 ++ (lw_privs_6 ++ (lw_privs_7 ++ (lw_privs_8 ++ (lw_privs_9 ++ (lw_privs_10))))))))), lw_okq q
  exact List.forall_mem_append.mpr ⟨lw_r1, List.forall_mem_append.mpr ⟨lw_r2, List.forall_mem_append.mpr ⟨lw_r3, List.forall_mem_append.mpr ⟨lw_r4, List.forall_mem_append.mpr ⟨lw_r5, List.forall_mem_append.mpr ⟨lw_r6, List.forall_mem_append.mpr ⟨lw_r7, List.forall_mem_append.mpr ⟨lw_r8, List.forall_mem_append.mpr ⟨lw_r9, lw_r10⟩⟩⟩⟩⟩⟩⟩⟩⟩

theorem wide_first : True := by
  have := @Stand.multianewarray2F
  trivial
def RX0 : String := "HallRegisters$Arithmetic"
def TX0 : u_T := fun k => match k with
  | 0 => ("HallRegisters$Arithmetic", "law", "LHallRegisters$Law;", true)
  | 1 => ("HallRegisters$Arithmetic", "table", "[J", true)
  | 2 => ("HallRegisters$Arithmetic", "cubeTable", "[J", true)
  | 3 => ("HallRegisters$Arithmetic", "first", "[J", true)
  | 4 => ("HallRegisters$Arithmetic", "square", "[J", true)
  | 5 => ("HallRegisters$Arithmetic", "cube", "[J", true)
  | 6 => ("HallRegisters$Arithmetic", "left", "[J", true)
  | _ => ("HallRegisters$Arithmetic", "right", "[J", true)
def tyX0 : Nat → FieldType := fun k => match k with
  | 0 => .object "HallRegisters$Law"
  | 1 => .array .long
  | 2 => .array .long
  | 3 => .array .long
  | 4 => .array .long
  | 5 => .array .long
  | 6 => .array .long
  | _ => .array .long
abbrev wsX00 : List Cond := u_ws RX0 TX0 8
theorem nmX0 : ∀ a, a < 8 → ∀ b, b < 8 → a ≠ b → (TX0 a).2.1 ≠ (TX0 b).2.1 := by decide +kernel
theorem tyX0_ok : ∀ k, k < 8 → parseFieldDescriptor (TX0 k).2.2.1 = some (tyX0 k) := by decide +kernel
abbrev cX0_init : ByteArray := prog_2_method_1_code
def yX0_init : MethodName := ⟨RX0, "<init>", "(LHallRegisters$Law;)V"⟩
abbrev cX0_copy : ByteArray := prog_2_method_2_code
def yX0_copy : MethodName := ⟨RX0, "copy", "([J[J)V"⟩
abbrev cX0_areSame : ByteArray := prog_2_method_3_code
def yX0_areSame : MethodName := ⟨RX0, "areSame", "([J[J)Z"⟩
abbrev cX0_isOne : ByteArray := prog_2_method_4_code
def yX0_isOne : MethodName := ⟨RX0, "isOne", "([J)Z"⟩
abbrev cX0_isWithin : ByteArray := prog_2_method_5_code
def yX0_isWithin : MethodName := ⟨RX0, "isWithin", "([JJ)Z"⟩
abbrev cX0_makeGenerator : ByteArray := prog_2_method_6_code
def yX0_makeGenerator : MethodName := ⟨RX0, "makeGenerator", "([JIJ)V"⟩
abbrev cX0_product : ByteArray := prog_2_method_7_code
def yX0_product : MethodName := ⟨RX0, "product", "([J[J[J)V"⟩
abbrev cX0_inverse : ByteArray := prog_2_method_8_code
def yX0_inverse : MethodName := ⟨RX0, "inverse", "([J[J)V"⟩
abbrev cX0_commutator : ByteArray := prog_2_method_9_code
def yX0_commutator : MethodName := ⟨RX0, "commutator", "([J[J[J)V"⟩
abbrev cX0_conjugated : ByteArray := prog_2_method_10_code
def yX0_conjugated : MethodName := ⟨RX0, "conjugated", "([J[J[J)V"⟩
abbrev cX0_doCommute : ByteArray := prog_2_method_11_code
def yX0_doCommute : MethodName := ⟨RX0, "doCommute", "([J[J)Z"⟩
abbrev cX0_findPowers : ByteArray := prog_2_method_12_code
def yX0_findPowers : MethodName := ⟨RX0, "findPowers", "([J)V"⟩
abbrev cX0_powerNumber : ByteArray := prog_2_method_13_code
def yX0_powerNumber : MethodName := ⟨RX0, "powerNumber", "(II)J"⟩
abbrev cX0_raise : ByteArray := prog_2_method_14_code
def yX0_raise : MethodName := ⟨RX0, "raise", "([J[JJ)V"⟩
abbrev cX0_powerAt : ByteArray := prog_2_method_15_code
def yX0_powerAt : MethodName := ⟨RX0, "powerAt", "(IJ)J"⟩
abbrev cX0_extract : ByteArray := prog_2_method_16_code
def yX0_extract : MethodName := ⟨RX0, "extract", "([J[JJ)Z"⟩
abbrev cX0_putRoot : ByteArray := prog_2_method_17_code
def yX0_putRoot : MethodName := ⟨RX0, "putRoot", "(IJ)V"⟩
def RX1 : String := "HallRegisters$Ball"
def TX1 : u_T := fun k => match k with
  | 0 => ("HallRegisters$Ball", "law", "LHallRegisters$Law;", true)
  | 1 => ("HallRegisters$Ball", "arithmetic", "LHallRegisters$Arithmetic;", true)
  | 2 => ("HallRegisters$Ball", "edition", "I", false)
  | 3 => ("HallRegisters$Ball", "sizes", "[I", true)
  | 4 => ("HallRegisters$Ball", "found", "[J", true)
  | 5 => ("HallRegisters$Ball", "slots", "[I", true)
  | 6 => ("HallRegisters$Ball", "count", "I", false)
  | 7 => ("HallRegisters$Ball", "from", "[J", true)
  | 8 => ("HallRegisters$Ball", "step", "[J", true)
  | _ => ("HallRegisters$Ball", "made", "[J", true)
def tyX1 : Nat → FieldType := fun k => match k with
  | 0 => .object "HallRegisters$Law"
  | 1 => .object "HallRegisters$Arithmetic"
  | 2 => .int
  | 3 => .array .int
  | 4 => .array .long
  | 5 => .array .int
  | 6 => .int
  | 7 => .array .long
  | 8 => .array .long
  | _ => .array .long
abbrev wsX10 : List Cond := u_ws RX1 TX1 10
theorem nmX1 : ∀ a, a < 10 → ∀ b, b < 10 → a ≠ b → (TX1 a).2.1 ≠ (TX1 b).2.1 := by decide +kernel
theorem tyX1_ok : ∀ k, k < 10 → parseFieldDescriptor (TX1 k).2.2.1 = some (tyX1 k) := by decide +kernel
abbrev cX1_init : ByteArray := prog_3_method_1_code
def yX1_init : MethodName := ⟨RX1, "<init>", "(LHallRegisters$Law;LHallRegisters$Arithmetic;)V"⟩
abbrev cX1_sizeOf : ByteArray := prog_3_method_2_code
def yX1_sizeOf : MethodName := ⟨RX1, "sizeOf", "(I)I"⟩
abbrev cX1_levelOf : ByteArray := prog_3_method_3_code
def yX1_levelOf : MethodName := ⟨RX1, "levelOf", "([J)I"⟩
abbrev cX1_find : ByteArray := prog_3_method_4_code
def yX1_find : MethodName := ⟨RX1, "find", "()V"⟩
abbrev cX1_grow : ByteArray := prog_3_method_5_code
def yX1_grow : MethodName := ⟨RX1, "grow", "(II)V"⟩
abbrev cX1_growBy : ByteArray := prog_3_method_6_code
def yX1_growBy : MethodName := ⟨RX1, "growBy", "(II)V"⟩
abbrev cX1_keepMade : ByteArray := prog_3_method_7_code
def yX1_keepMade : MethodName := ⟨RX1, "keepMade", "()V"⟩
abbrev cX1_slotOf : ByteArray := prog_3_method_8_code
def yX1_slotOf : MethodName := ⟨RX1, "slotOf", "([J)I"⟩
abbrev cX1_isAt : ByteArray := prog_3_method_9_code
def yX1_isAt : MethodName := ⟨RX1, "isAt", "(I[J)Z"⟩
def RX2 : String := "HallRegisters$Collector"
def TX2 : u_T := fun k => match k with
  | 0 => ("HallRegisters$Collector", "word", "[I", true)
  | 1 => ("HallRegisters$Collector", "length", "I", false)
  | 2 => ("HallRegisters$Collector", "sorted", "[I", true)
  | 3 => ("HallRegisters$Collector", "sortedCount", "I", false)
  | 4 => ("HallRegisters$Collector", "waiting", "[I", true)
  | 5 => ("HallRegisters$Collector", "waitingCount", "I", false)
  | _ => ("HallRegisters$Collector", "counts", "[I", true)
def tyX2 : Nat → FieldType := fun k => match k with
  | 0 => .array .int
  | 1 => .int
  | 2 => .array .int
  | 3 => .int
  | 4 => .array .int
  | 5 => .int
  | _ => .array .int
abbrev wsX20 : List Cond := u_ws RX2 TX2 7
theorem nmX2 : ∀ a, a < 7 → ∀ b, b < 7 → a ≠ b → (TX2 a).2.1 ≠ (TX2 b).2.1 := by decide +kernel
theorem tyX2_ok : ∀ k, k < 7 → parseFieldDescriptor (TX2 k).2.2.1 = some (tyX2 k) := by decide +kernel
abbrev cX2_init : ByteArray := prog_4_method_1_code
def yX2_init : MethodName := ⟨RX2, "<init>", "()V"⟩
abbrev cX2_begin : ByteArray := prog_4_method_2_code
def yX2_begin : MethodName := ⟨RX2, "begin", "()V"⟩
abbrev cX2_add : ByteArray := prog_4_method_3_code
def yX2_add : MethodName := ⟨RX2, "add", "(I)V"⟩
abbrev cX2_addTails : ByteArray := prog_4_method_4_code
def yX2_addTails : MethodName := ⟨RX2, "addTails", "(LHallRegisters$Rules;II)V"⟩
abbrev cX2_run : ByteArray := prog_4_method_5_code
def yX2_run : MethodName := ⟨RX2, "run", "(LHallRegisters$Rules;I)I"⟩
abbrev cX2_putAhead : ByteArray := prog_4_method_6_code
def yX2_putAhead : MethodName := ⟨RX2, "putAhead", "(I)V"⟩
abbrev cX2_moveOn : ByteArray := prog_4_method_7_code
def yX2_moveOn : MethodName := ⟨RX2, "moveOn", "(I)V"⟩
abbrev cX2_exchange : ByteArray := prog_4_method_8_code
def yX2_exchange : MethodName := ⟨RX2, "exchange", "(LHallRegisters$Rules;II)V"⟩
abbrev cX2_countLetters : ByteArray := prog_4_method_9_code
def yX2_countLetters : MethodName := ⟨RX2, "countLetters", "()V"⟩
def RX3 : String := "HallRegisters$Lattice"
def TX3 : u_T := fun k => match k with
  | 0 => ("HallRegisters$Lattice", "columns", "I", false)
  | 1 => ("HallRegisters$Lattice", "rows", "[[J", true)
  | _ => ("HallRegisters$Lattice", "spare", "[J", true)
def tyX3 : Nat → FieldType := fun k => match k with
  | 0 => .int
  | 1 => .array (.array .long)
  | _ => .array .long
abbrev wsX30 : List Cond := u_ws RX3 TX3 3
theorem nmX3 : ∀ a, a < 3 → ∀ b, b < 3 → a ≠ b → (TX3 a).2.1 ≠ (TX3 b).2.1 := by decide +kernel
theorem tyX3_ok : ∀ k, k < 3 → parseFieldDescriptor (TX3 k).2.2.1 = some (tyX3 k) := by decide +kernel
abbrev cX3_init : ByteArray := prog_5_method_1_code
def yX3_init : MethodName := ⟨RX3, "<init>", "()V"⟩
abbrev cX3_clear : ByteArray := prog_5_method_2_code
def yX3_clear : MethodName := ⟨RX3, "clear", "(I)V"⟩
abbrev cX3_hasStep : ByteArray := prog_5_method_3_code
def yX3_hasStep : MethodName := ⟨RX3, "hasStep", "(I)Z"⟩
abbrev cX3_insert : ByteArray := prog_5_method_4_code
def yX3_insert : MethodName := ⟨RX3, "insert", "([J)V"⟩
abbrev cX3_reduce : ByteArray := prog_5_method_5_code
def yX3_reduce : MethodName := ⟨RX3, "reduce", "([J)Z"⟩
abbrev cX3_takeStep : ByteArray := prog_5_method_6_code
def yX3_takeStep : MethodName := ⟨RX3, "takeStep", "([JI)V"⟩
abbrev cX3_meet : ByteArray := prog_5_method_7_code
def yX3_meet : MethodName := ⟨RX3, "meet", "(I)V"⟩
abbrev cX3_swapWithSpare : ByteArray := prog_5_method_8_code
def yX3_swapWithSpare : MethodName := ⟨RX3, "swapWithSpare", "([J)V"⟩
abbrev cX3_subtract : ByteArray := prog_5_method_9_code
def yX3_subtract : MethodName := ⟨RX3, "subtract", "([J[JJ)V"⟩
abbrev cX3_negate : ByteArray := prog_5_method_10_code
def yX3_negate : MethodName := ⟨RX3, "negate", "([J)V"⟩
abbrev cX3_tidy : ByteArray := prog_5_method_11_code
def yX3_tidy : MethodName := ⟨RX3, "tidy", "()V"⟩
def RX4 : String := "HallRegisters$Law"
def TX4 : u_T := fun k => match k with
  | 0 => ("HallRegisters$Law", "rules", "LHallRegisters$Rules;", true)
  | 1 => ("HallRegisters$Law", "collector", "LHallRegisters$Collector;", true)
  | 2 => ("HallRegisters$Law", "sums", "[LHallRegisters$Sum;", true)
  | 3 => ("HallRegisters$Law", "consistent", "Z", false)
  | 4 => ("HallRegisters$Law", "edition", "I", false)
  | 5 => ("HallRegisters$Law", "point", "[I", true)
  | 6 => ("HallRegisters$Law", "pointWeight", "I", false)
  | 7 => ("HallRegisters$Law", "table", "[J", true)
  | _ => ("HallRegisters$Law", "counts", "[I", true)
def tyX4 : Nat → FieldType := fun k => match k with
  | 0 => .object "HallRegisters$Rules"
  | 1 => .object "HallRegisters$Collector"
  | 2 => .array (.object "HallRegisters$Sum")
  | 3 => .boolean
  | 4 => .int
  | 5 => .array .int
  | 6 => .int
  | 7 => .array .long
  | _ => .array .int
abbrev wsX40 : List Cond := u_ws RX4 TX4 9
theorem nmX4 : ∀ a, a < 9 → ∀ b, b < 9 → a ≠ b → (TX4 a).2.1 ≠ (TX4 b).2.1 := by decide +kernel
theorem tyX4_ok : ∀ k, k < 9 → parseFieldDescriptor (TX4 k).2.2.1 = some (tyX4 k) := by decide +kernel
abbrev cX4_init : ByteArray := prog_6_method_1_code
def yX4_init : MethodName := ⟨RX4, "<init>", "(LHallRegisters$Collector;)V"⟩
abbrev cX4_follow : ByteArray := prog_6_method_2_code
def yX4_follow : MethodName := ⟨RX4, "follow", "(LHallRegisters$Rules;)V"⟩
abbrev cX4_termCount : ByteArray := prog_6_method_3_code
def yX4_termCount : MethodName := ⟨RX4, "termCount", "()I"⟩
abbrev cX4_put : ByteArray := prog_6_method_4_code
def yX4_put : MethodName := ⟨RX4, "put", "([JIJ)V"⟩
abbrev cX4_areOverlapsAlike : ByteArray := prog_6_method_5_code
def yX4_areOverlapsAlike : MethodName := ⟨RX4, "areOverlapsAlike", "()Z"⟩
abbrev cX4_isOverlapAlike : ByteArray := prog_6_method_6_code
def yX4_isOverlapAlike : MethodName := ⟨RX4, "isOverlapAlike", "(III)Z"⟩
abbrev cX4_findTerms : ByteArray := prog_6_method_7_code
def yX4_findTerms : MethodName := ⟨RX4, "findTerms", "()V"⟩
abbrev cX4_goToNextPoint : ByteArray := prog_6_method_8_code
def yX4_goToNextPoint : MethodName := ⟨RX4, "goToNextPoint", "()Z"⟩
abbrev cX4_findTermsAtPoint : ByteArray := prog_6_method_9_code
def yX4_findTermsAtPoint : MethodName := ⟨RX4, "findTermsAtPoint", "()V"⟩
def RX5 : String := "HallRegisters$Reader"
def TX5 : u_T := fun k => match k with
  | 0 => ("HallRegisters$Reader", "faultKind", "I", false)
  | 1 => ("HallRegisters$Reader", "faultPlace", "I", false)
  | 2 => ("HallRegisters$Reader", "words", "[[J", true)
  | 3 => ("HallRegisters$Reader", "factors", "[[J", true)
  | 4 => ("HallRegisters$Reader", "commutators", "[[J", true)
  | 5 => ("HallRegisters$Reader", "state", "LHallRegisters$State;", true)
  | 6 => ("HallRegisters$Reader", "arithmetic", "LHallRegisters$Arithmetic;", true)
  | 7 => ("HallRegisters$Reader", "bytes", "[I", true)
  | 8 => ("HallRegisters$Reader", "length", "I", false)
  | 9 => ("HallRegisters$Reader", "place", "I", false)
  | _ => ("HallRegisters$Reader", "behind", "I", false)
def tyX5 : Nat → FieldType := fun k => match k with
  | 0 => .int
  | 1 => .int
  | 2 => .array (.array .long)
  | 3 => .array (.array .long)
  | 4 => .array (.array .long)
  | 5 => .object "HallRegisters$State"
  | 6 => .object "HallRegisters$Arithmetic"
  | 7 => .array .int
  | 8 => .int
  | 9 => .int
  | _ => .int
abbrev wsX50 : List Cond := u_ws RX5 TX5 11
theorem nmX5 : ∀ a, a < 11 → ∀ b, b < 11 → a ≠ b → (TX5 a).2.1 ≠ (TX5 b).2.1 := by decide +kernel
theorem tyX5_ok : ∀ k, k < 11 → parseFieldDescriptor (TX5 k).2.2.1 = some (tyX5 k) := by decide +kernel
abbrev cX5_init : ByteArray := prog_7_method_1_code
def yX5_init : MethodName := ⟨RX5, "<init>", "(LHallRegisters$State;LHallRegisters$Arithmetic;)V"⟩
abbrev cX5_forget : ByteArray := prog_7_method_2_code
def yX5_forget : MethodName := ⟨RX5, "forget", "()V"⟩
abbrev cX5_read : ByteArray := prog_7_method_3_code
def yX5_read : MethodName := ⟨RX5, "read", "([II)Z"⟩
abbrev cX5_fail : ByteArray := prog_7_method_4_code
def yX5_fail : MethodName := ⟨RX5, "fail", "(II)Z"⟩
abbrev cX5_signHere : ByteArray := prog_7_method_5_code
def yX5_signHere : MethodName := ⟨RX5, "signHere", "()I"⟩
abbrev cX5_skipBlanks : ByteArray := prog_7_method_6_code
def yX5_skipBlanks : MethodName := ⟨RX5, "skipBlanks", "()I"⟩
abbrev cX5_isDigit : ByteArray := prog_7_method_7_code
def yX5_isDigit : MethodName := ⟨RX5, "isDigit", "(I)Z"⟩
abbrev cX5_beginsFactor : ByteArray := prog_7_method_8_code
def yX5_beginsFactor : MethodName := ⟨RX5, "beginsFactor", "(I)Z"⟩
abbrev cX5_readWord : ByteArray := prog_7_method_9_code
def yX5_readWord : MethodName := ⟨RX5, "readWord", "(I)Z"⟩
abbrev cX5_readFactor : ByteArray := prog_7_method_10_code
def yX5_readFactor : MethodName := ⟨RX5, "readFactor", "(I)Z"⟩
abbrev cX5_readLetter : ByteArray := prog_7_method_11_code
def yX5_readLetter : MethodName := ⟨RX5, "readLetter", "(I[J)Z"⟩
abbrev cX5_readRegister : ByteArray := prog_7_method_12_code
def yX5_readRegister : MethodName := ⟨RX5, "readRegister", "([J)Z"⟩
abbrev cX5_passFactor : ByteArray := prog_7_method_13_code
def yX5_passFactor : MethodName := ⟨RX5, "passFactor", "()Z"⟩
abbrev cX5_readRound : ByteArray := prog_7_method_14_code
def yX5_readRound : MethodName := ⟨RX5, "readRound", "(I)Z"⟩
abbrev cX5_readSquare : ByteArray := prog_7_method_15_code
def yX5_readSquare : MethodName := ⟨RX5, "readSquare", "(I)Z"⟩
abbrev cX5_readPower : ByteArray := prog_7_method_16_code
def yX5_readPower : MethodName := ⟨RX5, "readPower", "([J)Z"⟩
def RX6 : String := "HallRegisters$Rules"
def TX6 : u_T := fun k => match k with
  | 0 => ("HallRegisters$Rules", "count", "I", false)
  | 1 => ("HallRegisters$Rules", "weights", "[I", true)
  | _ => ("HallRegisters$Rules", "tails", "[I", true)
def tyX6 : Nat → FieldType := fun k => match k with
  | 0 => .int
  | 1 => .array .int
  | _ => .array .int
abbrev wsX60 : List Cond := u_ws RX6 TX6 3
theorem nmX6 : ∀ a, a < 3 → ∀ b, b < 3 → a ≠ b → (TX6 a).2.1 ≠ (TX6 b).2.1 := by decide +kernel
theorem tyX6_ok : ∀ k, k < 3 → parseFieldDescriptor (TX6 k).2.2.1 = some (tyX6 k) := by decide +kernel
abbrev cX6_init : ByteArray := prog_8_method_1_code
def yX6_init : MethodName := ⟨RX6, "<init>", "()V"⟩
abbrev cX6_areWeights : ByteArray := prog_8_method_2_code
def yX6_areWeights : MethodName := ⟨RX6, "areWeights", "(II)Z"⟩
abbrev cX6_reset : ByteArray := prog_8_method_3_code
def yX6_reset : MethodName := ⟨RX6, "reset", "(II)V"⟩
abbrev cX6_takeKind : ByteArray := prog_8_method_4_code
def yX6_takeKind : MethodName := ⟨RX6, "takeKind", "(I)V"⟩
abbrev cX6_takeAll : ByteArray := prog_8_method_5_code
def yX6_takeAll : MethodName := ⟨RX6, "takeAll", "(LHallRegisters$Rules;)V"⟩
abbrev cX6_isSame : ByteArray := prog_8_method_6_code
def yX6_isSame : MethodName := ⟨RX6, "isSame", "(LHallRegisters$Rules;)Z"⟩
abbrev cX6_isTail : ByteArray := prog_8_method_7_code
def yX6_isTail : MethodName := ⟨RX6, "isTail", "(III)Z"⟩
abbrev cX6_mayBe : ByteArray := prog_8_method_8_code
def yX6_mayBe : MethodName := ⟨RX6, "mayBe", "(IIII)Z"⟩
abbrev cX6_read : ByteArray := prog_8_method_9_code
def yX6_read : MethodName := ⟨RX6, "read", "(III)I"⟩
abbrev cX6_write : ByteArray := prog_8_method_10_code
def yX6_write : MethodName := ⟨RX6, "write", "(IIII)V"⟩
abbrev cX6_copyTails : ByteArray := prog_8_method_11_code
def yX6_copyTails : MethodName := ⟨RX6, "copyTails", "(II[J)V"⟩
abbrev cX6_top : ByteArray := prog_8_method_12_code
def yX6_top : MethodName := ⟨RX6, "top", "()I"⟩
abbrev cX6_tailsAboveZero : ByteArray := prog_8_method_13_code
def yX6_tailsAboveZero : MethodName := ⟨RX6, "tailsAboveZero", "()I"⟩
abbrev cX6_isCentral : ByteArray := prog_8_method_14_code
def yX6_isCentral : MethodName := ⟨RX6, "isCentral", "(I)Z"⟩
abbrev cX6_countOf : ByteArray := prog_8_method_15_code
def yX6_countOf : MethodName := ⟨RX6, "countOf", "(I)I"⟩
def RX7 : String := "HallRegisters$Search"
def TX7 : u_T := fun k => match k with
  | 0 => ("HallRegisters$Search", "law", "LHallRegisters$Law;", true)
  | 1 => ("HallRegisters$Search", "turns", "LHallRegisters$Lattice;", true)
  | 2 => ("HallRegisters$Search", "shifts", "LHallRegisters$Lattice;", true)
  | 3 => ("HallRegisters$Search", "gaps", "[LHallRegisters$Sum;", true)
  | 4 => ("HallRegisters$Search", "table", "[J", true)
  | 5 => ("HallRegisters$Search", "row", "[J", true)
  | 6 => ("HallRegisters$Search", "rest", "[J", true)
  | 7 => ("HallRegisters$Search", "u", "[J", true)
  | 8 => ("HallRegisters$Search", "ones", "I", false)
  | 9 => ("HallRegisters$Search", "twos", "I", false)
  | _ => ("HallRegisters$Search", "threes", "I", false)
def tyX7 : Nat → FieldType := fun k => match k with
  | 0 => .object "HallRegisters$Law"
  | 1 => .object "HallRegisters$Lattice"
  | 2 => .object "HallRegisters$Lattice"
  | 3 => .array (.object "HallRegisters$Sum")
  | 4 => .array .long
  | 5 => .array .long
  | 6 => .array .long
  | 7 => .array .long
  | 8 => .int
  | 9 => .int
  | _ => .int
abbrev wsX70 : List Cond := u_ws RX7 TX7 11
theorem nmX7 : ∀ a, a < 11 → ∀ b, b < 11 → a ≠ b → (TX7 a).2.1 ≠ (TX7 b).2.1 := by decide +kernel
theorem tyX7_ok : ∀ k, k < 11 → parseFieldDescriptor (TX7 k).2.2.1 = some (tyX7 k) := by decide +kernel
abbrev cX7_init : ByteArray := prog_9_method_1_code
def yX7_init : MethodName := ⟨RX7, "<init>", "(LHallRegisters$Law;)V"⟩
abbrev cX7_findGaps : ByteArray := prog_9_method_2_code
def yX7_findGaps : MethodName := ⟨RX7, "findGaps", "([J[J)V"⟩
abbrev cX7_findGap : ByteArray := prog_9_method_3_code
def yX7_findGap : MethodName := ⟨RX7, "findGap", "(LHallRegisters$Sum;LHallRegisters$Sum;)V"⟩
abbrev cX7_conjugator : ByteArray := prog_9_method_4_code
def yX7_conjugator : MethodName := ⟨RX7, "conjugator", "([J[J[JI)Z"⟩
abbrev cX7_findWithin : ByteArray := prog_9_method_5_code
def yX7_findWithin : MethodName := ⟨RX7, "findWithin", "(II)Z"⟩
abbrev cX7_areClosed : ByteArray := prog_9_method_6_code
def yX7_areClosed : MethodName := ⟨RX7, "areClosed", "(II)Z"⟩
abbrev cX7_setU : ByteArray := prog_9_method_7_code
def yX7_setU : MethodName := ⟨RX7, "setU", "(IJ)V"⟩
abbrev cX7_putU : ByteArray := prog_9_method_8_code
def yX7_putU : MethodName := ⟨RX7, "putU", "(J)V"⟩
abbrev cX7_areConjugates : ByteArray := prog_9_method_9_code
def yX7_areConjugates : MethodName := ⟨RX7, "areConjugates", "([J[J)Z"⟩
abbrev cX7_findTurns : ByteArray := prog_9_method_10_code
def yX7_findTurns : MethodName := ⟨RX7, "findTurns", "()V"⟩
abbrev cX7_turnWeightTwo : ByteArray := prog_9_method_11_code
def yX7_turnWeightTwo : MethodName := ⟨RX7, "turnWeightTwo", "()Z"⟩
abbrev cX7_findShifts : ByteArray := prog_9_method_12_code
def yX7_findShifts : MethodName := ⟨RX7, "findShifts", "()V"⟩
abbrev cX7_insertShift : ByteArray := prog_9_method_13_code
def yX7_insertShift : MethodName := ⟨RX7, "insertShift", "()V"⟩
abbrev cX7_copyGaps : ByteArray := prog_9_method_14_code
def yX7_copyGaps : MethodName := ⟨RX7, "copyGaps", "(II[J)V"⟩
def RX8 : String := "HallRegisters$State"
def TX8 : u_T := fun k => match k with
  | 0 => ("HallRegisters$State", "rules", "LHallRegisters$Rules;", true)
  | 1 => ("HallRegisters$State", "registers", "[[J", true)
  | _ => ("HallRegisters$State", "told", "[I", true)
def tyX8 : Nat → FieldType := fun k => match k with
  | 0 => .object "HallRegisters$Rules"
  | 1 => .array (.array .long)
  | _ => .array .int
abbrev wsX80 : List Cond := u_ws RX8 TX8 3
theorem nmX8 : ∀ a, a < 3 → ∀ b, b < 3 → a ≠ b → (TX8 a).2.1 ≠ (TX8 b).2.1 := by decide +kernel
theorem tyX8_ok : ∀ k, k < 3 → parseFieldDescriptor (TX8 k).2.2.1 = some (tyX8 k) := by decide +kernel
abbrev cX8_init : ByteArray := prog_10_method_1_code
def yX8_init : MethodName := ⟨RX8, "<init>", "()V"⟩
abbrev cX8_clearRegisters : ByteArray := prog_10_method_2_code
def yX8_clearRegisters : MethodName := ⟨RX8, "clearRegisters", "()V"⟩
abbrev cX8_takeActed : ByteArray := prog_10_method_3_code
def yX8_takeActed : MethodName := ⟨RX8, "takeActed", "(LHallRegisters$State;)V"⟩
abbrev cX8_takeAll : ByteArray := prog_10_method_4_code
def yX8_takeAll : MethodName := ⟨RX8, "takeAll", "(LHallRegisters$State;)V"⟩
def RX9 : String := "HallRegisters$Sum"
def TX9 : u_T := fun k => match k with
  | 0 => ("HallRegisters$Sum", "count", "I", false)
  | 1 => ("HallRegisters$Sum", "keys", "[I", true)
  | 2 => ("HallRegisters$Sum", "numbers", "[J", true)
  | _ => ("HallRegisters$Sum", "places", "[I", true)
def tyX9 : Nat → FieldType := fun k => match k with
  | 0 => .int
  | 1 => .array .int
  | 2 => .array .long
  | _ => .array .int
abbrev wsX90 : List Cond := u_ws RX9 TX9 4
theorem nmX9 : ∀ a, a < 4 → ∀ b, b < 4 → a ≠ b → (TX9 a).2.1 ≠ (TX9 b).2.1 := by decide +kernel
theorem tyX9_ok : ∀ k, k < 4 → parseFieldDescriptor (TX9 k).2.2.1 = some (tyX9 k) := by decide +kernel
abbrev cX9_init : ByteArray := prog_11_method_1_code
def yX9_init : MethodName := ⟨RX9, "<init>", "()V"⟩
abbrev cX9_append : ByteArray := prog_11_method_2_code
def yX9_append : MethodName := ⟨RX9, "append", "(IJ)V"⟩
abbrev cX9_merge : ByteArray := prog_11_method_3_code
def yX9_merge : MethodName := ⟨RX9, "merge", "(IJ)V"⟩
abbrev cX9_value : ByteArray := prog_11_method_4_code
def yX9_value : MethodName := ⟨RX9, "value", "([J)J"⟩
abbrev cX9_factors : ByteArray := prog_11_method_5_code
def yX9_factors : MethodName := ⟨RX9, "factors", "(I[J)J"⟩
abbrev cX9_placesOf : ByteArray := prog_11_method_6_code
def yX9_placesOf : MethodName := ⟨RX9, "placesOf", "(I)I"⟩
abbrev cX9_greatestDegree : ByteArray := prog_11_method_7_code
def yX9_greatestDegree : MethodName := ⟨RX9, "greatestDegree", "()I"⟩
abbrev cX9_greatestWeight : ByteArray := prog_11_method_8_code
def yX9_greatestWeight : MethodName := ⟨RX9, "greatestWeight", "(LHallRegisters$Rules;)I"⟩
abbrev cX9_termsInBothRows : ByteArray := prog_11_method_9_code
def yX9_termsInBothRows : MethodName := ⟨RX9, "termsInBothRows", "()I"⟩
abbrev cX9_hasBoth : ByteArray := prog_11_method_10_code
def yX9_hasBoth : MethodName := ⟨RX9, "hasBoth", "(I)Z"⟩
abbrev cX9_sumOfNumbers : ByteArray := prog_11_method_11_code
def yX9_sumOfNumbers : MethodName := ⟨RX9, "sumOfNumbers", "()J"⟩
def RX10 : String := "HallRegisters"
def TX10 : u_T := fun k => match k with
  | 0 => ("HallRegisters", "now", "LHallRegisters$State;", true)
  | 1 => ("HallRegisters", "pictured", "LHallRegisters$State;", true)
  | 2 => ("HallRegisters", "imageTaken", "Z", false)
  | 3 => ("HallRegisters", "acts", "[LHallRegisters$State;", true)
  | 4 => ("HallRegisters", "actCount", "I", false)
  | 5 => ("HallRegisters", "nextAct", "I", false)
  | 6 => ("HallRegisters", "tape", "[I", true)
  | 7 => ("HallRegisters", "tapeLength", "I", false)
  | 8 => ("HallRegisters", "collector", "LHallRegisters$Collector;", true)
  | 9 => ("HallRegisters", "law", "LHallRegisters$Law;", true)
  | 10 => ("HallRegisters", "arithmetic", "LHallRegisters$Arithmetic;", true)
  | 11 => ("HallRegisters", "search", "LHallRegisters$Search;", true)
  | 12 => ("HallRegisters", "balls", "LHallRegisters$Ball;", true)
  | 13 => ("HallRegisters", "lattice", "LHallRegisters$Lattice;", true)
  | 14 => ("HallRegisters", "reader", "LHallRegisters$Reader;", true)
  | 15 => ("HallRegisters", "result", "[J", true)
  | _ => ("HallRegisters", "other", "[J", true)
def tyX10 : Nat → FieldType := fun k => match k with
  | 0 => .object "HallRegisters$State"
  | 1 => .object "HallRegisters$State"
  | 2 => .boolean
  | 3 => .array (.object "HallRegisters$State")
  | 4 => .int
  | 5 => .int
  | 6 => .array .int
  | 7 => .int
  | 8 => .object "HallRegisters$Collector"
  | 9 => .object "HallRegisters$Law"
  | 10 => .object "HallRegisters$Arithmetic"
  | 11 => .object "HallRegisters$Search"
  | 12 => .object "HallRegisters$Ball"
  | 13 => .object "HallRegisters$Lattice"
  | 14 => .object "HallRegisters$Reader"
  | 15 => .array .long
  | _ => .array .long
abbrev wsX100 : List Cond := u_ws RX10 TX10 17
theorem nmX10 : ∀ a, a < 17 → ∀ b, b < 17 → a ≠ b → (TX10 a).2.1 ≠ (TX10 b).2.1 := by decide +kernel
theorem tyX10_ok : ∀ k, k < 17 → parseFieldDescriptor (TX10 k).2.2.1 = some (tyX10 k) := by decide +kernel
abbrev cX10_init : ByteArray := prog_1_method_1_code
def yX10_init : MethodName := ⟨RX10, "<init>", "()V"⟩
abbrev cX10_group : ByteArray := prog_1_method_2_code
def yX10_group : MethodName := ⟨RX10, "group", "(II)Z"⟩
abbrev cX10_tail : ByteArray := prog_1_method_3_code
def yX10_tail : MethodName := ⟨RX10, "tail", "(IIII)Z"⟩
abbrev cX10_kind : ByteArray := prog_1_method_4_code
def yX10_kind : MethodName := ⟨RX10, "kind", "(I)Z"⟩
abbrev cX10_consistent : ByteArray := prog_1_method_5_code
def yX10_consistent : MethodName := ⟨RX10, "consistent", "()I"⟩
abbrev cX10_generator : ByteArray := prog_1_method_6_code
def yX10_generator : MethodName := ⟨RX10, "generator", "(II)I"⟩
abbrev cX10_tailOf : ByteArray := prog_1_method_7_code
def yX10_tailOf : MethodName := ⟨RX10, "tailOf", "(III)I"⟩
abbrev cX10_terms : ByteArray := prog_1_method_8_code
def yX10_terms : MethodName := ⟨RX10, "terms", "(I)I"⟩
abbrev cX10_term : ByteArray := prog_1_method_9_code
def yX10_term : MethodName := ⟨RX10, "term", "(III)I"⟩
abbrev cX10_shape : ByteArray := prog_1_method_10_code
def yX10_shape : MethodName := ⟨RX10, "shape", "(II)I"⟩
abbrev cX10_set : ByteArray := prog_1_method_11_code
def yX10_set : MethodName := ⟨RX10, "set", "(III)Z"⟩
abbrev cX10_multiply : ByteArray := prog_1_method_12_code
def yX10_multiply : MethodName := ⟨RX10, "multiply", "(III)Z"⟩
abbrev cX10_invert : ByteArray := prog_1_method_13_code
def yX10_invert : MethodName := ⟨RX10, "invert", "(II)Z"⟩
abbrev cX10_power : ByteArray := prog_1_method_14_code
def yX10_power : MethodName := ⟨RX10, "power", "(III)Z"⟩
abbrev cX10_commute : ByteArray := prog_1_method_15_code
def yX10_commute : MethodName := ⟨RX10, "commute", "(III)Z"⟩
abbrev cX10_conjugate : ByteArray := prog_1_method_16_code
def yX10_conjugate : MethodName := ⟨RX10, "conjugate", "(III)Z"⟩
abbrev cX10_root : ByteArray := prog_1_method_17_code
def yX10_root : MethodName := ⟨RX10, "root", "(III)Z"⟩
abbrev cX10_seek : ByteArray := prog_1_method_18_code
def yX10_seek : MethodName := ⟨RX10, "seek", "(IIII)Z"⟩
abbrev cX10_feed : ByteArray := prog_1_method_19_code
def yX10_feed : MethodName := ⟨RX10, "feed", "(IIIII)I"⟩
abbrev cX10_end : ByteArray := prog_1_method_20_code
def yX10_end : MethodName := ⟨RX10, "end", "(I)Z"⟩
abbrev cX10_text : ByteArray := prog_1_method_21_code
def yX10_text : MethodName := ⟨RX10, "text", "(I)Z"⟩
abbrev cX10_fault : ByteArray := prog_1_method_22_code
def yX10_fault : MethodName := ⟨RX10, "fault", "(I)I"⟩
abbrev cX10_collect : ByteArray := prog_1_method_23_code
def yX10_collect : MethodName := ⟨RX10, "collect", "()I"⟩
abbrev cX10_collected : ByteArray := prog_1_method_24_code
def yX10_collected : MethodName := ⟨RX10, "collected", "(I)I"⟩
abbrev cX10_exponent : ByteArray := prog_1_method_25_code
def yX10_exponent : MethodName := ⟨RX10, "exponent", "(II)I"⟩
abbrev cX10_register : ByteArray := prog_1_method_26_code
def yX10_register : MethodName := ⟨RX10, "register", "(II)I"⟩
abbrev cX10_both : ByteArray := prog_1_method_27_code
def yX10_both : MethodName := ⟨RX10, "both", "(III)I"⟩
abbrev cX10_alike : ByteArray := prog_1_method_28_code
def yX10_alike : MethodName := ⟨RX10, "alike", "(II)I"⟩
abbrev cX10_powers : ByteArray := prog_1_method_29_code
def yX10_powers : MethodName := ⟨RX10, "powers", "(III)J"⟩
abbrev cX10_associates : ByteArray := prog_1_method_30_code
def yX10_associates : MethodName := ⟨RX10, "associates", "(III)I"⟩
abbrev cX10_ball : ByteArray := prog_1_method_31_code
def yX10_ball : MethodName := ⟨RX10, "ball", "(I)I"⟩
abbrev cX10_undo : ByteArray := prog_1_method_32_code
def yX10_undo : MethodName := ⟨RX10, "undo", "()I"⟩
abbrev cX10_image : ByteArray := prog_1_method_33_code
def yX10_image : MethodName := ⟨RX10, "image", "(Z)Z"⟩
abbrev cX10_look : ByteArray := prog_1_method_34_code
def yX10_look : MethodName := ⟨RX10, "look", "(I)I"⟩
abbrev cX10_bit : ByteArray := prog_1_method_35_code
def yX10_bit : MethodName := ⟨RX10, "bit", "(Z)I"⟩
abbrev cX10_degree : ByteArray := prog_1_method_36_code
def yX10_degree : MethodName := ⟨RX10, "degree", "(II)I"⟩
abbrev cX10_isRegister : ByteArray := prog_1_method_37_code
def yX10_isRegister : MethodName := ⟨RX10, "isRegister", "(I)Z"⟩
abbrev cX10_areUsable : ByteArray := prog_1_method_38_code
def yX10_areUsable : MethodName := ⟨RX10, "areUsable", "(II)Z"⟩
abbrev cX10_isGenerator : ByteArray := prog_1_method_39_code
def yX10_isGenerator : MethodName := ⟨RX10, "isGenerator", "(I)Z"⟩
abbrev cX10_hasPolynomial : ByteArray := prog_1_method_40_code
def yX10_hasPolynomial : MethodName := ⟨RX10, "hasPolynomial", "(I)Z"⟩
abbrev cX10_beginAct : ByteArray := prog_1_method_41_code
def yX10_beginAct : MethodName := ⟨RX10, "beginAct", "()V"⟩
abbrev cX10_beginGroupAct : ByteArray := prog_1_method_42_code
def yX10_beginGroupAct : MethodName := ⟨RX10, "beginGroupAct", "()V"⟩
abbrev cX10_keep : ByteArray := prog_1_method_43_code
def yX10_keep : MethodName := ⟨RX10, "keep", "(I)Z"⟩
abbrev cX10_keepCounted : ByteArray := prog_1_method_44_code
def yX10_keepCounted : MethodName := ⟨RX10, "keepCounted", "(I)Z"⟩
abbrev cX10_feedNumber : ByteArray := prog_1_method_45_code
def yX10_feedNumber : MethodName := ⟨RX10, "feedNumber", "(I)V"⟩
abbrev cX10_layerOf : ByteArray := prog_1_method_46_code
def yX10_layerOf : MethodName := ⟨RX10, "layerOf", "([J)I"⟩
abbrev cX10_commutesWithAll : ByteArray := prog_1_method_47_code
def yX10_commutesWithAll : MethodName := ⟨RX10, "commutesWithAll", "([J)Z"⟩
abbrev cX10_greatestRoot : ByteArray := prog_1_method_48_code
def yX10_greatestRoot : MethodName := ⟨RX10, "greatestRoot", "([J)I"⟩
abbrev cX10_sameAs : ByteArray := prog_1_method_49_code
def yX10_sameAs : MethodName := ⟨RX10, "sameAs", "([J)I"⟩
abbrev cX10_leastMade : ByteArray := prog_1_method_50_code
def yX10_leastMade : MethodName := ⟨RX10, "leastMade", "([JI)I"⟩
abbrev cX10_firstDifference : ByteArray := prog_1_method_51_code
def yX10_firstDifference : MethodName := ⟨RX10, "firstDifference", "([J[J)I"⟩
abbrev cX10_registersNotOne : ByteArray := prog_1_method_52_code
def yX10_registersNotOne : MethodName := ⟨RX10, "registersNotOne", "()I"⟩
abbrev cX10_centralGenerators : ByteArray := prog_1_method_53_code
def yX10_centralGenerators : MethodName := ⟨RX10, "centralGenerators", "()I"⟩
def RX11 : String := "HallRegistersModel"
def TX11 : u_T := fun k => match k with
  | 0 => ("HallRegistersModel", "told", "I", false)
  | 1 => ("HallRegistersModel", "now", "[I", true)
  | 2 => ("HallRegistersModel", "acts", "[I", true)
  | 3 => ("HallRegistersModel", "actMany", "I", false)
  | 4 => ("HallRegistersModel", "overs", "I", false)
  | 5 => ("HallRegistersModel", "word", "[I", true)
  | 6 => ("HallRegistersModel", "wordLong", "I", false)
  | 7 => ("HallRegistersModel", "exchanged", "I", false)
  | 8 => ("HallRegistersModel", "firstOut", "[I", true)
  | 9 => ("HallRegistersModel", "isLaid", "Z", false)
  | 10 => ("HallRegistersModel", "isGroup", "Z", false)
  | 11 => ("HallRegistersModel", "termMany", "[I", true)
  | 12 => ("HallRegistersModel", "term", "[J", true)
  | 13 => ("HallRegistersModel", "e", "[J", true)
  | 14 => ("HallRegistersModel", "more", "[J", true)
  | 15 => ("HallRegistersModel", "degree", "[I", true)
  | 16 => ("HallRegistersModel", "at0", "[I", true)
  | 17 => ("HallRegistersModel", "tape", "[I", true)
  | 18 => ("HallRegistersModel", "taped", "I", false)
  | 19 => ("HallRegistersModel", "faultKind", "I", false)
  | 20 => ("HallRegistersModel", "faultPlace", "I", false)
  | 21 => ("HallRegistersModel", "at", "I", false)
  | 22 => ("HallRegistersModel", "stop", "I", false)
  | 23 => ("HallRegistersModel", "behind", "I", false)
  | 24 => ("HallRegistersModel", "overPlace", "I", false)
  | 25 => ("HallRegistersModel", "opened", "I", false)
  | 26 => ("HallRegistersModel", "collected", "[I", true)
  | 27 => ("HallRegistersModel", "collectedMany", "I", false)
  | 28 => ("HallRegistersModel", "met", "[J", true)
  | 29 => ("HallRegistersModel", "metMany", "I", false)
  | 30 => ("HallRegistersModel", "column", "[J", true)
  | 31 => ("HallRegistersModel", "columns", "I", false)
  | 32 => ("HallRegistersModel", "due", "[J", true)
  | 33 => ("HallRegistersModel", "isPivot", "Z", false)
  | 34 => ("HallRegistersModel", "free", "I", false)
  | 35 => ("HallRegistersModel", "quiet", "[J", true)
  | 36 => ("HallRegistersModel", "quietMany", "I", false)
  | 37 => ("HallRegistersModel", "hasImage", "Z", false)
  | _ => ("HallRegistersModel", "images", "[I", true)
def tyX11 : Nat → FieldType := fun k => match k with
  | 0 => .int
  | 1 => .array .int
  | 2 => .array .int
  | 3 => .int
  | 4 => .int
  | 5 => .array .int
  | 6 => .int
  | 7 => .int
  | 8 => .array .int
  | 9 => .boolean
  | 10 => .boolean
  | 11 => .array .int
  | 12 => .array .long
  | 13 => .array .long
  | 14 => .array .long
  | 15 => .array .int
  | 16 => .array .int
  | 17 => .array .int
  | 18 => .int
  | 19 => .int
  | 20 => .int
  | 21 => .int
  | 22 => .int
  | 23 => .int
  | 24 => .int
  | 25 => .int
  | 26 => .array .int
  | 27 => .int
  | 28 => .array .long
  | 29 => .int
  | 30 => .array .long
  | 31 => .int
  | 32 => .array .long
  | 33 => .boolean
  | 34 => .int
  | 35 => .array .long
  | 36 => .int
  | 37 => .boolean
  | _ => .array .int
abbrev wsX110 : List Cond := u_ws RX11 TX11 39
theorem nmX11 : ∀ a, a < 39 → ∀ b, b < 39 → a ≠ b → (TX11 a).2.1 ≠ (TX11 b).2.1 := by decide +kernel
theorem tyX11_ok : ∀ k, k < 39 → parseFieldDescriptor (TX11 k).2.2.1 = some (tyX11 k) := by decide +kernel
abbrev cX11_isIn : ByteArray := prog_13_method_2_code
def yX11_isIn : MethodName := ⟨RX11, "isIn", "(JJJ)Z"⟩
abbrev cX11_init : ByteArray := prog_13_method_3_code
def yX11_init : MethodName := ⟨RX11, "<init>", "()V"⟩
abbrev cX11_plain : ByteArray := prog_13_method_4_code
def yX11_plain : MethodName := ⟨RX11, "plain", "()V"⟩
abbrev cX11_clears : ByteArray := prog_13_method_5_code
def yX11_clears : MethodName := ⟨RX11, "clears", "(I)V"⟩
abbrev cX11_n : ByteArray := prog_13_method_6_code
def yX11_n : MethodName := ⟨RX11, "n", "()I"⟩
abbrev cX11_weight : ByteArray := prog_13_method_7_code
def yX11_weight : MethodName := ⟨RX11, "weight", "(I)I"⟩
abbrev cX11_level : ByteArray := prog_13_method_8_code
def yX11_level : MethodName := ⟨RX11, "level", "()I"⟩
abbrev cX11_tail : ByteArray := prog_13_method_9_code
def yX11_tail : MethodName := ⟨RX11, "tail", "(III)I"⟩
abbrev cX11_putsTail : ByteArray := prog_13_method_10_code
def yX11_putsTail : MethodName := ⟨RX11, "putsTail", "(IIII)V"⟩
abbrev cX11_ofRow : ByteArray := prog_13_method_11_code
def yX11_ofRow : MethodName := ⟨RX11, "ofRow", "(II)I"⟩
abbrev cX11_keepsAct : ByteArray := prog_13_method_12_code
def yX11_keepsAct : MethodName := ⟨RX11, "keepsAct", "()V"⟩
abbrev cX11_undo : ByteArray := prog_13_method_13_code
def yX11_undo : MethodName := ⟨RX11, "undo", "()I"⟩
abbrev cX11_group : ByteArray := prog_13_method_14_code
def yX11_group : MethodName := ⟨RX11, "group", "(II)Z"⟩
abbrev cX11_areWeights : ByteArray := prog_13_method_15_code
def yX11_areWeights : MethodName := ⟨RX11, "areWeights", "(II)Z"⟩
abbrev cX11_isTail : ByteArray := prog_13_method_16_code
def yX11_isTail : MethodName := ⟨RX11, "isTail", "(III)Z"⟩
abbrev cX11_tail_ : ByteArray := prog_13_method_17_code
def yX11_tail_ : MethodName := ⟨RX11, "tail", "(IIII)Z"⟩
abbrev cX11_onesAll : ByteArray := prog_13_method_18_code
def yX11_onesAll : MethodName := ⟨RX11, "onesAll", "()V"⟩
abbrev cX11_weighs : ByteArray := prog_13_method_19_code
def yX11_weighs : MethodName := ⟨RX11, "weighs", "(IIIIII)V"⟩
abbrev cX11_kind : ByteArray := prog_13_method_20_code
def yX11_kind : MethodName := ⟨RX11, "kind", "(I)Z"⟩
abbrev cX11_writes : ByteArray := prog_13_method_21_code
def yX11_writes : MethodName := ⟨RX11, "writes", "(I)V"⟩
abbrev cX11_exchanges : ByteArray := prog_13_method_22_code
def yX11_exchanges : MethodName := ⟨RX11, "exchanges", "(I)V"⟩
abbrev cX11_collects : ByteArray := prog_13_method_23_code
def yX11_collects : MethodName := ⟨RX11, "collects", "()Z"⟩
abbrev cX11_letters : ByteArray := prog_13_method_24_code
def yX11_letters : MethodName := ⟨RX11, "letters", "(I)I"⟩
abbrev cX11_isAlikeBy : ByteArray := prog_13_method_25_code
def yX11_isAlikeBy : MethodName := ⟨RX11, "isAlikeBy", "(III)Z"⟩
abbrev cX11_lays : ByteArray := prog_13_method_26_code
def yX11_lays : MethodName := ⟨RX11, "lays", "()V"⟩
abbrev cX11_isConsistent : ByteArray := prog_13_method_27_code
def yX11_isConsistent : MethodName := ⟨RX11, "isConsistent", "()Z"⟩
abbrev cX11_of : ByteArray := prog_13_method_28_code
def yX11_of : MethodName := ⟨RX11, "of", "(II)J"⟩
abbrev cX11_puts : ByteArray := prog_13_method_29_code
def yX11_puts : MethodName := ⟨RX11, "puts", "(IIJ)V"⟩
abbrev cX11_ones : ByteArray := prog_13_method_30_code
def yX11_ones : MethodName := ⟨RX11, "ones", "(I)V"⟩
abbrev cX11_copies : ByteArray := prog_13_method_31_code
def yX11_copies : MethodName := ⟨RX11, "copies", "(II)V"⟩
abbrev cX11_laysRegister : ByteArray := prog_13_method_32_code
def yX11_laysRegister : MethodName := ⟨RX11, "laysRegister", "(II)V"⟩
abbrev cX11_two : ByteArray := prog_13_method_33_code
def yX11_two : MethodName := ⟨RX11, "two", "(J)J"⟩
abbrev cX11_passesTwo : ByteArray := prog_13_method_34_code
def yX11_passesTwo : MethodName := ⟨RX11, "passesTwo", "(IIIJ)V"⟩
abbrev cX11_timesLetter : ByteArray := prog_13_method_35_code
def yX11_timesLetter : MethodName := ⟨RX11, "timesLetter", "(IIJ)V"⟩
abbrev cX11_passesOne : ByteArray := prog_13_method_36_code
def yX11_passesOne : MethodName := ⟨RX11, "passesOne", "(IIIJ)V"⟩
abbrev cX11_times : ByteArray := prog_13_method_37_code
def yX11_times : MethodName := ⟨RX11, "times", "(II)V"⟩
abbrev cX11_inverse : ByteArray := prog_13_method_38_code
def yX11_inverse : MethodName := ⟨RX11, "inverse", "(II)V"⟩
abbrev cX11_raises : ByteArray := prog_13_method_39_code
def yX11_raises : MethodName := ⟨RX11, "raises", "(III)V"⟩
abbrev cX11_commutator : ByteArray := prog_13_method_40_code
def yX11_commutator : MethodName := ⟨RX11, "commutator", "(III)V"⟩
abbrev cX11_conjugates : ByteArray := prog_13_method_41_code
def yX11_conjugates : MethodName := ⟨RX11, "conjugates", "(III)V"⟩
abbrev cX11_isElement : ByteArray := prog_13_method_42_code
def yX11_isElement : MethodName := ⟨RX11, "isElement", "(I)Z"⟩
abbrev cX11_isOne : ByteArray := prog_13_method_43_code
def yX11_isOne : MethodName := ⟨RX11, "isOne", "(I)Z"⟩
abbrev cX11_areSame : ByteArray := prog_13_method_44_code
def yX11_areSame : MethodName := ⟨RX11, "areSame", "(II)Z"⟩
abbrev cX11_weightOf : ByteArray := prog_13_method_45_code
def yX11_weightOf : MethodName := ⟨RX11, "weightOf", "(I)I"⟩
abbrev cX11_laysTerms : ByteArray := prog_13_method_46_code
def yX11_laysTerms : MethodName := ⟨RX11, "laysTerms", "(I)V"⟩
abbrev cX11_rows : ByteArray := prog_13_method_47_code
def yX11_rows : MethodName := ⟨RX11, "rows", "(III)V"⟩
abbrev cX11_choose : ByteArray := prog_13_method_48_code
def yX11_choose : MethodName := ⟨RX11, "choose", "(II)J"⟩
abbrev cX11_difference : ByteArray := prog_13_method_49_code
def yX11_difference : MethodName := ⟨RX11, "difference", "(IIJ)J"⟩
abbrev cX11_isRegister : ByteArray := prog_13_method_50_code
def yX11_isRegister : MethodName := ⟨RX11, "isRegister", "(I)Z"⟩
abbrev cX11_gives : ByteArray := prog_13_method_51_code
def yX11_gives : MethodName := ⟨RX11, "gives", "(II)Z"⟩
abbrev cX11_can : ByteArray := prog_13_method_52_code
def yX11_can : MethodName := ⟨RX11, "can", "(III)Z"⟩
abbrev cX11_set : ByteArray := prog_13_method_53_code
def yX11_set : MethodName := ⟨RX11, "set", "(III)Z"⟩
abbrev cX11_multiply : ByteArray := prog_13_method_54_code
def yX11_multiply : MethodName := ⟨RX11, "multiply", "(III)Z"⟩
abbrev cX11_invert : ByteArray := prog_13_method_55_code
def yX11_invert : MethodName := ⟨RX11, "invert", "(II)Z"⟩
abbrev cX11_power : ByteArray := prog_13_method_56_code
def yX11_power : MethodName := ⟨RX11, "power", "(III)Z"⟩
abbrev cX11_commute : ByteArray := prog_13_method_57_code
def yX11_commute : MethodName := ⟨RX11, "commute", "(III)Z"⟩
abbrev cX11_conjugate : ByteArray := prog_13_method_58_code
def yX11_conjugate : MethodName := ⟨RX11, "conjugate", "(III)Z"⟩
abbrev cX11_extracts : ByteArray := prog_13_method_59_code
def yX11_extracts : MethodName := ⟨RX11, "extracts", "(III)Z"⟩
abbrev cX11_root : ByteArray := prog_13_method_60_code
def yX11_root : MethodName := ⟨RX11, "root", "(III)Z"⟩
abbrev cX11_seeks : ByteArray := prog_13_method_61_code
def yX11_seeks : MethodName := ⟨RX11, "seeks", "(II)Z"⟩
abbrev cX11_seek : ByteArray := prog_13_method_62_code
def yX11_seek : MethodName := ⟨RX11, "seek", "(IIII)Z"⟩
abbrev cX11_types : ByteArray := prog_13_method_63_code
def yX11_types : MethodName := ⟨RX11, "types", "(I)V"⟩
abbrev cX11_feed : ByteArray := prog_13_method_64_code
def yX11_feed : MethodName := ⟨RX11, "feed", "(IIIII)I"⟩
abbrev cX11_end : ByteArray := prog_13_method_65_code
def yX11_end : MethodName := ⟨RX11, "end", "(I)Z"⟩
abbrev cX11_here : ByteArray := prog_13_method_66_code
def yX11_here : MethodName := ⟨RX11, "here", "()I"⟩
abbrev cX11_behindBlanks : ByteArray := prog_13_method_67_code
def yX11_behindBlanks : MethodName := ⟨RX11, "behindBlanks", "()I"⟩
abbrev cX11_isDigit : ByteArray := prog_13_method_68_code
def yX11_isDigit : MethodName := ⟨RX11, "isDigit", "(I)Z"⟩
abbrev cX11_isWrong : ByteArray := prog_13_method_69_code
def yX11_isWrong : MethodName := ⟨RX11, "isWrong", "()Z"⟩
abbrev cX11_errs : ByteArray := prog_13_method_70_code
def yX11_errs : MethodName := ⟨RX11, "errs", "(II)V"⟩
abbrev cX11_checks : ByteArray := prog_13_method_71_code
def yX11_checks : MethodName := ⟨RX11, "checks", "(I)V"⟩
abbrev cX11_isFactor : ByteArray := prog_13_method_72_code
def yX11_isFactor : MethodName := ⟨RX11, "isFactor", "(I)Z"⟩
abbrev cX11_readFactor : ByteArray := prog_13_method_73_code
def yX11_readFactor : MethodName := ⟨RX11, "readFactor", "(I)V"⟩
abbrev cX11_must : ByteArray := prog_13_method_74_code
def yX11_must : MethodName := ⟨RX11, "must", "(I)V"⟩
abbrev cX11_readOpen : ByteArray := prog_13_method_75_code
def yX11_readOpen : MethodName := ⟨RX11, "readOpen", "(II)V"⟩
abbrev cX11_readCommutator : ByteArray := prog_13_method_76_code
def yX11_readCommutator : MethodName := ⟨RX11, "readCommutator", "(I)V"⟩
abbrev cX11_readPower : ByteArray := prog_13_method_77_code
def yX11_readPower : MethodName := ⟨RX11, "readPower", "(I)V"⟩
abbrev cX11_readWord : ByteArray := prog_13_method_78_code
def yX11_readWord : MethodName := ⟨RX11, "readWord", "(I)V"⟩
abbrev cX11_text : ByteArray := prog_13_method_79_code
def yX11_text : MethodName := ⟨RX11, "text", "(I)Z"⟩
abbrev cX11_fault : ByteArray := prog_13_method_80_code
def yX11_fault : MethodName := ⟨RX11, "fault", "(I)I"⟩
abbrev cX11_collect : ByteArray := prog_13_method_81_code
def yX11_collect : MethodName := ⟨RX11, "collect", "()I"⟩
abbrev cX11_collected : ByteArray := prog_13_method_82_code
def yX11_collected : MethodName := ⟨RX11, "collected", "(I)I"⟩
abbrev cX11_consistent : ByteArray := prog_13_method_83_code
def yX11_consistent : MethodName := ⟨RX11, "consistent", "()I"⟩
abbrev cX11_exponent : ByteArray := prog_13_method_84_code
def yX11_exponent : MethodName := ⟨RX11, "exponent", "(II)I"⟩
abbrev cX11_areCommuting : ByteArray := prog_13_method_85_code
def yX11_areCommuting : MethodName := ⟨RX11, "areCommuting", "(III)Z"⟩
abbrev cX11_isCentral : ByteArray := prog_13_method_86_code
def yX11_isCentral : MethodName := ⟨RX11, "isCentral", "(II)Z"⟩
abbrev cX11_isCentralLetter : ByteArray := prog_13_method_87_code
def yX11_isCentralLetter : MethodName := ⟨RX11, "isCentralLetter", "(I)Z"⟩
abbrev cX11_generator : ByteArray := prog_13_method_88_code
def yX11_generator : MethodName := ⟨RX11, "generator", "(II)I"⟩
abbrev cX11_tailOf : ByteArray := prog_13_method_89_code
def yX11_tailOf : MethodName := ⟨RX11, "tailOf", "(III)I"⟩
abbrev cX11_isPolynomial : ByteArray := prog_13_method_90_code
def yX11_isPolynomial : MethodName := ⟨RX11, "isPolynomial", "(I)Z"⟩
abbrev cX11_terms : ByteArray := prog_13_method_91_code
def yX11_terms : MethodName := ⟨RX11, "terms", "(I)I"⟩
abbrev cX11_termAt : ByteArray := prog_13_method_92_code
def yX11_termAt : MethodName := ⟨RX11, "termAt", "(II)I"⟩
abbrev cX11_term : ByteArray := prog_13_method_93_code
def yX11_term : MethodName := ⟨RX11, "term", "(III)I"⟩
abbrev cX11_degreeOf : ByteArray := prog_13_method_94_code
def yX11_degreeOf : MethodName := ⟨RX11, "degreeOf", "(II)I"⟩
abbrev cX11_weightOfTerm : ByteArray := prog_13_method_95_code
def yX11_weightOfTerm : MethodName := ⟨RX11, "weightOfTerm", "(II)I"⟩
abbrev cX11_isInBoth : ByteArray := prog_13_method_96_code
def yX11_isInBoth : MethodName := ⟨RX11, "isInBoth", "(II)Z"⟩
abbrev cX11_shape : ByteArray := prog_13_method_97_code
def yX11_shape : MethodName := ⟨RX11, "shape", "(II)I"⟩
abbrev cX11_layer : ByteArray := prog_13_method_98_code
def yX11_layer : MethodName := ⟨RX11, "layer", "(I)I"⟩
abbrev cX11_place : ByteArray := prog_13_method_99_code
def yX11_place : MethodName := ⟨RX11, "place", "(I)I"⟩
abbrev cX11_meets : ByteArray := prog_13_method_100_code
def yX11_meets : MethodName := ⟨RX11, "meets", "(I)V"⟩
abbrev cX11_laysBall : ByteArray := prog_13_method_101_code
def yX11_laysBall : MethodName := ⟨RX11, "laysBall", "(I)I"⟩
abbrev cX11_ball : ByteArray := prog_13_method_102_code
def yX11_ball : MethodName := ⟨RX11, "ball", "(I)I"⟩
abbrev cX11_shortOf : ByteArray := prog_13_method_103_code
def yX11_shortOf : MethodName := ⟨RX11, "shortOf", "(I)I"⟩
abbrev cX11_greatestRoot : ByteArray := prog_13_method_104_code
def yX11_greatestRoot : MethodName := ⟨RX11, "greatestRoot", "(I)I"⟩
abbrev cX11_sameAs : ByteArray := prog_13_method_105_code
def yX11_sameAs : MethodName := ⟨RX11, "sameAs", "(I)I"⟩
abbrev cX11_isMade : ByteArray := prog_13_method_106_code
def yX11_isMade : MethodName := ⟨RX11, "isMade", "(II)Z"⟩
abbrev cX11_addsTail : ByteArray := prog_13_method_107_code
def yX11_addsTail : MethodName := ⟨RX11, "addsTail", "(II)V"⟩
abbrev cX11_leastMade : ByteArray := prog_13_method_108_code
def yX11_leastMade : MethodName := ⟨RX11, "leastMade", "(I)I"⟩
abbrev cX11_register : ByteArray := prog_13_method_109_code
def yX11_register : MethodName := ⟨RX11, "register", "(II)I"⟩
abbrev cX11_firstApart : ByteArray := prog_13_method_110_code
def yX11_firstApart : MethodName := ⟨RX11, "firstApart", "()I"⟩
abbrev cX11_both : ByteArray := prog_13_method_111_code
def yX11_both : MethodName := ⟨RX11, "both", "(III)I"⟩
abbrev cX11_ofColumn : ByteArray := prog_13_method_112_code
def yX11_ofColumn : MethodName := ⟨RX11, "ofColumn", "(II)J"⟩
abbrev cX11_lessens : ByteArray := prog_13_method_113_code
def yX11_lessens : MethodName := ⟨RX11, "lessens", "(IIJ)V"⟩
abbrev cX11_changes : ByteArray := prog_13_method_114_code
def yX11_changes : MethodName := ⟨RX11, "changes", "(II)V"⟩
abbrev cX11_clearsAt : ByteArray := prog_13_method_115_code
def yX11_clearsAt : MethodName := ⟨RX11, "clearsAt", "(II)Z"⟩
abbrev cX11_canMake : ByteArray := prog_13_method_116_code
def yX11_canMake : MethodName := ⟨RX11, "canMake", "()Z"⟩
abbrev cX11_adds : ByteArray := prog_13_method_117_code
def yX11_adds : MethodName := ⟨RX11, "adds", "(III)V"⟩
abbrev cX11_letterAt : ByteArray := prog_13_method_118_code
def yX11_letterAt : MethodName := ⟨RX11, "letterAt", "(IIJ)V"⟩
abbrev cX11_areAlikeUpTo : ByteArray := prog_13_method_119_code
def yX11_areAlikeUpTo : MethodName := ⟨RX11, "areAlikeUpTo", "(III)Z"⟩
abbrev cX11_laysDue : ByteArray := prog_13_method_120_code
def yX11_laysDue : MethodName := ⟨RX11, "laysDue", "(III)V"⟩
abbrev cX11_areAlike : ByteArray := prog_13_method_121_code
def yX11_areAlike : MethodName := ⟨RX11, "areAlike", "()Z"⟩
abbrev cX11_areAlikeInLast : ByteArray := prog_13_method_122_code
def yX11_areAlikeInLast : MethodName := ⟨RX11, "areAlikeInLast", "()Z"⟩
abbrev cX11_alike : ByteArray := prog_13_method_123_code
def yX11_alike : MethodName := ⟨RX11, "alike", "(II)I"⟩
abbrev cX11_powers : ByteArray := prog_13_method_124_code
def yX11_powers : MethodName := ⟨RX11, "powers", "(III)J"⟩
abbrev cX11_associates : ByteArray := prog_13_method_125_code
def yX11_associates : MethodName := ⟨RX11, "associates", "(III)I"⟩
abbrev cX11_image : ByteArray := prog_13_method_126_code
def yX11_image : MethodName := ⟨RX11, "image", "(Z)Z"⟩
abbrev cX11_tails : ByteArray := prog_13_method_127_code
def yX11_tails : MethodName := ⟨RX11, "tails", "()I"⟩
abbrev cX11_termsOfAll : ByteArray := prog_13_method_128_code
def yX11_termsOfAll : MethodName := ⟨RX11, "termsOfAll", "()I"⟩
abbrev cX11_notOnes : ByteArray := prog_13_method_129_code
def yX11_notOnes : MethodName := ⟨RX11, "notOnes", "()I"⟩
abbrev cX11_centrals : ByteArray := prog_13_method_130_code
def yX11_centrals : MethodName := ⟨RX11, "centrals", "()I"⟩
abbrev cX11_look : ByteArray := prog_13_method_131_code
def yX11_look : MethodName := ⟨RX11, "look", "(I)I"⟩
def RJ9 : String := "java/lang/Math"
def TJ9 : u_T := fun k => match k with
  | _ => ("", "", "", false)
def tyJ9 : Nat → FieldType := fun k => match k with
  | _ => .int
abbrev cJ9_floorDiv_f86c9 : ByteArray := prog_14_method_49_code
def yJ9_floorDiv_f86c9 : MethodName := ⟨RJ9, "floorDiv", "(JJ)J"⟩
abbrev cJ9_abs_067f4 : ByteArray := prog_14_method_61_code
def yJ9_abs_067f4 : MethodName := ⟨RJ9, "abs", "(J)J"⟩
abbrev cJ9_max_7cf53 : ByteArray := prog_14_method_65_code
def yJ9_max_7cf53 : MethodName := ⟨RJ9, "max", "(II)I"⟩
abbrev cJ9_min_7cf53 : ByteArray := prog_14_method_69_code
def yJ9_min_7cf53 : MethodName := ⟨RJ9, "min", "(II)I"⟩
def RJ10 : String := "java/lang/System"
def TJ10 : u_T := fun k => match k with
  | _ => ("", "", "", false)
def tyJ10 : Nat → FieldType := fun k => match k with
  | _ => .int
def RJ7 : String := "java/util/Arrays"
def TJ7 : u_T := fun k => match k with
  | _ => ("", "", "", false)
def tyJ7 : Nat → FieldType := fun k => match k with
  | _ => .int
abbrev cJ7_fill_d0a16 : ByteArray := prog_16_method_101_code
def yJ7_fill_d0a16 : MethodName := ⟨RJ7, "fill", "([JJ)V"⟩
abbrev cJ7_fill_53178 : ByteArray := prog_16_method_103_code
def yJ7_fill_53178 : MethodName := ⟨RJ7, "fill", "([II)V"⟩
def RL : String := "HallRegistersLaw"
abbrev cL_law : ByteArray := code
def yL_law : MethodName := ⟨RL, "law", "([I)Z"⟩
abbrev vwCl : List vw_C := [(RX0, TX0, 8), (RX1, TX1, 10), (RX2, TX2, 7), (RX3, TX3, 3), (RX4, TX4, 9), (RX5, TX5, 11), (RX6, TX6, 3), (RX7, TX7, 11), (RX8, TX8, 3), (RX9, TX9, 4), (RX10, TX10, 17), (RX11, TX11, 39)]
