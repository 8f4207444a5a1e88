abbrev mu_X4_isOverlapAlike : MD := (yX4_isOverlapAlike, cX4_isOverlapAlike, 5, some .boolean, 4)
theorem ok_X4_isOverlapAlike : MOK mu_X4_isOverlapAlike 3 := ⟨gw_401, gw_24, (by decide +kernel : plainFor yX4_isOverlapAlike = true), ⟨(by decide +kernel : yX4_isOverlapAlike.cls ≠ "java/lang/invoke/MethodHandle"), (by decide +kernel : yX4_isOverlapAlike.cls ≠ "java/lang/invoke/VarHandle"), (by decide +kernel : (parseMethodDescriptor yX4_isOverlapAlike.desc).map (fun d => d.parameters.length) = some 3)⟩, Nat.le_of_ble_eq_true rfl⟩
noncomputable def l_X4_isOverlapAlike_139 (σ15 : Mem) (i16 : Int32) : Option (Int32 ⊕ (Bool × Mem)) :=
  if 6 ≤ i16 then (some (Sum.inr (true, σ15))) else (gI σ15 47 i16 (fun (v17 : Int32) => gI σ15 39 i16 (fun (v18 : Int32) => if v17 = v18 then (some (Sum.inl (i16 + 1))) else (some (Sum.inr (false, σ15))))))
noncomputable def f_X4_isOverlapAlike (σ : Mem) (x0 : Int32) (x1 : Int32) (x2 : Int32) : Option (Bool × Mem) :=
  (f_X2_begin σ).bind (fun (σ1 : Mem) => (f_X2_add σ1 x1).bind (fun (σ2 : Mem) => (f_X2_add σ2 x0).bind (fun (σ3 : Mem) => (f_X2_addTails σ3 41 x0 x1).bind (fun (σ4 : Mem) => (f_X2_add σ4 x2).bind (fun (σ5 : Mem) => bq (f_X2_run σ5 41 1000) (fun (v6 : Int32) (σ7 : Mem) => cI σ7 39 0 47 0 6 (fun (σ8 : Mem) => (f_X2_begin σ8).bind (fun (σ9 : Mem) => (f_X2_add σ9 x0).bind (fun (σ10 : Mem) => (f_X2_add σ10 x2).bind (fun (σ11 : Mem) => (f_X2_add σ11 x1).bind (fun (σ12 : Mem) => (f_X2_addTails σ12 41 x1 x2).bind (fun (σ13 : Mem) => bq (f_X2_run σ13 41 1000) (fun (v14 : Int32) (σ15 : Mem) => loopO (fun (z16 : Int32) => l_X4_isOverlapAlike_139 σ15 z16) 0)))))))))))))
theorem t_X4_isOverlapAlike {w : Wd} (hw : WOK w) {σ : Mem} {x0 : Int32} {x1 : Int32} {x2 : Int32} : JO w mu_X4_isOverlapAlike vB σ [(0, .ref (adr w 40)), (1, .int x0), (2, .int x1), (3, .int x2)] [] 0 (f_X4_isOverlapAlike σ x0 x1 x2) some := by
  unfold f_X4_isOverlapAlike
  refine jo_aload_n (pc := 0) 0 rfl dX4_isOverlapAlike_0 rfl ?_
  refine jo_getrE (pc := 1) ok_4_1 (ik_40 hw) rf_40_1 gw_154 dX4_isOverlapAlike_1 ?_
  refine jo_cV_V_i (pc := 4) (μ' := mu_X2_begin) (fx := f_X2_begin σ) (As := []) (c_X2_begin hw) (ok_X2_begin) (ltb rfl) (all3 gw_402 gw_403 gw_404) (ik_35 hw) (by decide) (q := (RX2, TX2, 7)) rfl rfl rfl rfl (Nat.le_of_ble_eq_true rfl) dX4_isOverlapAlike_4 (fun σ1 => ?_)
  refine jo_aload_n (pc := 7) 0 rfl dX4_isOverlapAlike_7 rfl ?_
  refine jo_getrE (pc := 8) ok_4_1 (ik_40 hw) rf_40_1 gw_154 dX4_isOverlapAlike_8 ?_
  refine jo_iload_n (pc := 11) 2 rfl dX4_isOverlapAlike_11 rfl ?_
  refine jo_cV_V_i (pc := 12) (μ' := mu_X2_add) (fx := f_X2_add σ1 x1) (As := [.int x1]) (c_X2_add hw) (ok_X2_add) (ltb rfl) (all3 gw_406 gw_407 gw_408) (ik_35 hw) (by decide) (q := (RX2, TX2, 7)) rfl rfl rfl rfl (Nat.le_of_ble_eq_true rfl) dX4_isOverlapAlike_12 (fun σ2 => ?_)
  refine jo_aload_n (pc := 15) 0 rfl dX4_isOverlapAlike_15 rfl ?_
  refine jo_getrE (pc := 16) ok_4_1 (ik_40 hw) rf_40_1 gw_154 dX4_isOverlapAlike_16 ?_
  refine jo_iload_n (pc := 19) 1 rfl dX4_isOverlapAlike_19 rfl ?_
  refine jo_cV_V_i (pc := 20) (μ' := mu_X2_add) (fx := f_X2_add σ2 x0) (As := [.int x0]) (c_X2_add hw) (ok_X2_add) (ltb rfl) (all3 gw_406 gw_407 gw_408) (ik_35 hw) (by decide) (q := (RX2, TX2, 7)) rfl rfl rfl rfl (Nat.le_of_ble_eq_true rfl) dX4_isOverlapAlike_20 (fun σ3 => ?_)
  refine jo_aload_n (pc := 23) 0 rfl dX4_isOverlapAlike_23 rfl ?_
  refine jo_getrE (pc := 24) ok_4_1 (ik_40 hw) rf_40_1 gw_154 dX4_isOverlapAlike_24 ?_
  refine jo_aload_n (pc := 27) 0 rfl dX4_isOverlapAlike_27 rfl ?_
  refine jo_getrE (pc := 28) ok_4_0 (ik_40 hw) rf_40_0 gw_153 dX4_isOverlapAlike_28 ?_
  refine jo_iload_n (pc := 31) 1 rfl dX4_isOverlapAlike_31 rfl ?_
  refine jo_iload_n (pc := 32) 2 rfl dX4_isOverlapAlike_32 rfl ?_
  refine jo_cV_V_i (pc := 33) (μ' := mu_X2_addTails) (fx := f_X2_addTails σ3 41 x0 x1) (As := [.ref (adr w 41), .int x0, .int x1]) (c_X2_addTails hw (ik_41 hw)) (ok_X2_addTails) (ltb rfl) (all3 gw_410 gw_411 gw_412) (ik_35 hw) (by decide) (q := (RX2, TX2, 7)) rfl rfl rfl rfl (Nat.le_of_ble_eq_true rfl) dX4_isOverlapAlike_33 (fun σ4 => ?_)
  refine jo_aload_n (pc := 36) 0 rfl dX4_isOverlapAlike_36 rfl ?_
  refine jo_getrE (pc := 37) ok_4_1 (ik_40 hw) rf_40_1 gw_154 dX4_isOverlapAlike_37 ?_
  refine jo_iload_n (pc := 40) 3 rfl dX4_isOverlapAlike_40 rfl ?_
  refine jo_cV_V_i (pc := 41) (μ' := mu_X2_add) (fx := f_X2_add σ4 x2) (As := [.int x2]) (c_X2_add hw) (ok_X2_add) (ltb rfl) (all3 gw_406 gw_407 gw_408) (ik_35 hw) (by decide) (q := (RX2, TX2, 7)) rfl rfl rfl rfl (Nat.le_of_ble_eq_true rfl) dX4_isOverlapAlike_41 (fun σ5 => ?_)
  refine jo_aload_n (pc := 44) 0 rfl dX4_isOverlapAlike_44 rfl ?_
  refine jo_getrE (pc := 45) ok_4_1 (ik_40 hw) rf_40_1 gw_154 dX4_isOverlapAlike_45 ?_
  refine jo_aload_n (pc := 48) 0 rfl dX4_isOverlapAlike_48 rfl ?_
  refine jo_getrE (pc := 49) ok_4_0 (ik_40 hw) rf_40_0 gw_153 dX4_isOverlapAlike_49 ?_
  refine jo_sipush (pc := 52) dX4_isOverlapAlike_52 (ic_s_1000) ?_
  refine jo_cV_I_i (pc := 55) (μ' := mu_X2_run) (fx := f_X2_run σ5 41 1000) (As := [.ref (adr w 41), .int 1000]) (c_X2_run hw (ik_41 hw)) (ok_X2_run) (ltb rfl) (all3 gw_419 gw_420 gw_421) (ik_35 hw) (by decide) (q := (RX2, TX2, 7)) rfl rfl rfl rfl (Nat.le_of_ble_eq_true rfl) dX4_isOverlapAlike_55 (fun v6 σ7 => ?_)
  refine jo_pop (pc := 58) dX4_isOverlapAlike_58 rfl ?_
  refine jo_aload_n (pc := 59) 0 rfl dX4_isOverlapAlike_59 rfl ?_
  refine jo_getrE (pc := 60) ok_4_1 (ik_40 hw) rf_40_1 gw_154 dX4_isOverlapAlike_60 ?_
  refine jo_getrE (pc := 63) ok_2_6 (ik_35 hw) rf_35_6 gw_106 dX4_isOverlapAlike_63 ?_
  refine jo_iconst (pc := 66) dX4_isOverlapAlike_66 (ic_i_0) ?_
  refine jo_aload_n (pc := 67) 0 rfl dX4_isOverlapAlike_67 rfl ?_
  refine jo_getrE (pc := 68) ok_4_8 (ik_40 hw) rf_40_8 gw_164 dX4_isOverlapAlike_68 ?_
  refine jo_iconst (pc := 71) dX4_isOverlapAlike_71 (ic_i_0) ?_
  refine jo_bipush (pc := 72) dX4_isOverlapAlike_72 (ic_b_6) ?_
  refine jo_acI (pc := 74) (ik_39 hw) (ik_47 hw) (all4 gw_441 gw_393 gw_392 gw_32) (ltb rfl) (Nat.le_of_ble_eq_true rfl) dX4_isOverlapAlike_74 (fun σ8 => ?_)
  refine jo_aload_n (pc := 77) 0 rfl dX4_isOverlapAlike_77 rfl ?_
  refine jo_getrE (pc := 78) ok_4_1 (ik_40 hw) rf_40_1 gw_154 dX4_isOverlapAlike_78 ?_
  refine jo_cV_V_i (pc := 81) (μ' := mu_X2_begin) (fx := f_X2_begin σ8) (As := []) (c_X2_begin hw) (ok_X2_begin) (ltb rfl) (all3 gw_402 gw_403 gw_404) (ik_35 hw) (by decide) (q := (RX2, TX2, 7)) rfl rfl rfl rfl (Nat.le_of_ble_eq_true rfl) dX4_isOverlapAlike_81 (fun σ9 => ?_)
  refine jo_aload_n (pc := 84) 0 rfl dX4_isOverlapAlike_84 rfl ?_
  refine jo_getrE (pc := 85) ok_4_1 (ik_40 hw) rf_40_1 gw_154 dX4_isOverlapAlike_85 ?_
  refine jo_iload_n (pc := 88) 1 rfl dX4_isOverlapAlike_88 rfl ?_
  refine jo_cV_V_i (pc := 89) (μ' := mu_X2_add) (fx := f_X2_add σ9 x0) (As := [.int x0]) (c_X2_add hw) (ok_X2_add) (ltb rfl) (all3 gw_406 gw_407 gw_408) (ik_35 hw) (by decide) (q := (RX2, TX2, 7)) rfl rfl rfl rfl (Nat.le_of_ble_eq_true rfl) dX4_isOverlapAlike_89 (fun σ10 => ?_)
  refine jo_aload_n (pc := 92) 0 rfl dX4_isOverlapAlike_92 rfl ?_
  refine jo_getrE (pc := 93) ok_4_1 (ik_40 hw) rf_40_1 gw_154 dX4_isOverlapAlike_93 ?_
  refine jo_iload_n (pc := 96) 3 rfl dX4_isOverlapAlike_96 rfl ?_
  refine jo_cV_V_i (pc := 97) (μ' := mu_X2_add) (fx := f_X2_add σ10 x2) (As := [.int x2]) (c_X2_add hw) (ok_X2_add) (ltb rfl) (all3 gw_406 gw_407 gw_408) (ik_35 hw) (by decide) (q := (RX2, TX2, 7)) rfl rfl rfl rfl (Nat.le_of_ble_eq_true rfl) dX4_isOverlapAlike_97 (fun σ11 => ?_)
  refine jo_aload_n (pc := 100) 0 rfl dX4_isOverlapAlike_100 rfl ?_
  refine jo_getrE (pc := 101) ok_4_1 (ik_40 hw) rf_40_1 gw_154 dX4_isOverlapAlike_101 ?_
  refine jo_iload_n (pc := 104) 2 rfl dX4_isOverlapAlike_104 rfl ?_
  refine jo_cV_V_i (pc := 105) (μ' := mu_X2_add) (fx := f_X2_add σ11 x1) (As := [.int x1]) (c_X2_add hw) (ok_X2_add) (ltb rfl) (all3 gw_406 gw_407 gw_408) (ik_35 hw) (by decide) (q := (RX2, TX2, 7)) rfl rfl rfl rfl (Nat.le_of_ble_eq_true rfl) dX4_isOverlapAlike_105 (fun σ12 => ?_)
  refine jo_aload_n (pc := 108) 0 rfl dX4_isOverlapAlike_108 rfl ?_
  refine jo_getrE (pc := 109) ok_4_1 (ik_40 hw) rf_40_1 gw_154 dX4_isOverlapAlike_109 ?_
  refine jo_aload_n (pc := 112) 0 rfl dX4_isOverlapAlike_112 rfl ?_
  refine jo_getrE (pc := 113) ok_4_0 (ik_40 hw) rf_40_0 gw_153 dX4_isOverlapAlike_113 ?_
  refine jo_iload_n (pc := 116) 2 rfl dX4_isOverlapAlike_116 rfl ?_
  refine jo_iload_n (pc := 117) 3 rfl dX4_isOverlapAlike_117 rfl ?_
  refine jo_cV_V_i (pc := 118) (μ' := mu_X2_addTails) (fx := f_X2_addTails σ12 41 x1 x2) (As := [.ref (adr w 41), .int x1, .int x2]) (c_X2_addTails hw (ik_41 hw)) (ok_X2_addTails) (ltb rfl) (all3 gw_410 gw_411 gw_412) (ik_35 hw) (by decide) (q := (RX2, TX2, 7)) rfl rfl rfl rfl (Nat.le_of_ble_eq_true rfl) dX4_isOverlapAlike_118 (fun σ13 => ?_)
  refine jo_aload_n (pc := 121) 0 rfl dX4_isOverlapAlike_121 rfl ?_
  refine jo_getrE (pc := 122) ok_4_1 (ik_40 hw) rf_40_1 gw_154 dX4_isOverlapAlike_122 ?_
  refine jo_aload_n (pc := 125) 0 rfl dX4_isOverlapAlike_125 rfl ?_
  refine jo_getrE (pc := 126) ok_4_0 (ik_40 hw) rf_40_0 gw_153 dX4_isOverlapAlike_126 ?_
  refine jo_sipush (pc := 129) dX4_isOverlapAlike_129 (ic_s_1000) ?_
  refine jo_cV_I_i (pc := 132) (μ' := mu_X2_run) (fx := f_X2_run σ13 41 1000) (As := [.ref (adr w 41), .int 1000]) (c_X2_run hw (ik_41 hw)) (ok_X2_run) (ltb rfl) (all3 gw_419 gw_420 gw_421) (ik_35 hw) (by decide) (q := (RX2, TX2, 7)) rfl rfl rfl rfl (Nat.le_of_ble_eq_true rfl) dX4_isOverlapAlike_132 (fun v14 σ15 => ?_)
  refine jo_pop (pc := 135) dX4_isOverlapAlike_135 rfl ?_
  refine jo_iconst (pc := 136) dX4_isOverlapAlike_136 (ic_i_0) ?_
  refine jo_istore (pc := 137) (lv' := [(4, .int 0), (0, .ref (adr w 40)), (1, .int x0), (2, .int x1), (3, .int x2)]) dX4_isOverlapAlike_137 (ltb rfl) rfl ?_
  refine jo_lv (lv' := [(0, .ref (adr w 40)), (4, .int 0)]) [1, 0] rfl ?_
  refine jo_loop (X := (Bool × Mem)) (fun (z16 : Int32) => σ15) (fun (z16 : Int32) => [(0, .ref (adr w 40)), (4, .int z16)]) (body := (fun (z16 : Int32) => l_X4_isOverlapAlike_139 σ15 z16)) (fun F139_16 hF139_16 s => ?_) 0
  revert s; intro i16
  show JO w mu_X4_isOverlapAlike vB σ15 [(0, .ref (adr w 40)), (4, .int i16)] [] 139 (l_X4_isOverlapAlike_139 σ15 i16) _
  unfold l_X4_isOverlapAlike_139
  refine jo_iload (pc := 139) 1 rfl dX4_isOverlapAlike_139 ?_
  refine jo_bipush (pc := 141) dX4_isOverlapAlike_141 (ic_b_6) ?_
  refine jo_icmp_ge (pc := 143) dX4_isOverlapAlike_143 (tgt := 174) rfl ?_ ?_
  · refine jo_iconst (pc := 174) dX4_isOverlapAlike_174 (ic_i_1) ?_
    exact jo_breturn (pc := 175) (b := true) rfl rfl dX4_isOverlapAlike_175
  · refine jo_aload_n (pc := 146) 0 rfl dX4_isOverlapAlike_146 rfl ?_
    refine jo_getrE (pc := 147) ok_4_8 (ik_40 hw) rf_40_8 gw_164 dX4_isOverlapAlike_147 ?_
    refine jo_iload (pc := 150) 1 rfl dX4_isOverlapAlike_150 ?_
    refine jo_iald (pc := 152) (ik_47 hw) dX4_isOverlapAlike_152 (fun v17 => ?_)
    refine jo_aload_n (pc := 153) 0 rfl dX4_isOverlapAlike_153 rfl ?_
    refine jo_getrE (pc := 154) ok_4_1 (ik_40 hw) rf_40_1 gw_154 dX4_isOverlapAlike_154 ?_
    refine jo_getrE (pc := 157) ok_2_6 (ik_35 hw) rf_35_6 gw_106 dX4_isOverlapAlike_157 ?_
    refine jo_iload (pc := 160) 1 rfl dX4_isOverlapAlike_160 ?_
    refine jo_iald (pc := 162) (ik_39 hw) dX4_isOverlapAlike_162 (fun v18 => ?_)
    refine jo_icmp_eq (pc := 163) dX4_isOverlapAlike_163 (tgt := 168) rfl ?_ ?_
    · refine jo_iinc (pc := 168) (lv' := [(4, .int (i16 + 1)), (0, .ref (adr w 40))]) 1 rfl dX4_isOverlapAlike_168 (congrArg (fun z => i16 + z) (ic_i_1)) (ltb rfl) rfl ?_
      refine jo_goto (pc := 171) dX4_isOverlapAlike_171 (tgt := 139) rfl ?_
      refine jo_lv (lv' := [(0, .ref (adr w 40)), (4, .int (i16 + 1))]) [1, 0] rfl ?_
      exact jo_leaf (by rfl) (hF139_16 (i16 + 1))
    · refine jo_iconst (pc := 166) dX4_isOverlapAlike_166 (ic_i_0) ?_
      exact jo_breturn (pc := 167) (b := false) rfl rfl dX4_isOverlapAlike_167
theorem c_X4_isOverlapAlike {w : Wd} (hw : WOK w) {σ : Mem} {x0 : Int32} {x1 : Int32} {x2 : Int32} : ∀ r σ', f_X4_isOverlapAlike σ x0 x1 x2 = some (r, σ') → MC w mu_X4_isOverlapAlike (vB r) [.ref (adr w 40), .int x0, .int x1, .int x2] σ σ' := mc_of ok_X4_isOverlapAlike rfl (Nat.le_of_ble_eq_true rfl) (t_X4_isOverlapAlike hw)
abbrev mu_X4_areOverlapsAlike : MD := (yX4_areOverlapsAlike, cX4_areOverlapsAlike, 4, some .boolean, 5)
theorem ok_X4_areOverlapsAlike : MOK mu_X4_areOverlapsAlike 0 := ⟨gw_397, gw_24, (by decide +kernel : plainFor yX4_areOverlapsAlike = true), ⟨(by decide +kernel : yX4_areOverlapsAlike.cls ≠ "java/lang/invoke/MethodHandle"), (by decide +kernel : yX4_areOverlapsAlike.cls ≠ "java/lang/invoke/VarHandle"), (by decide +kernel : (parseMethodDescriptor yX4_areOverlapsAlike.desc).map (fun d => d.parameters.length) = some 0)⟩, Nat.le_of_ble_eq_true rfl⟩
noncomputable def j_X4_areOverlapsAlike_51 (i2 : Int32) (σ4 : Mem) : Option ((Mem × Int32) ⊕ (Bool × Mem)) :=
  some (Sum.inl (σ4, i2 + 1))
noncomputable def j_X4_areOverlapsAlike_45 (i6 : Int32) (σ7 : Mem) : Option ((Mem × Int32) ⊕ (Mem ⊕ ((Mem × Int32) ⊕ (Bool × Mem)))) :=
  some (Sum.inl (σ7, i6 + 1))
noncomputable def l_X4_areOverlapsAlike_22 (i2 : Int32) (i6 : Int32) (σ8 : Mem) (i9 : Int32) : Option ((Mem × Int32) ⊕ (Mem ⊕ ((Mem × Int32) ⊕ (Mem ⊕ ((Mem × Int32) ⊕ (Bool × Mem)))))) :=
  if i6 ≤ i9 then (some (Sum.inr (Sum.inl σ8))) else (bq (f_X4_isOverlapAlike σ8 i2 i6 i9) (fun (b10 : Bool) (σ11 : Mem) => if b10 then some (Sum.inl (σ11, i9 + 1)) else some (Sum.inr (Sum.inr (Sum.inr (Sum.inr (Sum.inr (false, σ11))))))))
noncomputable def l_X4_areOverlapsAlike_15 (i2 : Int32) (σ5 : Mem) (i6 : Int32) : Option ((Mem × Int32) ⊕ (Mem ⊕ ((Mem × Int32) ⊕ (Bool × Mem)))) :=
  if i2 ≤ i6 then (some (Sum.inr (Sum.inl σ5))) else ((loopO (fun (z9 : (Mem × Int32)) => l_X4_areOverlapsAlike_22 i2 i6 z9.1 z9.2) (σ5, 0) : Option (Mem ⊕ ((Mem × Int32) ⊕ (Mem ⊕ ((Mem × Int32) ⊕ (Bool × Mem)))))).bind (Sum.elim (fun (z7 : Mem) => j_X4_areOverlapsAlike_45 i6 z7) some))
noncomputable def l_X4_areOverlapsAlike_2 (σ1 : Mem) (i2 : Int32) : Option ((Mem × Int32) ⊕ (Bool × Mem)) :=
  gF σ1 41 0 (fun (v3 : Int32) => if v3 ≤ i2 then (some (Sum.inr (true, σ1))) else ((loopO (fun (z6 : (Mem × Int32)) => l_X4_areOverlapsAlike_15 i2 z6.1 z6.2) (σ1, 1) : Option (Mem ⊕ ((Mem × Int32) ⊕ (Bool × Mem)))).bind (Sum.elim (fun (z4 : Mem) => j_X4_areOverlapsAlike_51 i2 z4) some)))
noncomputable def f_X4_areOverlapsAlike (σ : Mem) : Option (Bool × Mem) :=
  loopO (fun (z2 : (Mem × Int32)) => l_X4_areOverlapsAlike_2 z2.1 z2.2) (σ, 2)
theorem t_X4_areOverlapsAlike {w : Wd} (hw : WOK w) {σ : Mem} : JO w mu_X4_areOverlapsAlike vB σ [(0, .ref (adr w 40))] [] 0 (f_X4_areOverlapsAlike σ) some := by
  unfold f_X4_areOverlapsAlike
  refine jo_iconst (pc := 0) dX4_areOverlapsAlike_0 (ic_i_2) ?_
  refine jo_istore_n (pc := 1) (lv' := [(1, .int 2), (0, .ref (adr w 40))]) dX4_areOverlapsAlike_1 rfl (ltb rfl) rfl ?_
  refine jo_lv (lv' := [(0, .ref (adr w 40)), (1, .int 2)]) [1, 0] rfl ?_
  refine jo_loop (X := (Bool × Mem)) (fun (z2 : (Mem × Int32)) => z2.1) (fun (z2 : (Mem × Int32)) => [(0, .ref (adr w 40)), (1, .int z2.2)]) (body := (fun (z2 : (Mem × Int32)) => l_X4_areOverlapsAlike_2 z2.1 z2.2)) (fun F2_2 hF2_2 s => ?_) (σ, 2)
  obtain ⟨σ1, i2⟩ := s
  show JO w mu_X4_areOverlapsAlike vB σ1 [(0, .ref (adr w 40)), (1, .int i2)] [] 2 (l_X4_areOverlapsAlike_2 σ1 i2) _
  unfold l_X4_areOverlapsAlike_2
  refine jo_iload_n (pc := 2) 1 rfl dX4_areOverlapsAlike_2 rfl ?_
  refine jo_aload_n (pc := 3) 0 rfl dX4_areOverlapsAlike_3 rfl ?_
  refine jo_getrE (pc := 4) ok_4_0 (ik_40 hw) rf_40_0 gw_153 dX4_areOverlapsAlike_4 ?_
  refine jo_getf (pc := 7) ok_6_0 (ik_41 hw) gw_63 dX4_areOverlapsAlike_7 (fun v3 => ?_)
  refine jo_icmp_ge (pc := 10) dX4_areOverlapsAlike_10 (tgt := 57) rfl ?_ ?_
  · refine jo_iconst (pc := 57) dX4_areOverlapsAlike_57 (ic_i_1) ?_
    exact jo_breturn (pc := 58) (b := true) rfl rfl dX4_areOverlapsAlike_58
  · refine jo_iconst (pc := 13) dX4_areOverlapsAlike_13 (ic_i_1) ?_
    refine jo_istore_n (pc := 14) (lv' := [(2, .int 1), (0, .ref (adr w 40)), (1, .int i2)]) dX4_areOverlapsAlike_14 rfl (ltb rfl) rfl ?_
    refine jo_joinS (S := Mem) (fun (z4 : Mem) => z4) (fun (z4 : Mem) => [(0, .ref (adr w 40)), (1, .int i2)]) (fun (z4 : Mem) => []) 51 ?_ (fun h51_4 => ?_)
    · intro σ4
      show JO w mu_X4_areOverlapsAlike vB σ4 [(0, .ref (adr w 40)), (1, .int i2)] [] 51 (j_X4_areOverlapsAlike_51 i2 σ4) _
      unfold j_X4_areOverlapsAlike_51
      refine jo_iinc (pc := 51) (lv' := [(1, .int (i2 + 1)), (0, .ref (adr w 40))]) 1 rfl dX4_areOverlapsAlike_51 (congrArg (fun z => i2 + z) (ic_i_1)) (ltb rfl) rfl ?_
      refine jo_goto (pc := 54) dX4_areOverlapsAlike_54 (tgt := 2) rfl ?_
      refine jo_lv (lv' := [(0, .ref (adr w 40)), (1, .int (i2 + 1))]) [1, 0] rfl ?_
      exact jo_leaf (by rfl) (hF2_2 (σ4, i2 + 1))
    · refine jo_lv (lv' := [(0, .ref (adr w 40)), (1, .int i2), (2, .int 1)]) [1, 2, 0] rfl ?_
      refine jo_loop (X := Mem ⊕ ((Mem × Int32) ⊕ (Bool × Mem))) (fun (z6 : (Mem × Int32)) => z6.1) (fun (z6 : (Mem × Int32)) => [(0, .ref (adr w 40)), (1, .int i2), (2, .int z6.2)]) (body := (fun (z6 : (Mem × Int32)) => l_X4_areOverlapsAlike_15 i2 z6.1 z6.2)) (fun F15_6 hF15_6 s => ?_) (σ1, 1)
      obtain ⟨σ5, i6⟩ := s
      show JO w mu_X4_areOverlapsAlike vB σ5 [(0, .ref (adr w 40)), (1, .int i2), (2, .int i6)] [] 15 (l_X4_areOverlapsAlike_15 i2 σ5 i6) _
      unfold l_X4_areOverlapsAlike_15
      refine jo_iload_n (pc := 15) 2 rfl dX4_areOverlapsAlike_15 rfl ?_
      refine jo_iload_n (pc := 16) 1 rfl dX4_areOverlapsAlike_16 rfl ?_
      refine jo_icmp_ge (pc := 17) dX4_areOverlapsAlike_17 (tgt := 51) rfl ?_ ?_
      · refine jo_lv (lv' := [(0, .ref (adr w 40)), (1, .int i2)]) [0, 1] rfl ?_
        exact jo_leaf (by rfl) (h51_4 σ5)
      · refine jo_iconst (pc := 20) dX4_areOverlapsAlike_20 (ic_i_0) ?_
        refine jo_istore_n (pc := 21) (lv' := [(3, .int 0), (0, .ref (adr w 40)), (1, .int i2), (2, .int i6)]) dX4_areOverlapsAlike_21 rfl (ltb rfl) rfl ?_
        refine jo_joinS (S := Mem) (fun (z7 : Mem) => z7) (fun (z7 : Mem) => [(0, .ref (adr w 40)), (1, .int i2), (2, .int i6)]) (fun (z7 : Mem) => []) 45 ?_ (fun h45_7 => ?_)
        · intro σ7
          show JO w mu_X4_areOverlapsAlike vB σ7 [(0, .ref (adr w 40)), (1, .int i2), (2, .int i6)] [] 45 (j_X4_areOverlapsAlike_45 i6 σ7) _
          unfold j_X4_areOverlapsAlike_45
          refine jo_iinc (pc := 45) (lv' := [(2, .int (i6 + 1)), (0, .ref (adr w 40)), (1, .int i2)]) 2 rfl dX4_areOverlapsAlike_45 (congrArg (fun z => i6 + z) (ic_i_1)) (ltb rfl) rfl ?_
          refine jo_goto (pc := 48) dX4_areOverlapsAlike_48 (tgt := 15) rfl ?_
          refine jo_lv (lv' := [(0, .ref (adr w 40)), (1, .int i2), (2, .int (i6 + 1))]) [1, 2, 0] rfl ?_
          exact jo_leaf (by rfl) (hF15_6 (σ7, i6 + 1))
        · refine jo_lv (lv' := [(0, .ref (adr w 40)), (1, .int i2), (2, .int i6), (3, .int 0)]) [1, 2, 3, 0] rfl ?_
          refine jo_loop (X := Mem ⊕ ((Mem × Int32) ⊕ (Mem ⊕ ((Mem × Int32) ⊕ (Bool × Mem))))) (fun (z9 : (Mem × Int32)) => z9.1) (fun (z9 : (Mem × Int32)) => [(0, .ref (adr w 40)), (1, .int i2), (2, .int i6), (3, .int z9.2)]) (body := (fun (z9 : (Mem × Int32)) => l_X4_areOverlapsAlike_22 i2 i6 z9.1 z9.2)) (fun F22_9 hF22_9 s => ?_) (σ5, 0)
          obtain ⟨σ8, i9⟩ := s
          show JO w mu_X4_areOverlapsAlike vB σ8 [(0, .ref (adr w 40)), (1, .int i2), (2, .int i6), (3, .int i9)] [] 22 (l_X4_areOverlapsAlike_22 i2 i6 σ8 i9) _
          unfold l_X4_areOverlapsAlike_22
          refine jo_iload_n (pc := 22) 3 rfl dX4_areOverlapsAlike_22 rfl ?_
          refine jo_iload_n (pc := 23) 2 rfl dX4_areOverlapsAlike_23 rfl ?_
          refine jo_icmp_ge (pc := 24) dX4_areOverlapsAlike_24 (tgt := 45) rfl ?_ ?_
          · refine jo_lv (lv' := [(0, .ref (adr w 40)), (1, .int i2), (2, .int i6)]) [0, 1, 2] rfl ?_
            exact jo_leaf (by rfl) (h45_7 σ8)
          · refine jo_aload_n (pc := 27) 0 rfl dX4_areOverlapsAlike_27 rfl ?_
            refine jo_iload_n (pc := 28) 1 rfl dX4_areOverlapsAlike_28 rfl ?_
            refine jo_iload_n (pc := 29) 2 rfl dX4_areOverlapsAlike_29 rfl ?_
            refine jo_iload_n (pc := 30) 3 rfl dX4_areOverlapsAlike_30 rfl ?_
            refine jo_cV_Z_i (pc := 31) (μ' := mu_X4_isOverlapAlike) (fx := f_X4_isOverlapAlike σ8 i2 i6 i9) (As := [.int i2, .int i6, .int i9]) (c_X4_isOverlapAlike hw) (ok_X4_isOverlapAlike) (ltb rfl) (all3 gw_398 gw_400 gw_1) (ik_40 hw) (by decide) (q := (RX4, TX4, 9)) rfl rfl rfl rfl (Nat.le_of_ble_eq_true rfl) dX4_areOverlapsAlike_31 (fun b10 σ11 => ?_)
            refine jo_ifz_ne (pc := 34) dX4_areOverlapsAlike_34 (tgt := 39) rfl ?_ ?_
            · refine jo_iinc (pc := 39) (lv' := [(3, .int (i9 + 1)), (0, .ref (adr w 40)), (1, .int i2), (2, .int i6)]) 3 rfl dX4_areOverlapsAlike_39 (congrArg (fun z => i9 + z) (ic_i_1)) (ltb rfl) rfl ?_
              refine jo_goto (pc := 42) dX4_areOverlapsAlike_42 (tgt := 22) rfl ?_
              refine jo_lv (lv' := [(0, .ref (adr w 40)), (1, .int i2), (2, .int i6), (3, .int (i9 + 1))]) [1, 2, 3, 0] rfl ?_
              exact jo_leaf (by rfl) (hF22_9 (σ11, i9 + 1))
            · refine jo_iconst (pc := 37) dX4_areOverlapsAlike_37 (ic_i_0) ?_
              exact jo_breturn (pc := 38) (b := false) rfl rfl dX4_areOverlapsAlike_38
theorem c_X4_areOverlapsAlike {w : Wd} (hw : WOK w) {σ : Mem} : ∀ r σ', f_X4_areOverlapsAlike σ = some (r, σ') → MC w mu_X4_areOverlapsAlike (vB r) [.ref (adr w 40)] σ σ' := mc_of ok_X4_areOverlapsAlike rfl (Nat.le_of_ble_eq_true rfl) (t_X4_areOverlapsAlike hw)
abbrev mu_X6_top : MD := (yX6_top, cX6_top, 1, some .int, 0)
theorem ok_X6_top : MOK mu_X6_top 0 := ⟨gw_454, gw_22, (by decide +kernel : plainFor yX6_top = true), ⟨(by decide +kernel : yX6_top.cls ≠ "java/lang/invoke/MethodHandle"), (by decide +kernel : yX6_top.cls ≠ "java/lang/invoke/VarHandle"), (by decide +kernel : (parseMethodDescriptor yX6_top.desc).map (fun d => d.parameters.length) = some 0)⟩, Nat.le_of_ble_eq_true rfl⟩
noncomputable def f_X6_top (σ : Mem) (a : Nat) : Option Int32 :=
  gF σ a 0 (fun (v1 : Int32) => if v1 ≤ 0 then (some 0) else (gF σ a 0 (fun (v2 : Int32) => gI σ (rf a 1) (v2 - 1) (fun (v3 : Int32) => some v3))))
theorem t_X6_top {w : Wd} (hw : WOK w) {σ : Mem} {a : Nat} (ha : isk w a 6) : JO w mu_X6_top vI σ [(0, .ref (adr w a))] [] 0 (f_X6_top σ a) (fun z => some (z, σ)) := by
  unfold f_X6_top
  refine jo_aload_n (pc := 0) 0 rfl dX6_top_0 rfl ?_
  refine jo_getf (pc := 1) ok_6_0 (ha) gw_61 dX6_top_1 (fun v1 => ?_)
  refine jo_if_le (pc := 4) dX6_top_4 (tgt := 21) rfl ?_ ?_
  · refine jo_iconst (pc := 21) dX6_top_21 (ic_i_0) ?_
    exact jo_ireturn (pc := 22) rfl rfl dX6_top_22
  · refine jo_aload_n (pc := 7) 0 rfl dX6_top_7 rfl ?_
    refine jo_getr (pc := 8) ok_6_1 (ha) gw_65 dX6_top_8 ?_
    refine jo_aload_n (pc := 11) 0 rfl dX6_top_11 rfl ?_
    refine jo_getf (pc := 12) ok_6_0 (ha) gw_61 dX6_top_12 (fun v2 => ?_)
    refine jo_iconst (pc := 15) dX6_top_15 (ic_i_1) ?_
    refine jo_isub (pc := 16) dX6_top_16 ?_
    refine jo_iald (pc := 17) (wf_6_1 hw (ha)) dX6_top_17 (fun v3 => ?_)
    refine jo_goto (pc := 18) dX6_top_18 (tgt := 22) rfl ?_
    exact jo_ireturn (pc := 22) rfl rfl dX6_top_22
theorem c_X6_top {w : Wd} (hw : WOK w) {σ : Mem} {a : Nat} (ha : isk w a 6) : ∀ r, f_X6_top σ a = some r → MC w mu_X6_top (vI r) [.ref (adr w a)] σ σ := mc_ofP ok_X6_top rfl (Nat.le_of_ble_eq_true rfl) (t_X6_top hw ha)
abbrev mu_X4_goToNextPoint : MD := (yX4_goToNextPoint, cX4_goToNextPoint, 4, some .boolean, 1)
theorem ok_X4_goToNextPoint : MOK mu_X4_goToNextPoint 0 := ⟨gw_450, gw_24, (by decide +kernel : plainFor yX4_goToNextPoint = true), ⟨(by decide +kernel : yX4_goToNextPoint.cls ≠ "java/lang/invoke/MethodHandle"), (by decide +kernel : yX4_goToNextPoint.cls ≠ "java/lang/invoke/VarHandle"), (by decide +kernel : (parseMethodDescriptor yX4_goToNextPoint.desc).map (fun d => d.parameters.length) = some 0)⟩, Nat.le_of_ble_eq_true rfl⟩
noncomputable def j_X4_goToNextPoint_85 (σ3 : Mem) (i4 : Int32) (i5 : Int32) : Option (Bool × Mem) :=
  gI σ3 45 i5 (fun (v6 : Int32) => pI σ3 45 i5 (v6 + 1) (fun (σ7 : Mem) => gF σ7 40 6 (fun (v8 : Int32) => gI σ7 42 i4 (fun (v9 : Int32) => pF σ7 40 6 (v8 + v9) (fun (σ10 : Mem) => some (true, σ10))))))
noncomputable def j_X4_goToNextPoint_60 (σ11 : Mem) (i12 : Int32) (i14 : Int32) (i16 : Int32) : Option ((Mem × Int32) ⊕ ((Mem × Int32 × Int32) ⊕ (Bool × Mem))) :=
  gF σ11 40 6 (fun (v17 : Int32) => gI σ11 42 i14 (fun (v18 : Int32) => (f_X6_top σ11 41).bind (fun (v19 : Int32) => if v19 < (v17 + v18) then (gF σ11 40 6 (fun (v20 : Int32) => gI σ11 45 i16 (fun (v21 : Int32) => gI σ11 42 i14 (fun (v22 : Int32) => pF σ11 40 6 (v20 - (v21 * v22)) (fun (σ23 : Mem) => pI σ23 45 i16 0 (fun (σ24 : Mem) => some (Sum.inl (σ24, i12 + (-1))))))))) else (some (Sum.inr (Sum.inl (σ11, i14, i16)))))))
noncomputable def j_X4_goToNextPoint_40 (σ11 : Mem) (i12 : Int32) (i14 : Int32) : Option ((Mem × Int32) ⊕ ((Mem × Int32 × Int32) ⊕ (Bool × Mem))) :=
  gF σ11 41 0 (fun (v15 : Int32) => (if v15 ≤ i12 then (some (6 + i14)) else (some i14) : Option Int32).bind (fun (z16 : Int32) => j_X4_goToNextPoint_60 σ11 i12 i14 z16))
noncomputable def l_X4_goToNextPoint_12 (σ11 : Mem) (i12 : Int32) : Option ((Mem × Int32) ⊕ ((Mem × Int32 × Int32) ⊕ (Bool × Mem))) :=
  if i12 < 0 then (some (Sum.inr (Sum.inr (false, σ11)))) else (gF σ11 41 0 (fun (v13 : Int32) => (if v13 ≤ i12 then (gF σ11 41 0 (fun (v25 : Int32) => some (i12 - v25))) else (some i12) : Option Int32).bind (fun (z14 : Int32) => j_X4_goToNextPoint_40 σ11 i12 z14)))
noncomputable def f_X4_goToNextPoint (σ : Mem) : Option (Bool × Mem) :=
  gF σ 41 0 (fun (v1 : Int32) => bd ((2 * v1) - 1) (fun (v2 : Int32) => (loopO (fun (z12 : (Mem × Int32)) => l_X4_goToNextPoint_12 z12.1 z12.2) (σ, v2) : Option ((Mem × Int32 × Int32) ⊕ (Bool × Mem))).bind (Sum.elim (fun (z5 : (Mem × Int32 × Int32)) => j_X4_goToNextPoint_85 z5.1 z5.2.1 z5.2.2) some)))
theorem t_X4_goToNextPoint {w : Wd} (hw : WOK w) {σ : Mem} : JO w mu_X4_goToNextPoint vB σ [(0, .ref (adr w 40))] [] 0 (f_X4_goToNextPoint σ) some := by
  unfold f_X4_goToNextPoint
  refine jo_iconst (pc := 0) dX4_goToNextPoint_0 (ic_i_2) ?_
  refine jo_aload_n (pc := 1) 0 rfl dX4_goToNextPoint_1 rfl ?_
  refine jo_getrE (pc := 2) ok_4_0 (ik_40 hw) rf_40_0 gw_153 dX4_goToNextPoint_2 ?_
  refine jo_getf (pc := 5) ok_6_0 (ik_41 hw) gw_63 dX4_goToNextPoint_5 (fun v1 => ?_)
  refine jo_imul (pc := 8) dX4_goToNextPoint_8 ?_
  refine jo_iconst (pc := 9) dX4_goToNextPoint_9 (ic_i_1) ?_
  refine jo_isub (pc := 10) dX4_goToNextPoint_10 ?_
  refine jo_bd ?_
  refine jo_istore_n (pc := 11) (lv' := [(1, .int ((2 * v1) - 1)), (0, .ref (adr w 40))]) dX4_goToNextPoint_11 rfl (ltb rfl) rfl ?_
  generalize ((2 * v1) - 1) = v2
  refine jo_joinS (S := (Mem × Int32 × Int32)) (fun (z5 : (Mem × Int32 × Int32)) => z5.1) (fun (z5 : (Mem × Int32 × Int32)) => [(0, .ref (adr w 40)), (2, .int z5.2.1), (3, .int z5.2.2)]) (fun (z5 : (Mem × Int32 × Int32)) => []) 85 ?_ (fun h85_5 => ?_)
  · intro s
    obtain ⟨σ3, i4, i5⟩ := s
    show JO w mu_X4_goToNextPoint vB σ3 [(0, .ref (adr w 40)), (2, .int i4), (3, .int i5)] [] 85 (j_X4_goToNextPoint_85 σ3 i4 i5) _
    unfold j_X4_goToNextPoint_85
    refine jo_aload_n (pc := 85) 0 rfl dX4_goToNextPoint_85 rfl ?_
    refine jo_getrE (pc := 86) ok_4_5 (ik_40 hw) rf_40_5 gw_161 dX4_goToNextPoint_86 ?_
    refine jo_iload_n (pc := 89) 2 rfl dX4_goToNextPoint_89 rfl ?_
    refine jo_dup2 (pc := 90) dX4_goToNextPoint_90 rfl rfl ?_
    refine jo_iald (pc := 91) (ik_45 hw) dX4_goToNextPoint_91 (fun v6 => ?_)
    refine jo_iconst (pc := 92) dX4_goToNextPoint_92 (ic_i_1) ?_
    refine jo_iadd (pc := 93) dX4_goToNextPoint_93 ?_
    refine jo_iast (pc := 94) (ik_45 hw) dX4_goToNextPoint_94 (fun σ7 => ?_)
    refine jo_aload_n (pc := 95) 0 rfl dX4_goToNextPoint_95 rfl ?_
    refine jo_dup (pc := 96) dX4_goToNextPoint_96 rfl ?_
    refine jo_getf (pc := 97) ok_4_6 (ik_40 hw) gw_162 dX4_goToNextPoint_97 (fun v8 => ?_)
    refine jo_aload_n (pc := 100) 0 rfl dX4_goToNextPoint_100 rfl ?_
    refine jo_getrE (pc := 101) ok_4_0 (ik_40 hw) rf_40_0 gw_153 dX4_goToNextPoint_101 ?_
    refine jo_getrE (pc := 104) ok_6_1 (ik_41 hw) rf_41_1 gw_66 dX4_goToNextPoint_104 ?_
    refine jo_iload_n (pc := 107) 1 rfl dX4_goToNextPoint_107 rfl ?_
    refine jo_iald (pc := 108) (ik_42 hw) dX4_goToNextPoint_108 (fun v9 => ?_)
    refine jo_iadd (pc := 109) dX4_goToNextPoint_109 ?_
    refine jo_putf (pc := 110) ok_4_6 okp_4_6 (ik_40 hw) gw_162 dX4_goToNextPoint_110 (fun σ10 => ?_)
    refine jo_iconst (pc := 113) dX4_goToNextPoint_113 (ic_i_1) ?_
    exact jo_breturn (pc := 114) (b := true) rfl rfl dX4_goToNextPoint_114
  · refine jo_lv (lv' := [(0, .ref (adr w 40)), (1, .int v2)]) [1, 0] rfl ?_
    refine jo_loop (X := (Mem × Int32 × Int32) ⊕ (Bool × Mem)) (fun (z12 : (Mem × Int32)) => z12.1) (fun (z12 : (Mem × Int32)) => [(0, .ref (adr w 40)), (1, .int z12.2)]) (body := (fun (z12 : (Mem × Int32)) => l_X4_goToNextPoint_12 z12.1 z12.2)) (fun F12_12 hF12_12 s => ?_) (σ, v2)
    obtain ⟨σ11, i12⟩ := s
    show JO w mu_X4_goToNextPoint vB σ11 [(0, .ref (adr w 40)), (1, .int i12)] [] 12 (l_X4_goToNextPoint_12 σ11 i12) _
    unfold l_X4_goToNextPoint_12
    refine jo_iload_n (pc := 12) 1 rfl dX4_goToNextPoint_12 rfl ?_
    refine jo_if_lt (pc := 13) dX4_goToNextPoint_13 (tgt := 153) rfl ?_ ?_
    · refine jo_iconst (pc := 153) dX4_goToNextPoint_153 (ic_i_0) ?_
      exact jo_breturn (pc := 154) (b := false) rfl rfl dX4_goToNextPoint_154
    · refine jo_iload_n (pc := 16) 1 rfl dX4_goToNextPoint_16 rfl ?_
      refine jo_aload_n (pc := 17) 0 rfl dX4_goToNextPoint_17 rfl ?_
      refine jo_getrE (pc := 18) ok_4_0 (ik_40 hw) rf_40_0 gw_153 dX4_goToNextPoint_18 ?_
      refine jo_getf (pc := 21) ok_6_0 (ik_41 hw) gw_63 dX4_goToNextPoint_21 (fun v13 => ?_)
      refine jo_join1 (S := Int32) (fun (z14 : Int32) => σ11) (fun (z14 : Int32) => [(0, .ref (adr w 40)), (1, .int i12)]) (fun (z14 : Int32) => [.int z14]) 40 ?_ (fun h40_14 => ?_)
      · intro i14
        show JO w mu_X4_goToNextPoint vB σ11 [(0, .ref (adr w 40)), (1, .int i12)] [.int i14] 40 (j_X4_goToNextPoint_40 σ11 i12 i14) _
        unfold j_X4_goToNextPoint_40
        refine jo_istore_n (pc := 40) (lv' := [(2, .int i14), (0, .ref (adr w 40)), (1, .int i12)]) dX4_goToNextPoint_40 rfl (ltb rfl) rfl ?_
        refine jo_iload_n (pc := 41) 2 rfl dX4_goToNextPoint_41 rfl ?_
        refine jo_aload_n (pc := 42) 1 rfl dX4_goToNextPoint_42 rfl ?_
        refine jo_getrE (pc := 43) ok_4_0 (ik_40 hw) rf_40_0 gw_153 dX4_goToNextPoint_43 ?_
        refine jo_getf (pc := 46) ok_6_0 (ik_41 hw) gw_63 dX4_goToNextPoint_46 (fun v15 => ?_)
        refine jo_join1 (S := Int32) (fun (z16 : Int32) => σ11) (fun (z16 : Int32) => [(2, .int i14), (0, .ref (adr w 40)), (1, .int i12)]) (fun (z16 : Int32) => [.int z16]) 60 ?_ (fun h60_16 => ?_)
        · intro i16
          show JO w mu_X4_goToNextPoint vB σ11 [(2, .int i14), (0, .ref (adr w 40)), (1, .int i12)] [.int i16] 60 (j_X4_goToNextPoint_60 σ11 i12 i14 i16) _
          unfold j_X4_goToNextPoint_60
          refine jo_istore_n (pc := 60) (lv' := [(3, .int i16), (2, .int i14), (0, .ref (adr w 40)), (1, .int i12)]) dX4_goToNextPoint_60 rfl (ltb rfl) rfl ?_
          refine jo_aload_n (pc := 61) 2 rfl dX4_goToNextPoint_61 rfl ?_
          refine jo_getf (pc := 62) ok_4_6 (ik_40 hw) gw_162 dX4_goToNextPoint_62 (fun v17 => ?_)
          refine jo_aload_n (pc := 65) 2 rfl dX4_goToNextPoint_65 rfl ?_
          refine jo_getrE (pc := 66) ok_4_0 (ik_40 hw) rf_40_0 gw_153 dX4_goToNextPoint_66 ?_
          refine jo_getrE (pc := 69) ok_6_1 (ik_41 hw) rf_41_1 gw_66 dX4_goToNextPoint_69 ?_
          refine jo_iload_n (pc := 72) 1 rfl dX4_goToNextPoint_72 rfl ?_
          refine jo_iald (pc := 73) (ik_42 hw) dX4_goToNextPoint_73 (fun v18 => ?_)
          refine jo_iadd (pc := 74) dX4_goToNextPoint_74 ?_
          refine jo_aload_n (pc := 75) 2 rfl dX4_goToNextPoint_75 rfl ?_
          refine jo_getrE (pc := 76) ok_4_0 (ik_40 hw) rf_40_0 gw_153 dX4_goToNextPoint_76 ?_
          refine jo_cV_I_p (pc := 79) (μ' := mu_X6_top) (fx := f_X6_top σ11 41) (As := []) (c_X6_top hw (ik_41 hw)) (ok_X6_top) (ltb rfl) (all3 gw_451 gw_452 gw_453) (ik_41 hw) (by decide) (q := (RX6, TX6, 3)) rfl rfl rfl rfl (Nat.le_of_ble_eq_true rfl) dX4_goToNextPoint_79 (fun v19 => ?_)
          refine jo_icmp_gt (pc := 82) dX4_goToNextPoint_82 (tgt := 115) rfl ?_ ?_
          · refine jo_aload_n (pc := 115) 2 rfl dX4_goToNextPoint_115 rfl ?_
            refine jo_dup (pc := 116) dX4_goToNextPoint_116 rfl ?_
            refine jo_getf (pc := 117) ok_4_6 (ik_40 hw) gw_162 dX4_goToNextPoint_117 (fun v20 => ?_)
            refine jo_aload_n (pc := 120) 2 rfl dX4_goToNextPoint_120 rfl ?_
            refine jo_getrE (pc := 121) ok_4_5 (ik_40 hw) rf_40_5 gw_161 dX4_goToNextPoint_121 ?_
            refine jo_iload_n (pc := 124) 0 rfl dX4_goToNextPoint_124 rfl ?_
            refine jo_iald (pc := 125) (ik_45 hw) dX4_goToNextPoint_125 (fun v21 => ?_)
            refine jo_aload_n (pc := 126) 2 rfl dX4_goToNextPoint_126 rfl ?_
            refine jo_getrE (pc := 127) ok_4_0 (ik_40 hw) rf_40_0 gw_153 dX4_goToNextPoint_127 ?_
            refine jo_getrE (pc := 130) ok_6_1 (ik_41 hw) rf_41_1 gw_66 dX4_goToNextPoint_130 ?_
            refine jo_iload_n (pc := 133) 1 rfl dX4_goToNextPoint_133 rfl ?_
            refine jo_iald (pc := 134) (ik_42 hw) dX4_goToNextPoint_134 (fun v22 => ?_)
            refine jo_imul (pc := 135) dX4_goToNextPoint_135 ?_
            refine jo_isub (pc := 136) dX4_goToNextPoint_136 ?_
            refine jo_putf (pc := 137) ok_4_6 okp_4_6 (ik_40 hw) gw_162 dX4_goToNextPoint_137 (fun σ23 => ?_)
            refine jo_aload_n (pc := 140) 2 rfl dX4_goToNextPoint_140 rfl ?_
            refine jo_getrE (pc := 141) ok_4_5 (ik_40 hw) rf_40_5 gw_161 dX4_goToNextPoint_141 ?_
            refine jo_iload_n (pc := 144) 0 rfl dX4_goToNextPoint_144 rfl ?_
            refine jo_iconst (pc := 145) dX4_goToNextPoint_145 (ic_i_0) ?_
            refine jo_iast (pc := 146) (ik_45 hw) dX4_goToNextPoint_146 (fun σ24 => ?_)
            refine jo_iinc (pc := 147) (lv' := [(1, .int (i12 + (-1))), (3, .int i16), (2, .int i14), (0, .ref (adr w 40))]) 3 rfl dX4_goToNextPoint_147 (congrArg (fun z => i12 + z) (ic_i_m1)) (ltb rfl) rfl ?_
            refine jo_goto (pc := 150) dX4_goToNextPoint_150 (tgt := 12) rfl ?_
            refine jo_lv (lv' := [(0, .ref (adr w 40)), (1, .int (i12 + (-1)))]) [3, 0] rfl ?_
            exact jo_leaf (by rfl) (hF12_12 (σ24, i12 + (-1)))
          · refine jo_lv (lv' := [(0, .ref (adr w 40)), (2, .int i14), (3, .int i16)]) [2, 1, 0] rfl ?_
            exact jo_leaf (by rfl) (h85_5 (σ11, i14, i16))
        · refine jo_icmp_ge (pc := 49) dX4_goToNextPoint_49 (tgt := 56) rfl ?_ ?_
          · refine jo_bipush (pc := 56) dX4_goToNextPoint_56 (ic_b_6) ?_
            refine jo_iload_n (pc := 58) 0 rfl dX4_goToNextPoint_58 rfl ?_
            refine jo_iadd (pc := 59) dX4_goToNextPoint_59 ?_
            exact jo_leaf (by rfl) (h60_16 (6 + i14))
          · refine jo_iload_n (pc := 52) 0 rfl dX4_goToNextPoint_52 rfl ?_
            refine jo_goto (pc := 53) dX4_goToNextPoint_53 (tgt := 60) rfl ?_
            exact jo_leaf (by rfl) (h60_16 i14)
      · refine jo_icmp_ge (pc := 24) dX4_goToNextPoint_24 (tgt := 31) rfl ?_ ?_
        · refine jo_iload_n (pc := 31) 1 rfl dX4_goToNextPoint_31 rfl ?_
          refine jo_aload_n (pc := 32) 0 rfl dX4_goToNextPoint_32 rfl ?_
          refine jo_getrE (pc := 33) ok_4_0 (ik_40 hw) rf_40_0 gw_153 dX4_goToNextPoint_33 ?_
          refine jo_getf (pc := 36) ok_6_0 (ik_41 hw) gw_63 dX4_goToNextPoint_36 (fun v25 => ?_)
          refine jo_isub (pc := 39) dX4_goToNextPoint_39 ?_
          exact jo_leaf (by rfl) (h40_14 (i12 - v25))
        · refine jo_iload_n (pc := 27) 1 rfl dX4_goToNextPoint_27 rfl ?_
          refine jo_goto (pc := 28) dX4_goToNextPoint_28 (tgt := 40) rfl ?_
          exact jo_leaf (by rfl) (h40_14 i12)
theorem c_X4_goToNextPoint {w : Wd} (hw : WOK w) {σ : Mem} : ∀ r σ', f_X4_goToNextPoint σ = some (r, σ') → MC w mu_X4_goToNextPoint (vB r) [.ref (adr w 40)] σ σ' := mc_of ok_X4_goToNextPoint rfl (Nat.le_of_ble_eq_true rfl) (t_X4_goToNextPoint hw)
abbrev mu_X10_degree : MD := (yX10_degree, cX10_degree, 2, some .int, 0)
theorem ok_X10_degree : MOK mu_X10_degree 2 := ⟨gw_476, gw_20, (by decide +kernel : plainFor yX10_degree = true), ⟨(by decide +kernel : yX10_degree.cls ≠ "java/lang/invoke/MethodHandle"), (by decide +kernel : yX10_degree.cls ≠ "java/lang/invoke/VarHandle"), (by decide +kernel : (parseMethodDescriptor yX10_degree.desc).map (fun d => d.parameters.length) = some 2)⟩, Nat.le_of_ble_eq_true rfl⟩
noncomputable def f_X10_degree (σ : Mem) (x0 : Int32) (x1 : Int32) : Option Int32 :=
  some ((x0 >>> ((2 * (11 - x1)) &&& 31)) &&& 3)
theorem t_X10_degree {w : Wd} (hw : WOK w) {σ : Mem} {x0 : Int32} {x1 : Int32} : JO w mu_X10_degree vI σ [(0, .int x0), (1, .int x1)] [] 0 (f_X10_degree σ x0 x1) (fun z => some (z, σ)) := by
  unfold f_X10_degree
  refine jo_iload_n (pc := 0) 0 rfl dX10_degree_0 rfl ?_
  refine jo_iconst (pc := 1) dX10_degree_1 (ic_i_2) ?_
  refine jo_bipush (pc := 2) dX10_degree_2 (ic_b_11) ?_
  refine jo_iload_n (pc := 4) 1 rfl dX10_degree_4 rfl ?_
  refine jo_isub (pc := 5) dX10_degree_5 ?_
  refine jo_imul (pc := 6) dX10_degree_6 ?_
  refine jo_ishr (pc := 7) dX10_degree_7 ?_
  refine jo_iconst (pc := 8) dX10_degree_8 (ic_i_3) ?_
  refine jo_iand (pc := 9) dX10_degree_9 ?_
  exact jo_ireturn (pc := 10) rfl rfl dX10_degree_10
theorem c_X10_degree {w : Wd} (hw : WOK w) {σ : Mem} {x0 : Int32} {x1 : Int32} : ∀ r, f_X10_degree σ x0 x1 = some r → MC w mu_X10_degree (vI r) [.int x0, .int x1] σ σ := mc_ofP ok_X10_degree rfl (Nat.le_of_ble_eq_true rfl) (t_X10_degree hw)
abbrev mu_X9_placesOf : MD := (yX9_placesOf, cX9_placesOf, 4, some .int, 1)
theorem ok_X9_placesOf : MOK mu_X9_placesOf 1 := ⟨gw_473, gw_25, (by decide +kernel : plainFor yX9_placesOf = true), ⟨(by decide +kernel : yX9_placesOf.cls ≠ "java/lang/invoke/MethodHandle"), (by decide +kernel : yX9_placesOf.cls ≠ "java/lang/invoke/VarHandle"), (by decide +kernel : (parseMethodDescriptor yX9_placesOf.desc).map (fun d => d.parameters.length) = some 1)⟩, Nat.le_of_ble_eq_true rfl⟩
noncomputable def j_X9_placesOf_31 (i2 : Int32) (i4 : Int32) : Option ((Int32 × Int32) ⊕ Int32) :=
  some (Sum.inl (i4, i2 + 1))
noncomputable def l_X9_placesOf_4 (σ : Mem) (x0 : Int32) (i1 : Int32) (i2 : Int32) : Option ((Int32 × Int32) ⊕ Int32) :=
  if 12 ≤ i2 then (some (Sum.inr i1)) else ((f_X10_degree σ x0 i2).bind (fun (v3 : Int32) => (if v3 ≤ 0 then (some i1) else (bd ((i1 <<< (6 &&& 31)) ||| ((4 * i2) + v3)) (fun (v5 : Int32) => some v5)) : Option Int32).bind (fun (z4 : Int32) => j_X9_placesOf_31 i2 z4)))
noncomputable def f_X9_placesOf (σ : Mem) (x0 : Int32) : Option Int32 :=
  loopO (fun (z2 : (Int32 × Int32)) => l_X9_placesOf_4 σ x0 z2.1 z2.2) (0, 0)
theorem t_X9_placesOf {w : Wd} (hw : WOK w) {σ : Mem} {x0 : Int32} : JO w mu_X9_placesOf vI σ [(0, .int x0)] [] 0 (f_X9_placesOf σ x0) (fun z => some (z, σ)) := by
  unfold f_X9_placesOf
  refine jo_iconst (pc := 0) dX9_placesOf_0 (ic_i_0) ?_
  refine jo_istore_n (pc := 1) (lv' := [(1, .int 0), (0, .int x0)]) dX9_placesOf_1 rfl (ltb rfl) rfl ?_
  refine jo_iconst (pc := 2) dX9_placesOf_2 (ic_i_0) ?_
  refine jo_istore_n (pc := 3) (lv' := [(2, .int 0), (1, .int 0), (0, .int x0)]) dX9_placesOf_3 rfl (ltb rfl) rfl ?_
  refine jo_lv (lv' := [(0, .int x0), (1, .int 0), (2, .int 0)]) [2, 1, 0] rfl ?_
  refine jo_loop (X := Int32) (fun (z2 : (Int32 × Int32)) => σ) (fun (z2 : (Int32 × Int32)) => [(0, .int x0), (1, .int z2.1), (2, .int z2.2)]) (body := (fun (z2 : (Int32 × Int32)) => l_X9_placesOf_4 σ x0 z2.1 z2.2)) (fun F4_2 hF4_2 s => ?_) (0, 0)
  obtain ⟨i1, i2⟩ := s
  show JO w mu_X9_placesOf vI σ [(0, .int x0), (1, .int i1), (2, .int i2)] [] 4 (l_X9_placesOf_4 σ x0 i1 i2) _
  unfold l_X9_placesOf_4
  refine jo_iload_n (pc := 4) 2 rfl dX9_placesOf_4 rfl ?_
  refine jo_bipush (pc := 5) dX9_placesOf_5 (ic_b_12) ?_
  refine jo_icmp_ge (pc := 7) dX9_placesOf_7 (tgt := 37) rfl ?_ ?_
  · refine jo_iload_n (pc := 37) 1 rfl dX9_placesOf_37 rfl ?_
    exact jo_ireturn (pc := 38) rfl rfl dX9_placesOf_38
  · refine jo_iload_n (pc := 10) 0 rfl dX9_placesOf_10 rfl ?_
    refine jo_iload_n (pc := 11) 2 rfl dX9_placesOf_11 rfl ?_
    refine jo_cSN_I_p (pc := 12) (μ' := mu_X10_degree) (fx := f_X10_degree σ x0 i2) (As := [.int x0, .int i2]) (c_X10_degree hw) (ok_X10_degree) (ltb rfl) (host := "HallRegisters") (by decide +kernel) gw_475 rfl rfl (Nat.le_of_ble_eq_true rfl) dX9_placesOf_12 (fun v3 => ?_)
    refine jo_istore_n (pc := 15) (lv' := [(3, .int v3), (0, .int x0), (1, .int i1), (2, .int i2)]) dX9_placesOf_15 rfl (ltb rfl) rfl ?_
    refine jo_iload_n (pc := 16) 0 rfl dX9_placesOf_16 rfl ?_
    refine jo_join1 (S := Int32) (fun (z4 : Int32) => σ) (fun (z4 : Int32) => [(0, .int x0), (2, .int i2), (1, .int z4)]) (fun (z4 : Int32) => []) 31 ?_ (fun h31_4 => ?_)
    · intro i4
      show JO w mu_X9_placesOf vI σ [(0, .int x0), (2, .int i2), (1, .int i4)] [] 31 (j_X9_placesOf_31 i2 i4) _
      unfold j_X9_placesOf_31
      refine jo_iinc (pc := 31) (lv' := [(2, .int (i2 + 1)), (0, .int x0), (1, .int i4)]) 1 rfl dX9_placesOf_31 (congrArg (fun z => i2 + z) (ic_i_1)) (ltb rfl) rfl ?_
      refine jo_goto (pc := 34) dX9_placesOf_34 (tgt := 4) rfl ?_
      refine jo_lv (lv' := [(0, .int x0), (1, .int i4), (2, .int (i2 + 1))]) [1, 2, 0] rfl ?_
      exact jo_leaf (by rfl) (hF4_2 (i4, i2 + 1))
    · refine jo_if_le (pc := 17) dX9_placesOf_17 (tgt := 31) rfl ?_ ?_
      · refine jo_lv (lv' := [(0, .int x0), (2, .int i2), (1, .int i1)]) [1, 3, 2] rfl ?_
        exact jo_leaf (by rfl) (h31_4 i1)
      · refine jo_iload_n (pc := 20) 2 rfl dX9_placesOf_20 rfl ?_
        refine jo_bipush (pc := 21) dX9_placesOf_21 (ic_b_6) ?_
        refine jo_ishl (pc := 23) dX9_placesOf_23 ?_
        refine jo_iconst (pc := 24) dX9_placesOf_24 (ic_i_4) ?_
        refine jo_iload_n (pc := 25) 3 rfl dX9_placesOf_25 rfl ?_
        refine jo_imul (pc := 26) dX9_placesOf_26 ?_
        refine jo_iload_n (pc := 27) 0 rfl dX9_placesOf_27 rfl ?_
        refine jo_iadd (pc := 28) dX9_placesOf_28 ?_
        refine jo_ior (pc := 29) dX9_placesOf_29 ?_
        refine jo_bd ?_
        refine jo_istore_n (pc := 30) (lv' := [(1, .int ((i1 <<< (6 &&& 31)) ||| ((4 * i2) + v3))), (3, .int v3), (0, .int x0), (2, .int i2)]) dX9_placesOf_30 rfl (ltb rfl) rfl ?_
        generalize ((i1 <<< (6 &&& 31)) ||| ((4 * i2) + v3)) = v5
        refine jo_lv (lv' := [(0, .int x0), (2, .int i2), (1, .int v5)]) [2, 3, 0] rfl ?_
        exact jo_leaf (by rfl) (h31_4 v5)
theorem c_X9_placesOf {w : Wd} (hw : WOK w) {σ : Mem} {x0 : Int32} : ∀ r, f_X9_placesOf σ x0 = some r → MC w mu_X9_placesOf (vI r) [.int x0] σ σ := mc_ofP ok_X9_placesOf rfl (Nat.le_of_ble_eq_true rfl) (t_X9_placesOf hw)
abbrev mu_X9_append : MD := (yX9_append, cX9_append, 4, none, 2)
theorem ok_X9_append : MOK mu_X9_append 2 := ⟨gw_470, gw_25, (by decide +kernel : plainFor yX9_append = true), ⟨(by decide +kernel : yX9_append.cls ≠ "java/lang/invoke/MethodHandle"), (by decide +kernel : yX9_append.cls ≠ "java/lang/invoke/VarHandle"), (by decide +kernel : (parseMethodDescriptor yX9_append.desc).map (fun d => d.parameters.length) = some 2)⟩, Nat.le_of_ble_eq_true rfl⟩
noncomputable def f_X9_append (σ : Mem) (a : Nat) (x0 : Int32) (x1 : Int64) : Option Mem :=
  gF σ a 0 (fun (v1 : Int32) => if 455 ≤ v1 then (some σ) else (gF σ a 0 (fun (v2 : Int32) => pI σ (rf a 1) v2 x0 (fun (σ3 : Mem) => gF σ3 a 0 (fun (v4 : Int32) => pL σ3 (rf a 2) v4 x1 (fun (σ5 : Mem) => gF σ5 a 0 (fun (v6 : Int32) => (f_X9_placesOf σ5 x0).bind (fun (v7 : Int32) => pI σ5 (rf a 3) v6 v7 (fun (σ8 : Mem) => gF σ8 a 0 (fun (v9 : Int32) => pF σ8 a 0 (v9 + 1) (fun (σ10 : Mem) => some σ10)))))))))))
theorem t_X9_append {w : Wd} (hw : WOK w) {σ : Mem} {a : Nat} {x0 : Int32} {x1 : Int64} (ha : isk w a 9) : JO w mu_X9_append vV σ [(0, .ref (adr w a)), (1, .int x0), (2, .long x1)] [] 0 (f_X9_append σ a x0 x1) (fun z => some ((), z)) := by
  unfold f_X9_append
  refine jo_aload_n (pc := 0) 0 rfl dX9_append_0 rfl ?_
  refine jo_getf (pc := 1) ok_9_0 (ha) gw_138 dX9_append_1 (fun v1 => ?_)
  refine jo_sipush (pc := 4) dX9_append_4 (ic_s_455) ?_
  refine jo_icmp_ge (pc := 7) dX9_append_7 (tgt := 53) rfl ?_ ?_
  · exact jo_return (pc := 53) rfl rfl dX9_append_53
  · refine jo_aload_n (pc := 10) 0 rfl dX9_append_10 rfl ?_
    refine jo_getr (pc := 11) ok_9_1 (ha) gw_141 dX9_append_11 ?_
    refine jo_aload_n (pc := 14) 0 rfl dX9_append_14 rfl ?_
    refine jo_getf (pc := 15) ok_9_0 (ha) gw_138 dX9_append_15 (fun v2 => ?_)
    refine jo_iload_n (pc := 18) 1 rfl dX9_append_18 rfl ?_
    refine jo_iast (pc := 19) (wf_9_1 hw (ha)) dX9_append_19 (fun σ3 => ?_)
    refine jo_aload_n (pc := 20) 0 rfl dX9_append_20 rfl ?_
    refine jo_getr (pc := 21) ok_9_2 (ha) gw_142 dX9_append_21 ?_
    refine jo_aload_n (pc := 24) 0 rfl dX9_append_24 rfl ?_
    refine jo_getf (pc := 25) ok_9_0 (ha) gw_138 dX9_append_25 (fun v4 => ?_)
    refine jo_lload_n (pc := 28) 2 rfl dX9_append_28 rfl ?_
    refine jo_last (pc := 29) (wf_9_2 hw (ha)) dX9_append_29 (fun σ5 => ?_)
    refine jo_aload_n (pc := 30) 0 rfl dX9_append_30 rfl ?_
    refine jo_getr (pc := 31) ok_9_3 (ha) gw_143 dX9_append_31 ?_
    refine jo_aload_n (pc := 34) 0 rfl dX9_append_34 rfl ?_
    refine jo_getf (pc := 35) ok_9_0 (ha) gw_138 dX9_append_35 (fun v6 => ?_)
    refine jo_iload_n (pc := 38) 1 rfl dX9_append_38 rfl ?_
    refine jo_cS_I_p (pc := 39) (μ' := mu_X9_placesOf) (fx := f_X9_placesOf σ5 x0) (As := [.int x0]) (c_X9_placesOf hw) (ok_X9_placesOf) (ltb rfl) (all2 gw_471 gw_472) rfl rfl (Nat.le_of_ble_eq_true rfl) dX9_append_39 (fun v7 => ?_)
    refine jo_iast (pc := 42) (wf_9_3 hw (ha)) dX9_append_42 (fun σ8 => ?_)
    refine jo_aload_n (pc := 43) 0 rfl dX9_append_43 rfl ?_
    refine jo_dup (pc := 44) dX9_append_44 rfl ?_
    refine jo_getf (pc := 45) ok_9_0 (ha) gw_138 dX9_append_45 (fun v9 => ?_)
    refine jo_iconst (pc := 48) dX9_append_48 (ic_i_1) ?_
    refine jo_iadd (pc := 49) dX9_append_49 ?_
    refine jo_putf (pc := 50) ok_9_0 okp_9_0 (ha) gw_138 dX9_append_50 (fun σ10 => ?_)
    exact jo_return (pc := 53) rfl rfl dX9_append_53
theorem c_X9_append {w : Wd} (hw : WOK w) {σ : Mem} {a : Nat} {x0 : Int32} {x1 : Int64} (ha : isk w a 9) : ∀ σ', f_X9_append σ a x0 x1 = some σ' → MC w mu_X9_append none [.ref (adr w a), .int x0, .long x1] σ σ' := mc_ofV ok_X9_append rfl (Nat.le_of_ble_eq_true rfl) (t_X9_append hw ha)
abbrev mu_X4_findTermsAtPoint : MD := (yX4_findTermsAtPoint, cX4_findTermsAtPoint, 5, none, 4)
theorem ok_X4_findTermsAtPoint : MOK mu_X4_findTermsAtPoint 0 := ⟨gw_458, gw_24, (by decide +kernel : plainFor yX4_findTermsAtPoint = true), ⟨(by decide +kernel : yX4_findTermsAtPoint.cls ≠ "java/lang/invoke/MethodHandle"), (by decide +kernel : yX4_findTermsAtPoint.cls ≠ "java/lang/invoke/VarHandle"), (by decide +kernel : (parseMethodDescriptor yX4_findTermsAtPoint.desc).map (fun d => d.parameters.length) = some 0)⟩, Nat.le_of_ble_eq_true rfl⟩
noncomputable def j_X4_findTermsAtPoint_169 (i7 : Int32) (σ11 : Mem) : Option ((Mem × Int32) ⊕ Mem) :=
  some (Sum.inl (σ11, i7 + 1))
noncomputable def l_X4_findTermsAtPoint_97 (i3 : Int32) (σ6 : Mem) (i7 : Int32) : Option ((Mem × Int32) ⊕ Mem) :=
  gF σ6 41 0 (fun (v8 : Int32) => if v8 ≤ i7 then (some (Sum.inr σ6)) else (gI σ6 42 i7 (fun (v9 : Int32) => gF σ6 40 6 (fun (v10 : Int32) => (if v10 ≤ v9 then (gI σ6 39 i7 (fun (v12 : Int32) => gR 44 i7 (fun (p13 : Nat) => (f_X9_value σ6 p13 46).bind (fun (v14 : Int64) => bd ((Int32.toInt64 v12) - v14) (fun (v15 : Int64) => if v15 = 0 then (some σ6) else (gR 44 i7 (fun (p16 : Nat) => (f_X9_append σ6 p16 i3 v15).bind (fun (σ17 : Mem) => some σ17)))))))) else (some σ6) : Option Mem).bind (fun (z11 : Mem) => j_X4_findTermsAtPoint_169 i7 z11)))))
noncomputable def j_X4_findTermsAtPoint_80 (σ2 : Mem) (i3 : Int32) : Option Mem :=
  bq (f_X2_run σ2 41 1000) (fun (v4 : Int32) (σ5 : Mem) => loopO (fun (z7 : (Mem × Int32)) => l_X4_findTermsAtPoint_97 i3 z7.1 z7.2) (σ5, 0))
noncomputable def j_X4_findTermsAtPoint_74 (i20 : Int32) (v24 : Int32) (σ25 : Mem) : Option ((Mem × Int32 × Int32) ⊕ (Mem × Int32)) :=
  some (Sum.inl (σ25, v24, i20 + 1))
noncomputable def l_X4_findTermsAtPoint_47 (i20 : Int32) (σ26 : Mem) (i27 : Int32) : Option ((Mem × Int32) ⊕ Mem) :=
  gI σ26 45 i20 (fun (v28 : Int32) => if v28 ≤ i27 then (some (Sum.inr σ26)) else (nzI 6 ((f_X2_add σ26 (i20 - i20 / 6 * 6)).bind (fun (σ29 : Mem) => some (Sum.inl (σ29, i27 + 1))))))
noncomputable def l_X4_findTermsAtPoint_11 (σ18 : Mem) (i19 : Int32) (i20 : Int32) : Option ((Mem × Int32 × Int32) ⊕ (Mem × Int32)) :=
  if 12 ≤ i20 then (some (Sum.inr (σ18, i19))) else (gI σ18 45 i20 (fun (v21 : Int32) => (f_X4_put σ18 46 i20 (Int32.toInt64 v21)).bind (fun (σ22 : Mem) => gI σ22 45 i20 (fun (v23 : Int32) => bd ((i19 <<< (2 &&& 31)) ||| (v23 &&& 3)) (fun (v24 : Int32) => (loopO (fun (z27 : (Mem × Int32)) => l_X4_findTermsAtPoint_47 i20 z27.1 z27.2) (σ22, 0) : Option Mem).bind (fun (z25 : Mem) => j_X4_findTermsAtPoint_74 i20 v24 z25))))))
noncomputable def f_X4_findTermsAtPoint (σ : Mem) : Option Mem :=
  (f_X2_begin σ).bind (fun (σ1 : Mem) => (loopO (fun (z20 : (Mem × Int32 × Int32)) => l_X4_findTermsAtPoint_11 z20.1 z20.2.1 z20.2.2) (σ1, 0, 0) : Option (Mem × Int32)).bind (fun (z3 : (Mem × Int32)) => j_X4_findTermsAtPoint_80 z3.1 z3.2))
theorem t_X4_findTermsAtPoint {w : Wd} (hw : WOK w) {σ : Mem} : JO w mu_X4_findTermsAtPoint vV σ [(0, .ref (adr w 40))] [] 0 (f_X4_findTermsAtPoint σ) (fun z => some ((), z)) := by
  unfold f_X4_findTermsAtPoint
  refine jo_aload_n (pc := 0) 0 rfl dX4_findTermsAtPoint_0 rfl ?_
  refine jo_getrE (pc := 1) ok_4_1 (ik_40 hw) rf_40_1 gw_154 dX4_findTermsAtPoint_1 ?_
  refine jo_cV_V_i (pc := 4) (μ' := mu_X2_begin) (fx := f_X2_begin σ) (As := []) (c_X2_begin hw) (ok_X2_begin) (ltb rfl) (all3 gw_402 gw_403 gw_404) (ik_35 hw) (by decide) (q := (RX2, TX2, 7)) rfl rfl rfl rfl (Nat.le_of_ble_eq_true rfl) dX4_findTermsAtPoint_4 (fun σ1 => ?_)
  refine jo_iconst (pc := 7) dX4_findTermsAtPoint_7 (ic_i_0) ?_
  refine jo_istore_n (pc := 8) (lv' := [(1, .int 0), (0, .ref (adr w 40))]) dX4_findTermsAtPoint_8 rfl (ltb rfl) rfl ?_
  refine jo_iconst (pc := 9) dX4_findTermsAtPoint_9 (ic_i_0) ?_
  refine jo_istore_n (pc := 10) (lv' := [(2, .int 0), (1, .int 0), (0, .ref (adr w 40))]) dX4_findTermsAtPoint_10 rfl (ltb rfl) rfl ?_
  refine jo_join1 (S := (Mem × Int32)) (fun (z3 : (Mem × Int32)) => z3.1) (fun (z3 : (Mem × Int32)) => [(0, .ref (adr w 40)), (1, .int z3.2)]) (fun (z3 : (Mem × Int32)) => []) 80 ?_ (fun h80_3 => ?_)
  · intro s
    obtain ⟨σ2, i3⟩ := s
    show JO w mu_X4_findTermsAtPoint vV σ2 [(0, .ref (adr w 40)), (1, .int i3)] [] 80 (j_X4_findTermsAtPoint_80 σ2 i3) _
    unfold j_X4_findTermsAtPoint_80
    refine jo_aload_n (pc := 80) 0 rfl dX4_findTermsAtPoint_80 rfl ?_
    refine jo_getrE (pc := 81) ok_4_1 (ik_40 hw) rf_40_1 gw_154 dX4_findTermsAtPoint_81 ?_
    refine jo_aload_n (pc := 84) 0 rfl dX4_findTermsAtPoint_84 rfl ?_
    refine jo_getrE (pc := 85) ok_4_0 (ik_40 hw) rf_40_0 gw_153 dX4_findTermsAtPoint_85 ?_
    refine jo_sipush (pc := 88) dX4_findTermsAtPoint_88 (ic_s_1000) ?_
    refine jo_cV_I_i (pc := 91) (μ' := mu_X2_run) (fx := f_X2_run σ2 41 1000) (As := [.ref (adr w 41), .int 1000]) (c_X2_run hw (ik_41 hw)) (ok_X2_run) (ltb rfl) (all3 gw_419 gw_420 gw_421) (ik_35 hw) (by decide) (q := (RX2, TX2, 7)) rfl rfl rfl rfl (Nat.le_of_ble_eq_true rfl) dX4_findTermsAtPoint_91 (fun v4 σ5 => ?_)
    refine jo_pop (pc := 94) dX4_findTermsAtPoint_94 rfl ?_
    refine jo_iconst (pc := 95) dX4_findTermsAtPoint_95 (ic_i_0) ?_
    refine jo_istore_n (pc := 96) (lv' := [(2, .int 0), (0, .ref (adr w 40)), (1, .int i3)]) dX4_findTermsAtPoint_96 rfl (ltb rfl) rfl ?_
    refine jo_lv (lv' := [(0, .ref (adr w 40)), (1, .int i3), (2, .int 0)]) [1, 2, 0] rfl ?_
    refine jo_loop (X := Mem) (fun (z7 : (Mem × Int32)) => z7.1) (fun (z7 : (Mem × Int32)) => [(0, .ref (adr w 40)), (1, .int i3), (2, .int z7.2)]) (body := (fun (z7 : (Mem × Int32)) => l_X4_findTermsAtPoint_97 i3 z7.1 z7.2)) (fun F97_7 hF97_7 s => ?_) (σ5, 0)
    obtain ⟨σ6, i7⟩ := s
    show JO w mu_X4_findTermsAtPoint vV σ6 [(0, .ref (adr w 40)), (1, .int i3), (2, .int i7)] [] 97 (l_X4_findTermsAtPoint_97 i3 σ6 i7) _
    unfold l_X4_findTermsAtPoint_97
    refine jo_iload_n (pc := 97) 2 rfl dX4_findTermsAtPoint_97 rfl ?_
    refine jo_aload_n (pc := 98) 0 rfl dX4_findTermsAtPoint_98 rfl ?_
    refine jo_getrE (pc := 99) ok_4_0 (ik_40 hw) rf_40_0 gw_153 dX4_findTermsAtPoint_99 ?_
    refine jo_getf (pc := 102) ok_6_0 (ik_41 hw) gw_63 dX4_findTermsAtPoint_102 (fun v8 => ?_)
    refine jo_icmp_ge (pc := 105) dX4_findTermsAtPoint_105 (tgt := 175) rfl ?_ ?_
    · exact jo_return (pc := 175) rfl rfl dX4_findTermsAtPoint_175
    · refine jo_aload_n (pc := 108) 0 rfl dX4_findTermsAtPoint_108 rfl ?_
      refine jo_getrE (pc := 109) ok_4_0 (ik_40 hw) rf_40_0 gw_153 dX4_findTermsAtPoint_109 ?_
      refine jo_getrE (pc := 112) ok_6_1 (ik_41 hw) rf_41_1 gw_66 dX4_findTermsAtPoint_112 ?_
      refine jo_iload_n (pc := 115) 2 rfl dX4_findTermsAtPoint_115 rfl ?_
      refine jo_iald (pc := 116) (ik_42 hw) dX4_findTermsAtPoint_116 (fun v9 => ?_)
      refine jo_aload_n (pc := 117) 0 rfl dX4_findTermsAtPoint_117 rfl ?_
      refine jo_getf (pc := 118) ok_4_6 (ik_40 hw) gw_162 dX4_findTermsAtPoint_118 (fun v10 => ?_)
      refine jo_join1 (S := Mem) (fun (z11 : Mem) => z11) (fun (z11 : Mem) => [(0, .ref (adr w 40)), (1, .int i3), (2, .int i7)]) (fun (z11 : Mem) => []) 169 ?_ (fun h169_11 => ?_)
      · intro σ11
        show JO w mu_X4_findTermsAtPoint vV σ11 [(0, .ref (adr w 40)), (1, .int i3), (2, .int i7)] [] 169 (j_X4_findTermsAtPoint_169 i7 σ11) _
        unfold j_X4_findTermsAtPoint_169
        refine jo_iinc (pc := 169) (lv' := [(2, .int (i7 + 1)), (0, .ref (adr w 40)), (1, .int i3)]) 2 rfl dX4_findTermsAtPoint_169 (congrArg (fun z => i7 + z) (ic_i_1)) (ltb rfl) rfl ?_
        refine jo_goto (pc := 172) dX4_findTermsAtPoint_172 (tgt := 97) rfl ?_
        refine jo_lv (lv' := [(0, .ref (adr w 40)), (1, .int i3), (2, .int (i7 + 1))]) [1, 2, 0] rfl ?_
        exact jo_leaf (by rfl) (hF97_7 (σ11, i7 + 1))
      · refine jo_icmp_ge (pc := 121) dX4_findTermsAtPoint_121 (tgt := 127) rfl ?_ ?_
        · refine jo_aload_n (pc := 127) 0 rfl dX4_findTermsAtPoint_127 rfl ?_
          refine jo_getrE (pc := 128) ok_4_1 (ik_40 hw) rf_40_1 gw_154 dX4_findTermsAtPoint_128 ?_
          refine jo_getrE (pc := 131) ok_2_6 (ik_35 hw) rf_35_6 gw_106 dX4_findTermsAtPoint_131 ?_
          refine jo_iload_n (pc := 134) 2 rfl dX4_findTermsAtPoint_134 rfl ?_
          refine jo_iald (pc := 135) (ik_39 hw) dX4_findTermsAtPoint_135 (fun v12 => ?_)
          refine jo_i2l (pc := 136) dX4_findTermsAtPoint_136 ?_
          refine jo_aload_n (pc := 137) 0 rfl dX4_findTermsAtPoint_137 rfl ?_
          refine jo_getrE (pc := 138) ok_4_2 (ik_40 hw) rf_40_2 gw_155 dX4_findTermsAtPoint_138 ?_
          refine jo_iload_n (pc := 141) 2 rfl dX4_findTermsAtPoint_141 rfl ?_
          refine jo_aaldG (pc := 142) (z := 9) hw (ik_44 hw) (by decide) (t := 3) rfl rfl (by decide) dX4_findTermsAtPoint_142 (fun p13 hp13 => ?_)
          refine jo_aload_n (pc := 143) 0 rfl dX4_findTermsAtPoint_143 rfl ?_
          refine jo_getrE (pc := 144) ok_4_7 (ik_40 hw) rf_40_7 gw_163 dX4_findTermsAtPoint_144 ?_
          refine jo_cV_J_p (pc := 147) (μ' := mu_X9_value) (fx := f_X9_value σ6 p13 46) (As := [.ref (adr w 46)]) (c_X9_value hw (hp13) (ik_46 hw)) (ok_X9_value) (ltb rfl) (all3 gw_463 gw_464 gw_465) (hp13) (by decide) (q := (RX9, TX9, 4)) rfl rfl rfl rfl (Nat.le_of_ble_eq_true rfl) dX4_findTermsAtPoint_147 (fun v14 => ?_)
          refine jo_lsub (pc := 150) dX4_findTermsAtPoint_150 ?_
          refine jo_bd ?_
          refine jo_lstore_n (pc := 151) (lv' := [(3, .long ((Int32.toInt64 v12) - v14)), (0, .ref (adr w 40)), (1, .int i3), (2, .int i7)]) dX4_findTermsAtPoint_151 rfl (ltb rfl) rfl ?_
          generalize ((Int32.toInt64 v12) - v14) = v15
          refine jo_lload_n (pc := 152) 0 rfl dX4_findTermsAtPoint_152 rfl ?_
          refine jo_lconst (pc := 153) dX4_findTermsAtPoint_153 (ic_l_0) ?_
          refine jo_lcmp_eq (pc := 154) dX4_findTermsAtPoint_154 dX4_findTermsAtPoint_155 (tgt := 169) rfl ?_ ?_
          · refine jo_lv (lv' := [(0, .ref (adr w 40)), (1, .int i3), (2, .int i7)]) [1, 2, 3] rfl ?_
            exact jo_leaf (by rfl) (h169_11 σ6)
          · refine jo_aload_n (pc := 158) 1 rfl dX4_findTermsAtPoint_158 rfl ?_
            refine jo_getrE (pc := 159) ok_4_2 (ik_40 hw) rf_40_2 gw_155 dX4_findTermsAtPoint_159 ?_
            refine jo_iload_n (pc := 162) 3 rfl dX4_findTermsAtPoint_162 rfl ?_
            refine jo_aaldG (pc := 163) (z := 9) hw (ik_44 hw) (by decide) (t := 3) rfl rfl (by decide) dX4_findTermsAtPoint_163 (fun p16 hp16 => ?_)
            refine jo_iload_n (pc := 164) 2 rfl dX4_findTermsAtPoint_164 rfl ?_
            refine jo_lload_n (pc := 165) 0 rfl dX4_findTermsAtPoint_165 rfl ?_
            refine jo_cV_V_i (pc := 166) (μ' := mu_X9_append) (fx := f_X9_append σ6 p16 i3 v15) (As := [.int i3, .long v15]) (c_X9_append hw (hp16)) (ok_X9_append) (ltb rfl) (all3 gw_467 gw_468 gw_469) (hp16) (by decide) (q := (RX9, TX9, 4)) rfl rfl rfl rfl (Nat.le_of_ble_eq_true rfl) dX4_findTermsAtPoint_166 (fun σ17 => ?_)
            refine jo_lv (lv' := [(0, .ref (adr w 40)), (1, .int i3), (2, .int i7)]) [1, 2, 3] rfl ?_
            exact jo_leaf (by rfl) (h169_11 σ17)
        · refine jo_goto (pc := 124) dX4_findTermsAtPoint_124 (tgt := 169) rfl ?_
          exact jo_leaf (by rfl) (h169_11 σ6)
  · refine jo_lv (lv' := [(0, .ref (adr w 40)), (1, .int 0), (2, .int 0)]) [2, 1, 0] rfl ?_
    refine jo_loop (X := (Mem × Int32)) (fun (z20 : (Mem × Int32 × Int32)) => z20.1) (fun (z20 : (Mem × Int32 × Int32)) => [(0, .ref (adr w 40)), (1, .int z20.2.1), (2, .int z20.2.2)]) (body := (fun (z20 : (Mem × Int32 × Int32)) => l_X4_findTermsAtPoint_11 z20.1 z20.2.1 z20.2.2)) (fun F11_20 hF11_20 s => ?_) (σ1, 0, 0)
    obtain ⟨σ18, i19, i20⟩ := s
    show JO w mu_X4_findTermsAtPoint vV σ18 [(0, .ref (adr w 40)), (1, .int i19), (2, .int i20)] [] 11 (l_X4_findTermsAtPoint_11 σ18 i19 i20) _
    unfold l_X4_findTermsAtPoint_11
    refine jo_iload_n (pc := 11) 2 rfl dX4_findTermsAtPoint_11 rfl ?_
    refine jo_bipush (pc := 12) dX4_findTermsAtPoint_12 (ic_b_12) ?_
    refine jo_icmp_ge (pc := 14) dX4_findTermsAtPoint_14 (tgt := 80) rfl ?_ ?_
    · refine jo_lv (lv' := [(0, .ref (adr w 40)), (1, .int i19)]) [0, 1] rfl ?_
      exact jo_leaf (by rfl) (h80_3 (σ18, i19))
    · refine jo_aload_n (pc := 17) 0 rfl dX4_findTermsAtPoint_17 rfl ?_
      refine jo_getrE (pc := 18) ok_4_7 (ik_40 hw) rf_40_7 gw_163 dX4_findTermsAtPoint_18 ?_
      refine jo_iload_n (pc := 21) 2 rfl dX4_findTermsAtPoint_21 rfl ?_
      refine jo_aload_n (pc := 22) 0 rfl dX4_findTermsAtPoint_22 rfl ?_
      refine jo_getrE (pc := 23) ok_4_5 (ik_40 hw) rf_40_5 gw_161 dX4_findTermsAtPoint_23 ?_
      refine jo_iload_n (pc := 26) 2 rfl dX4_findTermsAtPoint_26 rfl ?_
      refine jo_iald (pc := 27) (ik_45 hw) dX4_findTermsAtPoint_27 (fun v21 => ?_)
      refine jo_i2l (pc := 28) dX4_findTermsAtPoint_28 ?_
      refine jo_cS_V_i (pc := 29) (μ' := mu_X4_put) (fx := f_X4_put σ18 46 i20 (Int32.toInt64 v21)) (As := [.ref (adr w 46), .int i20, .long (Int32.toInt64 v21)]) (c_X4_put hw (ik_46 hw)) (ok_X4_put) (ltb rfl) (all2 gw_459 gw_460) rfl rfl (Nat.le_of_ble_eq_true rfl) dX4_findTermsAtPoint_29 (fun σ22 => ?_)
      refine jo_iload_n (pc := 32) 1 rfl dX4_findTermsAtPoint_32 rfl ?_
      refine jo_iconst (pc := 33) dX4_findTermsAtPoint_33 (ic_i_2) ?_
      refine jo_ishl (pc := 34) dX4_findTermsAtPoint_34 ?_
      refine jo_aload_n (pc := 35) 0 rfl dX4_findTermsAtPoint_35 rfl ?_
      refine jo_getrE (pc := 36) ok_4_5 (ik_40 hw) rf_40_5 gw_161 dX4_findTermsAtPoint_36 ?_
      refine jo_iload_n (pc := 39) 2 rfl dX4_findTermsAtPoint_39 rfl ?_
      refine jo_iald (pc := 40) (ik_45 hw) dX4_findTermsAtPoint_40 (fun v23 => ?_)
      refine jo_iconst (pc := 41) dX4_findTermsAtPoint_41 (ic_i_3) ?_
      refine jo_iand (pc := 42) dX4_findTermsAtPoint_42 ?_
      refine jo_ior (pc := 43) dX4_findTermsAtPoint_43 ?_
      refine jo_bd ?_
      refine jo_istore_n (pc := 44) (lv' := [(1, .int ((i19 <<< (2 &&& 31)) ||| (v23 &&& 3))), (0, .ref (adr w 40)), (2, .int i20)]) dX4_findTermsAtPoint_44 rfl (ltb rfl) rfl ?_
      generalize ((i19 <<< (2 &&& 31)) ||| (v23 &&& 3)) = v24
      refine jo_iconst (pc := 45) dX4_findTermsAtPoint_45 (ic_i_0) ?_
      refine jo_istore_n (pc := 46) (lv' := [(3, .int 0), (1, .int v24), (0, .ref (adr w 40)), (2, .int i20)]) dX4_findTermsAtPoint_46 rfl (ltb rfl) rfl ?_
      refine jo_join1 (S := Mem) (fun (z25 : Mem) => z25) (fun (z25 : Mem) => [(1, .int v24), (0, .ref (adr w 40)), (2, .int i20)]) (fun (z25 : Mem) => []) 74 ?_ (fun h74_25 => ?_)
      · intro σ25
        show JO w mu_X4_findTermsAtPoint vV σ25 [(1, .int v24), (0, .ref (adr w 40)), (2, .int i20)] [] 74 (j_X4_findTermsAtPoint_74 i20 v24 σ25) _
        unfold j_X4_findTermsAtPoint_74
        refine jo_iinc (pc := 74) (lv' := [(2, .int (i20 + 1)), (1, .int v24), (0, .ref (adr w 40))]) 2 rfl dX4_findTermsAtPoint_74 (congrArg (fun z => i20 + z) (ic_i_1)) (ltb rfl) rfl ?_
        refine jo_goto (pc := 77) dX4_findTermsAtPoint_77 (tgt := 11) rfl ?_
        refine jo_lv (lv' := [(0, .ref (adr w 40)), (1, .int v24), (2, .int (i20 + 1))]) [2, 1, 0] rfl ?_
        exact jo_leaf (by rfl) (hF11_20 (σ25, v24, i20 + 1))
      · refine jo_lv (lv' := [(1, .int v24), (0, .ref (adr w 40)), (2, .int i20), (3, .int 0)]) [1, 2, 3, 0] rfl ?_
        refine jo_loop (X := Mem) (fun (z27 : (Mem × Int32)) => z27.1) (fun (z27 : (Mem × Int32)) => [(1, .int v24), (0, .ref (adr w 40)), (2, .int i20), (3, .int z27.2)]) (body := (fun (z27 : (Mem × Int32)) => l_X4_findTermsAtPoint_47 i20 z27.1 z27.2)) (fun F47_27 hF47_27 s => ?_) (σ22, 0)
        obtain ⟨σ26, i27⟩ := s
        show JO w mu_X4_findTermsAtPoint vV σ26 [(1, .int v24), (0, .ref (adr w 40)), (2, .int i20), (3, .int i27)] [] 47 (l_X4_findTermsAtPoint_47 i20 σ26 i27) _
        unfold l_X4_findTermsAtPoint_47
        refine jo_iload_n (pc := 47) 3 rfl dX4_findTermsAtPoint_47 rfl ?_
        refine jo_aload_n (pc := 48) 1 rfl dX4_findTermsAtPoint_48 rfl ?_
        refine jo_getrE (pc := 49) ok_4_5 (ik_40 hw) rf_40_5 gw_161 dX4_findTermsAtPoint_49 ?_
        refine jo_iload_n (pc := 52) 2 rfl dX4_findTermsAtPoint_52 rfl ?_
        refine jo_iald (pc := 53) (ik_45 hw) dX4_findTermsAtPoint_53 (fun v28 => ?_)
        refine jo_icmp_ge (pc := 54) dX4_findTermsAtPoint_54 (tgt := 74) rfl ?_ ?_
        · refine jo_lv (lv' := [(1, .int v24), (0, .ref (adr w 40)), (2, .int i20)]) [0, 1, 2] rfl ?_
          exact jo_leaf (by rfl) (h74_25 σ26)
        · refine jo_aload_n (pc := 57) 1 rfl dX4_findTermsAtPoint_57 rfl ?_
          refine jo_getrE (pc := 58) ok_4_1 (ik_40 hw) rf_40_1 gw_154 dX4_findTermsAtPoint_58 ?_
          refine jo_iload_n (pc := 61) 2 rfl dX4_findTermsAtPoint_61 rfl ?_
          refine jo_bipush (pc := 62) dX4_findTermsAtPoint_62 (ic_b_6) ?_
          refine jo_irem (pc := 64) dX4_findTermsAtPoint_64 ?_
          refine jo_cV_V_i (pc := 65) (μ' := mu_X2_add) (fx := f_X2_add σ26 (i20 - i20 / 6 * 6)) (As := [.int (i20 - i20 / 6 * 6)]) (c_X2_add hw) (ok_X2_add) (ltb rfl) (all3 gw_406 gw_407 gw_408) (ik_35 hw) (by decide) (q := (RX2, TX2, 7)) rfl rfl rfl rfl (Nat.le_of_ble_eq_true rfl) dX4_findTermsAtPoint_65 (fun σ29 => ?_)
          refine jo_iinc (pc := 68) (lv' := [(3, .int (i27 + 1)), (1, .int v24), (0, .ref (adr w 40)), (2, .int i20)]) 3 rfl dX4_findTermsAtPoint_68 (congrArg (fun z => i27 + z) (ic_i_1)) (ltb rfl) rfl ?_
          refine jo_goto (pc := 71) dX4_findTermsAtPoint_71 (tgt := 47) rfl ?_
          refine jo_lv (lv' := [(1, .int v24), (0, .ref (adr w 40)), (2, .int i20), (3, .int (i27 + 1))]) [1, 2, 3, 0] rfl ?_
          exact jo_leaf (by rfl) (hF47_27 (σ29, i27 + 1))
theorem c_X4_findTermsAtPoint {w : Wd} (hw : WOK w) {σ : Mem} : ∀ σ', f_X4_findTermsAtPoint σ = some σ' → MC w mu_X4_findTermsAtPoint none [.ref (adr w 40)] σ σ' := mc_ofV ok_X4_findTermsAtPoint rfl (Nat.le_of_ble_eq_true rfl) (t_X4_findTermsAtPoint hw)
abbrev mu_X4_findTerms : MD := (yX4_findTerms, cX4_findTerms, 2, none, 5)
theorem ok_X4_findTerms : MOK mu_X4_findTerms 0 := ⟨gw_445, gw_24, (by decide +kernel : plainFor yX4_findTerms = true), ⟨(by decide +kernel : yX4_findTerms.cls ≠ "java/lang/invoke/MethodHandle"), (by decide +kernel : yX4_findTerms.cls ≠ "java/lang/invoke/VarHandle"), (by decide +kernel : (parseMethodDescriptor yX4_findTerms.desc).map (fun d => d.parameters.length) = some 0)⟩, Nat.le_of_ble_eq_true rfl⟩
noncomputable def l_X4_findTerms_15 (σ3 : Mem) (i4 : Int32) : Option ((Mem × Int32) ⊕ Mem) :=
  if 455 ≤ i4 then (some (Sum.inr σ3)) else (bq (f_X4_goToNextPoint σ3) (fun (b5 : Bool) (σ6 : Mem) => if b5 then (f_X4_findTermsAtPoint σ6).bind (fun (σ7 : Mem) => some (Sum.inl (σ7, i4 + 1))) else some (Sum.inr σ6)))
noncomputable def f_X4_findTerms (σ : Mem) : Option Mem :=
  (f_J7_fill_53178 σ 45 0).bind (fun (σ1 : Mem) => pF σ1 40 6 0 (fun (σ2 : Mem) => loopO (fun (z4 : (Mem × Int32)) => l_X4_findTerms_15 z4.1 z4.2) (σ2, 0)))
theorem t_X4_findTerms {w : Wd} (hw : WOK w) {σ : Mem} : JO w mu_X4_findTerms vV σ [(0, .ref (adr w 40))] [] 0 (f_X4_findTerms σ) (fun z => some ((), z)) := by
  unfold f_X4_findTerms
  refine jo_aload_n (pc := 0) 0 rfl dX4_findTerms_0 rfl ?_
  refine jo_getrE (pc := 1) ok_4_5 (ik_40 hw) rf_40_5 gw_161 dX4_findTerms_1 ?_
  refine jo_iconst (pc := 4) dX4_findTerms_4 (ic_i_0) ?_
  refine jo_cS_V_i (pc := 5) (μ' := mu_J7_fill_53178) (fx := f_J7_fill_53178 σ 45 0) (As := [.ref (adr w 45), .int 0]) (c_J7_fill_53178 hw (ik_45 hw)) (ok_J7_fill_53178) (ltb rfl) (all2 gw_446 gw_367) rfl rfl (Nat.le_of_ble_eq_true rfl) dX4_findTerms_5 (fun σ1 => ?_)
  refine jo_aload_n (pc := 8) 0 rfl dX4_findTerms_8 rfl ?_
  refine jo_iconst (pc := 9) dX4_findTerms_9 (ic_i_0) ?_
  refine jo_putf (pc := 10) ok_4_6 okp_4_6 (ik_40 hw) gw_162 dX4_findTerms_10 (fun σ2 => ?_)
  refine jo_iconst (pc := 13) dX4_findTerms_13 (ic_i_0) ?_
  refine jo_istore_n (pc := 14) (lv' := [(1, .int 0), (0, .ref (adr w 40))]) dX4_findTerms_14 rfl (ltb rfl) rfl ?_
  refine jo_lv (lv' := [(0, .ref (adr w 40)), (1, .int 0)]) [1, 0] rfl ?_
  refine jo_loop (X := Mem) (fun (z4 : (Mem × Int32)) => z4.1) (fun (z4 : (Mem × Int32)) => [(0, .ref (adr w 40)), (1, .int z4.2)]) (body := (fun (z4 : (Mem × Int32)) => l_X4_findTerms_15 z4.1 z4.2)) (fun F15_4 hF15_4 s => ?_) (σ2, 0)
  obtain ⟨σ3, i4⟩ := s
  show JO w mu_X4_findTerms vV σ3 [(0, .ref (adr w 40)), (1, .int i4)] [] 15 (l_X4_findTerms_15 σ3 i4) _
  unfold l_X4_findTerms_15
  refine jo_iload_n (pc := 15) 1 rfl dX4_findTerms_15 rfl ?_
  refine jo_sipush (pc := 16) dX4_findTerms_16 (ic_s_455) ?_
  refine jo_icmp_ge (pc := 19) dX4_findTerms_19 (tgt := 39) rfl ?_ ?_
  · exact jo_return (pc := 39) rfl rfl dX4_findTerms_39
  · refine jo_aload_n (pc := 22) 0 rfl dX4_findTerms_22 rfl ?_
    refine jo_cV_Z_i (pc := 23) (μ' := mu_X4_goToNextPoint) (fx := f_X4_goToNextPoint σ3) (As := []) (c_X4_goToNextPoint hw) (ok_X4_goToNextPoint) (ltb rfl) (all3 gw_447 gw_449 gw_7) (ik_40 hw) (by decide) (q := (RX4, TX4, 9)) rfl rfl rfl rfl (Nat.le_of_ble_eq_true rfl) dX4_findTerms_23 (fun b5 σ6 => ?_)
    refine jo_ifz_eq (pc := 26) dX4_findTerms_26 (tgt := 39) rfl ?_ ?_
    · exact jo_return (pc := 39) rfl rfl dX4_findTerms_39
    · refine jo_aload_n (pc := 29) 0 rfl dX4_findTerms_29 rfl ?_
      refine jo_cV_V_i (pc := 30) (μ' := mu_X4_findTermsAtPoint) (fx := f_X4_findTermsAtPoint σ6) (As := []) (c_X4_findTermsAtPoint hw) (ok_X4_findTermsAtPoint) (ltb rfl) (all3 gw_455 gw_457 gw_8) (ik_40 hw) (by decide) (q := (RX4, TX4, 9)) rfl rfl rfl rfl (Nat.le_of_ble_eq_true rfl) dX4_findTerms_30 (fun σ7 => ?_)
      refine jo_iinc (pc := 33) (lv' := [(1, .int (i4 + 1)), (0, .ref (adr w 40))]) 1 rfl dX4_findTerms_33 (congrArg (fun z => i4 + z) (ic_i_1)) (ltb rfl) rfl ?_
      refine jo_goto (pc := 36) dX4_findTerms_36 (tgt := 15) rfl ?_
      refine jo_lv (lv' := [(0, .ref (adr w 40)), (1, .int (i4 + 1))]) [1, 0] rfl ?_
      exact jo_leaf (by rfl) (hF15_4 (σ7, i4 + 1))
theorem c_X4_findTerms {w : Wd} (hw : WOK w) {σ : Mem} : ∀ σ', f_X4_findTerms σ = some σ' → MC w mu_X4_findTerms none [.ref (adr w 40)] σ σ' := mc_ofV ok_X4_findTerms rfl (Nat.le_of_ble_eq_true rfl) (t_X4_findTerms hw)
abbrev mu_X4_follow : MD := (yX4_follow, cX4_follow, 3, none, 6)
theorem ok_X4_follow : MOK mu_X4_follow 1 := ⟨gw_382, gw_24, (by decide +kernel : plainFor yX4_follow = true), ⟨(by decide +kernel : yX4_follow.cls ≠ "java/lang/invoke/MethodHandle"), (by decide +kernel : yX4_follow.cls ≠ "java/lang/invoke/VarHandle"), (by decide +kernel : (parseMethodDescriptor yX4_follow.desc).map (fun d => d.parameters.length) = some 1)⟩, Nat.le_of_ble_eq_true rfl⟩
noncomputable def j_X4_follow_62 (σ8 : Mem) : Option Mem :=
  gZ σ8 40 3 (fun (b9 : Bool) => if b9 then (f_X4_findTerms σ8).bind (fun (σ10 : Mem) => some σ10) else some σ8)
noncomputable def l_X4_follow_40 (σ11 : Mem) (i12 : Int32) : Option ((Mem × Int32) ⊕ Mem) :=
  if 6 ≤ i12 then (some (Sum.inr σ11)) else (gR 44 i12 (fun (p13 : Nat) => pF σ11 p13 0 0 (fun (σ14 : Mem) => some (Sum.inl (σ14, i12 + 1)))))
noncomputable def f_X4_follow (σ : Mem) (x0 : Nat) : Option Mem :=
  (f_X6_isSame σ 41 x0).bind (fun (b1 : Bool) => if b1 then some σ else (f_X6_takeAll σ 41 x0).bind (fun (σ2 : Mem) => gF σ2 40 4 (fun (v3 : Int32) => pF σ2 40 4 (v3 + 1) (fun (σ4 : Mem) => bq (f_X4_areOverlapsAlike σ4) (fun (b5 : Bool) (σ6 : Mem) => pF σ6 40 3 (b2i b5) (fun (σ7 : Mem) => (loopO (fun (z12 : (Mem × Int32)) => l_X4_follow_40 z12.1 z12.2) (σ7, 0) : Option Mem).bind (fun (z8 : Mem) => j_X4_follow_62 z8)))))))
theorem t_X4_follow {w : Wd} (hw : WOK w) {σ : Mem} {x0 : Nat} (hx0 : isk w x0 6) : JO w mu_X4_follow vV σ [(0, .ref (adr w 40)), (1, .ref (adr w x0))] [] 0 (f_X4_follow σ x0) (fun z => some ((), z)) := by
  unfold f_X4_follow
  refine jo_aload_n (pc := 0) 0 rfl dX4_follow_0 rfl ?_
  refine jo_getrE (pc := 1) ok_4_0 (ik_40 hw) rf_40_0 gw_153 dX4_follow_1 ?_
  refine jo_aload_n (pc := 4) 1 rfl dX4_follow_4 rfl ?_
  refine jo_cV_Z_p (pc := 5) (μ' := mu_X6_isSame) (fx := f_X6_isSame σ 41 x0) (As := [.ref (adr w x0)]) (c_X6_isSame hw (ik_41 hw) (hx0)) (ok_X6_isSame) (ltb rfl) (all3 gw_383 gw_384 gw_385) (ik_41 hw) (by decide) (q := (RX6, TX6, 3)) rfl rfl rfl rfl (Nat.le_of_ble_eq_true rfl) dX4_follow_5 (fun b1 => ?_)
  refine jo_ifz_eq (pc := 8) dX4_follow_8 (tgt := 12) rfl ?_ ?_
  · refine jo_aload_n (pc := 12) 0 rfl dX4_follow_12 rfl ?_
    refine jo_getrE (pc := 13) ok_4_0 (ik_40 hw) rf_40_0 gw_153 dX4_follow_13 ?_
    refine jo_aload_n (pc := 16) 1 rfl dX4_follow_16 rfl ?_
    refine jo_cV_V_i (pc := 17) (μ' := mu_X6_takeAll) (fx := f_X6_takeAll σ 41 x0) (As := [.ref (adr w x0)]) (c_X6_takeAll hw (ik_41 hw) (hx0)) (ok_X6_takeAll) (ltb rfl) (all3 gw_387 gw_388 gw_389) (ik_41 hw) (by decide) (q := (RX6, TX6, 3)) rfl rfl rfl rfl (Nat.le_of_ble_eq_true rfl) dX4_follow_17 (fun σ2 => ?_)
    refine jo_aload_n (pc := 20) 0 rfl dX4_follow_20 rfl ?_
    refine jo_dup (pc := 21) dX4_follow_21 rfl ?_
    refine jo_getf (pc := 22) ok_4_4 (ik_40 hw) gw_160 dX4_follow_22 (fun v3 => ?_)
    refine jo_iconst (pc := 25) dX4_follow_25 (ic_i_1) ?_
    refine jo_iadd (pc := 26) dX4_follow_26 ?_
    refine jo_putf (pc := 27) ok_4_4 okp_4_4 (ik_40 hw) gw_160 dX4_follow_27 (fun σ4 => ?_)
    refine jo_aload_n (pc := 30) 0 rfl dX4_follow_30 rfl ?_
    refine jo_aload_n (pc := 31) 0 rfl dX4_follow_31 rfl ?_
    refine jo_cV_Z_i (pc := 32) (μ' := mu_X4_areOverlapsAlike) (fx := f_X4_areOverlapsAlike σ4) (As := []) (c_X4_areOverlapsAlike hw) (ok_X4_areOverlapsAlike) (ltb rfl) (all3 gw_394 gw_396 gw_0) (ik_40 hw) (by decide) (q := (RX4, TX4, 9)) rfl rfl rfl rfl (Nat.le_of_ble_eq_true rfl) dX4_follow_32 (fun b5 σ6 => ?_)
    refine jo_putzB (pc := 35) ok_4_3 okp_4_3 (ik_40 hw) gw_158 dX4_follow_35 (fun σ7 => ?_)
    refine jo_iconst (pc := 38) dX4_follow_38 (ic_i_0) ?_
    refine jo_istore_n (pc := 39) (lv' := [(2, .int 0), (0, .ref (adr w 40)), (1, .ref (adr w x0))]) dX4_follow_39 rfl (ltb rfl) rfl ?_
    refine jo_join1 (S := Mem) (fun (z8 : Mem) => z8) (fun (z8 : Mem) => [(0, .ref (adr w 40))]) (fun (z8 : Mem) => []) 62 ?_ (fun h62_8 => ?_)
    · intro σ8
      show JO w mu_X4_follow vV σ8 [(0, .ref (adr w 40))] [] 62 (j_X4_follow_62 σ8) _
      unfold j_X4_follow_62
      refine jo_aload_n (pc := 62) 0 rfl dX4_follow_62 rfl ?_
      refine jo_getz (pc := 63) ok_4_3 (ik_40 hw) gw_158 dX4_follow_63 (fun b9 => ?_)
      refine jo_ifz_eq (pc := 66) dX4_follow_66 (tgt := 73) rfl ?_ ?_
      · exact jo_return (pc := 73) rfl rfl dX4_follow_73
      · refine jo_aload_n (pc := 69) 0 rfl dX4_follow_69 rfl ?_
        refine jo_cV_V_i (pc := 70) (μ' := mu_X4_findTerms) (fx := f_X4_findTerms σ8) (As := []) (c_X4_findTerms hw) (ok_X4_findTerms) (ltb rfl) (all3 gw_442 gw_444 gw_6) (ik_40 hw) (by decide) (q := (RX4, TX4, 9)) rfl rfl rfl rfl (Nat.le_of_ble_eq_true rfl) dX4_follow_70 (fun σ10 => ?_)
        exact jo_return (pc := 73) rfl rfl dX4_follow_73
    · refine jo_lv (lv' := [(0, .ref (adr w 40)), (2, .int 0)]) [1, 0] rfl ?_
      refine jo_loop (X := Mem) (fun (z12 : (Mem × Int32)) => z12.1) (fun (z12 : (Mem × Int32)) => [(0, .ref (adr w 40)), (2, .int z12.2)]) (body := (fun (z12 : (Mem × Int32)) => l_X4_follow_40 z12.1 z12.2)) (fun F40_12 hF40_12 s => ?_) (σ7, 0)
      obtain ⟨σ11, i12⟩ := s
      show JO w mu_X4_follow vV σ11 [(0, .ref (adr w 40)), (2, .int i12)] [] 40 (l_X4_follow_40 σ11 i12) _
      unfold l_X4_follow_40
      refine jo_iload_n (pc := 40) 1 rfl dX4_follow_40 rfl ?_
      refine jo_bipush (pc := 41) dX4_follow_41 (ic_b_6) ?_
      refine jo_icmp_ge (pc := 43) dX4_follow_43 (tgt := 62) rfl ?_ ?_
      · refine jo_lv (lv' := [(0, .ref (adr w 40))]) [0] rfl ?_
        exact jo_leaf (by rfl) (h62_8 σ11)
      · refine jo_aload_n (pc := 46) 0 rfl dX4_follow_46 rfl ?_
        refine jo_getrE (pc := 47) ok_4_2 (ik_40 hw) rf_40_2 gw_155 dX4_follow_47 ?_
        refine jo_iload_n (pc := 50) 1 rfl dX4_follow_50 rfl ?_
        refine jo_aaldG (pc := 51) (z := 9) hw (ik_44 hw) (by decide) (t := 3) rfl rfl (by decide) dX4_follow_51 (fun p13 hp13 => ?_)
        refine jo_iconst (pc := 52) dX4_follow_52 (ic_i_0) ?_
        refine jo_putf (pc := 53) ok_9_0 okp_9_0 (hp13) gw_139 dX4_follow_53 (fun σ14 => ?_)
        refine jo_iinc (pc := 56) (lv' := [(2, .int (i12 + 1)), (0, .ref (adr w 40))]) 1 rfl dX4_follow_56 (congrArg (fun z => i12 + z) (ic_i_1)) (ltb rfl) rfl ?_
        refine jo_goto (pc := 59) dX4_follow_59 (tgt := 40) rfl ?_
        refine jo_lv (lv' := [(0, .ref (adr w 40)), (2, .int (i12 + 1))]) [1, 0] rfl ?_
        exact jo_leaf (by rfl) (hF40_12 (σ14, i12 + 1))
  · exact jo_return (pc := 11) rfl rfl dX4_follow_11
theorem c_X4_follow {w : Wd} (hw : WOK w) {σ : Mem} {x0 : Nat} (hx0 : isk w x0 6) : ∀ σ', f_X4_follow σ x0 = some σ' → MC w mu_X4_follow none [.ref (adr w 40), .ref (adr w x0)] σ σ' := mc_ofV ok_X4_follow rfl (Nat.le_of_ble_eq_true rfl) (t_X4_follow hw hx0)
abbrev mu_X4_termCount : MD := (yX4_termCount, cX4_termCount, 3, some .int, 0)
theorem ok_X4_termCount : MOK mu_X4_termCount 0 := ⟨gw_660, gw_24, (by decide +kernel : plainFor yX4_termCount = true), ⟨(by decide +kernel : yX4_termCount.cls ≠ "java/lang/invoke/MethodHandle"), (by decide +kernel : yX4_termCount.cls ≠ "java/lang/invoke/VarHandle"), (by decide +kernel : (parseMethodDescriptor yX4_termCount.desc).map (fun d => d.parameters.length) = some 0)⟩, Nat.le_of_ble_eq_true rfl⟩
noncomputable def l_X4_termCount_4 (σ : Mem) (i1 : Int32) (i2 : Int32) : Option ((Int32 × Int32) ⊕ Int32) :=
  if 6 ≤ i2 then (some (Sum.inr i1)) else (gR 44 i2 (fun (p3 : Nat) => gF σ p3 0 (fun (v4 : Int32) => bd (i1 + v4) (fun (v5 : Int32) => some (Sum.inl (v5, i2 + 1))))))
noncomputable def f_X4_termCount (σ : Mem) : Option Int32 :=
  loopO (fun (z2 : (Int32 × Int32)) => l_X4_termCount_4 σ z2.1 z2.2) (0, 0)
theorem t_X4_termCount {w : Wd} (hw : WOK w) {σ : Mem} : JO w mu_X4_termCount vI σ [(0, .ref (adr w 40))] [] 0 (f_X4_termCount σ) (fun z => some (z, σ)) := by
  unfold f_X4_termCount
  refine jo_iconst (pc := 0) dX4_termCount_0 (ic_i_0) ?_
  refine jo_istore_n (pc := 1) (lv' := [(1, .int 0), (0, .ref (adr w 40))]) dX4_termCount_1 rfl (ltb rfl) rfl ?_
  refine jo_iconst (pc := 2) dX4_termCount_2 (ic_i_0) ?_
  refine jo_istore_n (pc := 3) (lv' := [(2, .int 0), (1, .int 0), (0, .ref (adr w 40))]) dX4_termCount_3 rfl (ltb rfl) rfl ?_
  refine jo_lv (lv' := [(0, .ref (adr w 40)), (1, .int 0), (2, .int 0)]) [2, 1, 0] rfl ?_
  refine jo_loop (X := Int32) (fun (z2 : (Int32 × Int32)) => σ) (fun (z2 : (Int32 × Int32)) => [(0, .ref (adr w 40)), (1, .int z2.1), (2, .int z2.2)]) (body := (fun (z2 : (Int32 × Int32)) => l_X4_termCount_4 σ z2.1 z2.2)) (fun F4_2 hF4_2 s => ?_) (0, 0)
  obtain ⟨i1, i2⟩ := s
  show JO w mu_X4_termCount vI σ [(0, .ref (adr w 40)), (1, .int i1), (2, .int i2)] [] 4 (l_X4_termCount_4 σ i1 i2) _
  unfold l_X4_termCount_4
  refine jo_iload_n (pc := 4) 2 rfl dX4_termCount_4 rfl ?_
  refine jo_bipush (pc := 5) dX4_termCount_5 (ic_b_6) ?_
  refine jo_icmp_ge (pc := 7) dX4_termCount_7 (tgt := 28) rfl ?_ ?_
  · refine jo_iload_n (pc := 28) 1 rfl dX4_termCount_28 rfl ?_
    exact jo_ireturn (pc := 29) rfl rfl dX4_termCount_29
  · refine jo_iload_n (pc := 10) 1 rfl dX4_termCount_10 rfl ?_
    refine jo_aload_n (pc := 11) 0 rfl dX4_termCount_11 rfl ?_
    refine jo_getrE (pc := 12) ok_4_2 (ik_40 hw) rf_40_2 gw_155 dX4_termCount_12 ?_
    refine jo_iload_n (pc := 15) 2 rfl dX4_termCount_15 rfl ?_
    refine jo_aaldG (pc := 16) (z := 9) hw (ik_44 hw) (by decide) (t := 3) rfl rfl (by decide) dX4_termCount_16 (fun p3 hp3 => ?_)
    refine jo_getf (pc := 17) ok_9_0 (hp3) gw_139 dX4_termCount_17 (fun v4 => ?_)
    refine jo_iadd (pc := 20) dX4_termCount_20 ?_
    refine jo_bd ?_
    refine jo_istore_n (pc := 21) (lv' := [(1, .int (i1 + v4)), (0, .ref (adr w 40)), (2, .int i2)]) dX4_termCount_21 rfl (ltb rfl) rfl ?_
    generalize (i1 + v4) = v5
    refine jo_iinc (pc := 22) (lv' := [(2, .int (i2 + 1)), (1, .int v5), (0, .ref (adr w 40))]) 2 rfl dX4_termCount_22 (congrArg (fun z => i2 + z) (ic_i_1)) (ltb rfl) rfl ?_
    refine jo_goto (pc := 25) dX4_termCount_25 (tgt := 4) rfl ?_
    refine jo_lv (lv' := [(0, .ref (adr w 40)), (1, .int v5), (2, .int (i2 + 1))]) [2, 1, 0] rfl ?_
    exact jo_leaf (by rfl) (hF4_2 (v5, i2 + 1))
theorem c_X4_termCount {w : Wd} (hw : WOK w) {σ : Mem} : ∀ r, f_X4_termCount σ = some r → MC w mu_X4_termCount (vI r) [.ref (adr w 40)] σ σ := mc_ofP ok_X4_termCount rfl (Nat.le_of_ble_eq_true rfl) (t_X4_termCount hw)
abbrev mu_X6_areWeights : MD := (yX6_areWeights, cX6_areWeights, 5, some .boolean, 0)
theorem ok_X6_areWeights : MOK mu_X6_areWeights 2 := ⟨gw_688, gw_22, (by decide +kernel : plainFor yX6_areWeights = true), ⟨(by decide +kernel : yX6_areWeights.cls ≠ "java/lang/invoke/MethodHandle"), (by decide +kernel : yX6_areWeights.cls ≠ "java/lang/invoke/VarHandle"), (by decide +kernel : (parseMethodDescriptor yX6_areWeights.desc).map (fun d => d.parameters.length) = some 2)⟩, Nat.le_of_ble_eq_true rfl⟩
noncomputable def l_X6_areWeights_30 (x0 : Int32) (x1 : Int32) (i1 : Int32) (i2 : Int32) : Option ((Int32 × Int32) ⊕ Bool) :=
  if x0 ≤ i2 then (some (Sum.inr true)) else (bd ((x1 >>> ((2 * i2) &&& 31)) &&& 3) (fun (v3 : Int32) => if i1 ≤ v3 then (some (Sum.inl (v3, i2 + 1))) else (some (Sum.inr false))))
noncomputable def f_X6_areWeights (σ : Mem) (x0 : Int32) (x1 : Int32) : Option Bool :=
  if x0 < 1 then (some false) else (if 6 < x0 then (some false) else (if x1 < 0 then (some false) else (if x1 < (1 <<< ((2 * x0) &&& 31)) then (loopO (fun (z2 : (Int32 × Int32)) => l_X6_areWeights_30 x0 x1 z2.1 z2.2) (1, 0)) else (some false))))
theorem t_X6_areWeights {w : Wd} (hw : WOK w) {σ : Mem} {x0 : Int32} {x1 : Int32} : JO w mu_X6_areWeights vB σ [(0, .int x0), (1, .int x1)] [] 0 (f_X6_areWeights σ x0 x1) (fun z => some (z, σ)) := by
  unfold f_X6_areWeights
  refine jo_iload_n (pc := 0) 0 rfl dX6_areWeights_0 rfl ?_
  refine jo_iconst (pc := 1) dX6_areWeights_1 (ic_i_1) ?_
  refine jo_icmp_lt (pc := 2) dX6_areWeights_2 (tgt := 24) rfl ?_ ?_
  · refine jo_iconst (pc := 24) dX6_areWeights_24 (ic_i_0) ?_
    exact jo_breturn (pc := 25) (b := false) rfl rfl dX6_areWeights_25
  · refine jo_iload_n (pc := 5) 0 rfl dX6_areWeights_5 rfl ?_
    refine jo_bipush (pc := 6) dX6_areWeights_6 (ic_b_6) ?_
    refine jo_icmp_gt (pc := 8) dX6_areWeights_8 (tgt := 24) rfl ?_ ?_
    · refine jo_iconst (pc := 24) dX6_areWeights_24 (ic_i_0) ?_
      exact jo_breturn (pc := 25) (b := false) rfl rfl dX6_areWeights_25
    · refine jo_iload_n (pc := 11) 1 rfl dX6_areWeights_11 rfl ?_
      refine jo_if_lt (pc := 12) dX6_areWeights_12 (tgt := 24) rfl ?_ ?_
      · refine jo_iconst (pc := 24) dX6_areWeights_24 (ic_i_0) ?_
        exact jo_breturn (pc := 25) (b := false) rfl rfl dX6_areWeights_25
      · refine jo_iload_n (pc := 15) 1 rfl dX6_areWeights_15 rfl ?_
        refine jo_iconst (pc := 16) dX6_areWeights_16 (ic_i_1) ?_
        refine jo_iconst (pc := 17) dX6_areWeights_17 (ic_i_2) ?_
        refine jo_iload_n (pc := 18) 0 rfl dX6_areWeights_18 rfl ?_
        refine jo_imul (pc := 19) dX6_areWeights_19 ?_
        refine jo_ishl (pc := 20) dX6_areWeights_20 ?_
        refine jo_icmp_lt (pc := 21) dX6_areWeights_21 (tgt := 26) rfl ?_ ?_
        · refine jo_iconst (pc := 26) dX6_areWeights_26 (ic_i_1) ?_
          refine jo_istore_n (pc := 27) (lv' := [(2, .int 1), (0, .int x0), (1, .int x1)]) dX6_areWeights_27 rfl (ltb rfl) rfl ?_
          refine jo_iconst (pc := 28) dX6_areWeights_28 (ic_i_0) ?_
          refine jo_istore_n (pc := 29) (lv' := [(3, .int 0), (2, .int 1), (0, .int x0), (1, .int x1)]) dX6_areWeights_29 rfl (ltb rfl) rfl ?_
          refine jo_lv (lv' := [(0, .int x0), (1, .int x1), (2, .int 1), (3, .int 0)]) [2, 3, 1, 0] rfl ?_
          refine jo_loop (X := Bool) (fun (z2 : (Int32 × Int32)) => σ) (fun (z2 : (Int32 × Int32)) => [(0, .int x0), (1, .int x1), (2, .int z2.1), (3, .int z2.2)]) (body := (fun (z2 : (Int32 × Int32)) => l_X6_areWeights_30 x0 x1 z2.1 z2.2)) (fun F30_2 hF30_2 s => ?_) (1, 0)
          obtain ⟨i1, i2⟩ := s
          show JO w mu_X6_areWeights vB σ [(0, .int x0), (1, .int x1), (2, .int i1), (3, .int i2)] [] 30 (l_X6_areWeights_30 x0 x1 i1 i2) _
          unfold l_X6_areWeights_30
          refine jo_iload_n (pc := 30) 3 rfl dX6_areWeights_30 rfl ?_
          refine jo_iload_n (pc := 31) 0 rfl dX6_areWeights_31 rfl ?_
          refine jo_icmp_ge (pc := 32) dX6_areWeights_32 (tgt := 61) rfl ?_ ?_
          · refine jo_iconst (pc := 61) dX6_areWeights_61 (ic_i_1) ?_
            exact jo_breturn (pc := 62) (b := true) rfl rfl dX6_areWeights_62
          · refine jo_iload_n (pc := 35) 1 rfl dX6_areWeights_35 rfl ?_
            refine jo_iconst (pc := 36) dX6_areWeights_36 (ic_i_2) ?_
            refine jo_iload_n (pc := 37) 3 rfl dX6_areWeights_37 rfl ?_
            refine jo_imul (pc := 38) dX6_areWeights_38 ?_
            refine jo_ishr (pc := 39) dX6_areWeights_39 ?_
            refine jo_iconst (pc := 40) dX6_areWeights_40 (ic_i_3) ?_
            refine jo_iand (pc := 41) dX6_areWeights_41 ?_
            refine jo_bd ?_
            refine jo_istore (pc := 42) (lv' := [(4, .int ((x1 >>> ((2 * i2) &&& 31)) &&& 3)), (0, .int x0), (1, .int x1), (2, .int i1), (3, .int i2)]) dX6_areWeights_42 (ltb rfl) rfl ?_
            generalize ((x1 >>> ((2 * i2) &&& 31)) &&& 3) = v3
            refine jo_iload (pc := 44) 0 rfl dX6_areWeights_44 ?_
            refine jo_iload_n (pc := 46) 3 rfl dX6_areWeights_46 rfl ?_
            refine jo_icmp_ge (pc := 47) dX6_areWeights_47 (tgt := 52) rfl ?_ ?_
            · refine jo_iload (pc := 52) 0 rfl dX6_areWeights_52 ?_
              refine jo_istore_n (pc := 54) (lv' := [(2, .int v3), (4, .int v3), (0, .int x0), (1, .int x1), (3, .int i2)]) dX6_areWeights_54 rfl (ltb rfl) rfl ?_
              refine jo_iinc (pc := 55) (lv' := [(3, .int (i2 + 1)), (2, .int v3), (4, .int v3), (0, .int x0), (1, .int x1)]) 4 rfl dX6_areWeights_55 (congrArg (fun z => i2 + z) (ic_i_1)) (ltb rfl) rfl ?_
              refine jo_goto (pc := 58) dX6_areWeights_58 (tgt := 30) rfl ?_
              refine jo_lv (lv' := [(0, .int x0), (1, .int x1), (2, .int v3), (3, .int (i2 + 1))]) [3, 4, 1, 0] rfl ?_
              exact jo_leaf (by rfl) (hF30_2 (v3, i2 + 1))
            · refine jo_iconst (pc := 50) dX6_areWeights_50 (ic_i_0) ?_
              exact jo_breturn (pc := 51) (b := false) rfl rfl dX6_areWeights_51
        · refine jo_iconst (pc := 24) dX6_areWeights_24 (ic_i_0) ?_
          exact jo_breturn (pc := 25) (b := false) rfl rfl dX6_areWeights_25
theorem c_X6_areWeights {w : Wd} (hw : WOK w) {σ : Mem} {x0 : Int32} {x1 : Int32} : ∀ r, f_X6_areWeights σ x0 x1 = some r → MC w mu_X6_areWeights (vB r) [.int x0, .int x1] σ σ := mc_ofP ok_X6_areWeights rfl (Nat.le_of_ble_eq_true rfl) (t_X6_areWeights hw)
abbrev mu_X6_reset : MD := (yX6_reset, cX6_reset, 4, none, 1)
theorem ok_X6_reset : MOK mu_X6_reset 2 := ⟨gw_365, gw_22, (by decide +kernel : plainFor yX6_reset = true), ⟨(by decide +kernel : yX6_reset.cls ≠ "java/lang/invoke/MethodHandle"), (by decide +kernel : yX6_reset.cls ≠ "java/lang/invoke/VarHandle"), (by decide +kernel : (parseMethodDescriptor yX6_reset.desc).map (fun d => d.parameters.length) = some 2)⟩, Nat.le_of_ble_eq_true rfl⟩
noncomputable def j_X6_reset_32 (a : Nat) (σ2 : Mem) : Option Mem :=
  (f_J7_fill_53178 σ2 (rf a 2) 0).bind (fun (σ3 : Mem) => some σ3)
noncomputable def l_X6_reset_7 (a : Nat) (x1 : Int32) (σ4 : Mem) (i5 : Int32) : Option ((Mem × Int32) ⊕ Mem) :=
  if 6 ≤ i5 then (some (Sum.inr σ4)) else (pI σ4 (rf a 1) i5 ((x1 >>> ((2 * i5) &&& 31)) &&& 3) (fun (σ6 : Mem) => some (Sum.inl (σ6, i5 + 1))))
noncomputable def f_X6_reset (σ : Mem) (a : Nat) (x0 : Int32) (x1 : Int32) : Option Mem :=
  pF σ a 0 x0 (fun (σ1 : Mem) => (loopO (fun (z5 : (Mem × Int32)) => l_X6_reset_7 a x1 z5.1 z5.2) (σ1, 0) : Option Mem).bind (fun (z2 : Mem) => j_X6_reset_32 a z2))
theorem t_X6_reset {w : Wd} (hw : WOK w) {σ : Mem} {a : Nat} {x0 : Int32} {x1 : Int32} (ha : isk w a 6) : JO w mu_X6_reset vV σ [(0, .ref (adr w a)), (1, .int x0), (2, .int x1)] [] 0 (f_X6_reset σ a x0 x1) (fun z => some ((), z)) := by
  unfold f_X6_reset
  refine jo_aload_n (pc := 0) 0 rfl dX6_reset_0 rfl ?_
  refine jo_iload_n (pc := 1) 1 rfl dX6_reset_1 rfl ?_
  refine jo_putf (pc := 2) ok_6_0 okp_6_0 (ha) gw_61 dX6_reset_2 (fun σ1 => ?_)
  refine jo_iconst (pc := 5) dX6_reset_5 (ic_i_0) ?_
  refine jo_istore_n (pc := 6) (lv' := [(3, .int 0), (0, .ref (adr w a)), (1, .int x0), (2, .int x1)]) dX6_reset_6 rfl (ltb rfl) rfl ?_
  refine jo_join1 (S := Mem) (fun (z2 : Mem) => z2) (fun (z2 : Mem) => [(0, .ref (adr w a))]) (fun (z2 : Mem) => []) 32 ?_ (fun h32_2 => ?_)
  · intro σ2
    show JO w mu_X6_reset vV σ2 [(0, .ref (adr w a))] [] 32 (j_X6_reset_32 a σ2) _
    unfold j_X6_reset_32
    refine jo_aload_n (pc := 32) 0 rfl dX6_reset_32 rfl ?_
    refine jo_getr (pc := 33) ok_6_2 (ha) gw_67 dX6_reset_33 ?_
    refine jo_iconst (pc := 36) dX6_reset_36 (ic_i_0) ?_
    refine jo_cS_V_i (pc := 37) (μ' := mu_J7_fill_53178) (fx := f_J7_fill_53178 σ2 (rf a 2) 0) (As := [.ref (adr w (rf a 2)), .int 0]) (c_J7_fill_53178 hw (wf_6_2 hw (ha))) (ok_J7_fill_53178) (ltb rfl) (all2 gw_366 gw_367) rfl rfl (Nat.le_of_ble_eq_true rfl) dX6_reset_37 (fun σ3 => ?_)
    exact jo_return (pc := 40) rfl rfl dX6_reset_40
  · refine jo_lv (lv' := [(0, .ref (adr w a)), (2, .int x1), (3, .int 0)]) [1, 3, 0] rfl ?_
    refine jo_loop (X := Mem) (fun (z5 : (Mem × Int32)) => z5.1) (fun (z5 : (Mem × Int32)) => [(0, .ref (adr w a)), (2, .int x1), (3, .int z5.2)]) (body := (fun (z5 : (Mem × Int32)) => l_X6_reset_7 a x1 z5.1 z5.2)) (fun F7_5 hF7_5 s => ?_) (σ1, 0)
    obtain ⟨σ4, i5⟩ := s
    show JO w mu_X6_reset vV σ4 [(0, .ref (adr w a)), (2, .int x1), (3, .int i5)] [] 7 (l_X6_reset_7 a x1 σ4 i5) _
    unfold l_X6_reset_7
    refine jo_iload_n (pc := 7) 2 rfl dX6_reset_7 rfl ?_
    refine jo_bipush (pc := 8) dX6_reset_8 (ic_b_6) ?_
    refine jo_icmp_ge (pc := 10) dX6_reset_10 (tgt := 32) rfl ?_ ?_
    · refine jo_lv (lv' := [(0, .ref (adr w a))]) [0] rfl ?_
      exact jo_leaf (by rfl) (h32_2 σ4)
    · refine jo_aload_n (pc := 13) 0 rfl dX6_reset_13 rfl ?_
      refine jo_getr (pc := 14) ok_6_1 (ha) gw_65 dX6_reset_14 ?_
      refine jo_iload_n (pc := 17) 2 rfl dX6_reset_17 rfl ?_
      refine jo_iload_n (pc := 18) 1 rfl dX6_reset_18 rfl ?_
      refine jo_iconst (pc := 19) dX6_reset_19 (ic_i_2) ?_
      refine jo_iload_n (pc := 20) 2 rfl dX6_reset_20 rfl ?_
      refine jo_imul (pc := 21) dX6_reset_21 ?_
      refine jo_ishr (pc := 22) dX6_reset_22 ?_
      refine jo_iconst (pc := 23) dX6_reset_23 (ic_i_3) ?_
      refine jo_iand (pc := 24) dX6_reset_24 ?_
      refine jo_iast (pc := 25) (wf_6_1 hw (ha)) dX6_reset_25 (fun σ6 => ?_)
      refine jo_iinc (pc := 26) (lv' := [(3, .int (i5 + 1)), (0, .ref (adr w a)), (2, .int x1)]) 2 rfl dX6_reset_26 (congrArg (fun z => i5 + z) (ic_i_1)) (ltb rfl) rfl ?_
      refine jo_goto (pc := 29) dX6_reset_29 (tgt := 7) rfl ?_
      refine jo_lv (lv' := [(0, .ref (adr w a)), (2, .int x1), (3, .int (i5 + 1))]) [1, 2, 0] rfl ?_
      exact jo_leaf (by rfl) (hF7_5 (σ6, i5 + 1))
theorem c_X6_reset {w : Wd} (hw : WOK w) {σ : Mem} {a : Nat} {x0 : Int32} {x1 : Int32} (ha : isk w a 6) : ∀ σ', f_X6_reset σ a x0 x1 = some σ' → MC w mu_X6_reset none [.ref (adr w a), .int x0, .int x1] σ σ' := mc_ofV ok_X6_reset rfl (Nat.le_of_ble_eq_true rfl) (t_X6_reset hw ha)
abbrev mu_X6_write : MD := (yX6_write, cX6_write, 5, none, 1)
theorem ok_X6_write : MOK mu_X6_write 4 := ⟨gw_374, gw_22, (by decide +kernel : plainFor yX6_write = true), ⟨(by decide +kernel : yX6_write.cls ≠ "java/lang/invoke/MethodHandle"), (by decide +kernel : yX6_write.cls ≠ "java/lang/invoke/VarHandle"), (by decide +kernel : (parseMethodDescriptor yX6_write.desc).map (fun d => d.parameters.length) = some 4)⟩, Nat.le_of_ble_eq_true rfl⟩
noncomputable def f_X6_write (σ : Mem) (a : Nat) (x0 : Int32) (x1 : Int32) (x2 : Int32) (x3 : Int32) : Option Mem :=
  (f_X6_isTail σ a x0 x1 x2).bind (fun (b1 : Bool) => if b1 then pI σ (rf a 2) ((((x0 * 6) + x1) * 6) + x2) x3 (fun (σ2 : Mem) => some σ2) else some σ)
theorem t_X6_write {w : Wd} (hw : WOK w) {σ : Mem} {a : Nat} {x0 : Int32} {x1 : Int32} {x2 : Int32} {x3 : Int32} (ha : isk w a 6) : JO w mu_X6_write vV σ [(0, .ref (adr w a)), (1, .int x0), (2, .int x1), (3, .int x2), (4, .int x3)] [] 0 (f_X6_write σ a x0 x1 x2 x3) (fun z => some ((), z)) := by
  unfold f_X6_write
  refine jo_aload_n (pc := 0) 0 rfl dX6_write_0 rfl ?_
  refine jo_iload_n (pc := 1) 1 rfl dX6_write_1 rfl ?_
  refine jo_iload_n (pc := 2) 2 rfl dX6_write_2 rfl ?_
  refine jo_iload_n (pc := 3) 3 rfl dX6_write_3 rfl ?_
  refine jo_cV_Z_p (pc := 4) (μ' := mu_X6_isTail) (fx := f_X6_isTail σ a x0 x1 x2) (As := [.int x0, .int x1, .int x2]) (c_X6_isTail hw (ha)) (ok_X6_isTail) (ltb rfl) (all3 gw_375 gw_376 gw_377) (ha) (by decide) (q := (RX6, TX6, 3)) rfl rfl rfl rfl (Nat.le_of_ble_eq_true rfl) dX6_write_4 (fun b1 => ?_)
  refine jo_ifz_eq (pc := 7) dX6_write_7 (tgt := 28) rfl ?_ ?_
  · exact jo_return (pc := 28) rfl rfl dX6_write_28
  · refine jo_aload_n (pc := 10) 0 rfl dX6_write_10 rfl ?_
    refine jo_getr (pc := 11) ok_6_2 (ha) gw_67 dX6_write_11 ?_
    refine jo_iload_n (pc := 14) 1 rfl dX6_write_14 rfl ?_
    refine jo_bipush (pc := 15) dX6_write_15 (ic_b_6) ?_
    refine jo_imul (pc := 17) dX6_write_17 ?_
    refine jo_iload_n (pc := 18) 2 rfl dX6_write_18 rfl ?_
    refine jo_iadd (pc := 19) dX6_write_19 ?_
    refine jo_bipush (pc := 20) dX6_write_20 (ic_b_6) ?_
    refine jo_imul (pc := 22) dX6_write_22 ?_
    refine jo_iload_n (pc := 23) 3 rfl dX6_write_23 rfl ?_
    refine jo_iadd (pc := 24) dX6_write_24 ?_
    refine jo_iload (pc := 25) 4 rfl dX6_write_25 ?_
    refine jo_iast (pc := 27) (wf_6_2 hw (ha)) dX6_write_27 (fun σ2 => ?_)
    exact jo_return (pc := 28) rfl rfl dX6_write_28
theorem c_X6_write {w : Wd} (hw : WOK w) {σ : Mem} {a : Nat} {x0 : Int32} {x1 : Int32} {x2 : Int32} {x3 : Int32} (ha : isk w a 6) : ∀ σ', f_X6_write σ a x0 x1 x2 x3 = some σ' → MC w mu_X6_write none [.ref (adr w a), .int x0, .int x1, .int x2, .int x3] σ σ' := mc_ofV ok_X6_write rfl (Nat.le_of_ble_eq_true rfl) (t_X6_write hw ha)
abbrev mu_X6_takeKind : MD := (yX6_takeKind, cX6_takeKind, 3, none, 2)
theorem ok_X6_takeKind : MOK mu_X6_takeKind 1 := ⟨gw_357, gw_22, (by decide +kernel : plainFor yX6_takeKind = true), ⟨(by decide +kernel : yX6_takeKind.cls ≠ "java/lang/invoke/MethodHandle"), (by decide +kernel : yX6_takeKind.cls ≠ "java/lang/invoke/VarHandle"), (by decide +kernel : (parseMethodDescriptor yX6_takeKind.desc).map (fun d => d.parameters.length) = some 1)⟩, Nat.le_of_ble_eq_true rfl⟩
noncomputable def j_X6_takeKind_88 (i5 : Int32) (σ7 : Mem) : Option ((Mem × Int32) ⊕ Mem) :=
  some (Sum.inl (σ7, i5 + 4))
noncomputable def l_X6_takeKind_37 (a : Nat) (x0 : Int32) (σ4 : Mem) (i5 : Int32) : Option ((Mem × Int32) ⊕ Mem) :=
  if (Int32.ofNat (tabL 2)) ≤ (i5 + 3) then (some (Sum.inr σ4)) else (gT 2 i5 (fun (v6 : Int32) => (if v6 = x0 then (gT 2 (i5 + 1) (fun (v8 : Int32) => gT 2 (i5 + 2) (fun (v9 : Int32) => gT 2 (i5 + 3) (fun (v10 : Int32) => (f_X6_write σ4 a (v8 - 1) (v9 - 1) (v10 - 1) 1).bind (fun (σ11 : Mem) => some σ11))))) else (some σ4) : Option Mem).bind (fun (z7 : Mem) => j_X6_takeKind_88 i5 z7)))
noncomputable def f_X6_takeKind (σ : Mem) (a : Nat) (x0 : Int32) : Option Mem :=
  if x0 < 0 then (some σ) else (if (Int32.ofNat (tabL 0)) ≤ x0 then (some σ) else (if x0 < (Int32.ofNat (tabL 1)) then (gT 0 x0 (fun (v1 : Int32) => gT 1 x0 (fun (v2 : Int32) => (f_X6_reset σ a v1 v2).bind (fun (σ3 : Mem) => loopO (fun (z5 : (Mem × Int32)) => l_X6_takeKind_37 a x0 z5.1 z5.2) (σ3, 0))))) else (some σ)))
theorem t_X6_takeKind {w : Wd} (hw : WOK w) {σ : Mem} {a : Nat} {x0 : Int32} (ha : isk w a 6) : JO w mu_X6_takeKind vV σ [(0, .ref (adr w a)), (1, .int x0)] [] 0 (f_X6_takeKind σ a x0) (fun z => some ((), z)) := by
  unfold f_X6_takeKind
  refine jo_iload_n (pc := 0) 1 rfl dX6_takeKind_0 rfl ?_
  refine jo_if_lt (pc := 1) dX6_takeKind_1 (tgt := 20) rfl ?_ ?_
  · exact jo_return (pc := 20) rfl rfl dX6_takeKind_20
  · refine jo_iload_n (pc := 4) 1 rfl dX6_takeKind_4 rfl ?_
    refine jo_getsN (pc := 5) (k := 0) (by decide) (by decide +kernel) dX6_takeKind_5 ?_
    refine jo_tablen (pc := 8) (by decide) dX6_takeKind_8 ?_
    refine jo_icmp_ge (pc := 9) dX6_takeKind_9 (tgt := 20) rfl ?_ ?_
    · exact jo_return (pc := 20) rfl rfl dX6_takeKind_20
    · refine jo_iload_n (pc := 12) 1 rfl dX6_takeKind_12 rfl ?_
      refine jo_getsN (pc := 13) (k := 1) (by decide) (by decide +kernel) dX6_takeKind_13 ?_
      refine jo_tablen (pc := 16) (by decide) dX6_takeKind_16 ?_
      refine jo_icmp_lt (pc := 17) dX6_takeKind_17 (tgt := 21) rfl ?_ ?_
      · refine jo_aload_n (pc := 21) 0 rfl dX6_takeKind_21 rfl ?_
        refine jo_getsN (pc := 22) (k := 0) (by decide) (by decide +kernel) dX6_takeKind_22 ?_
        refine jo_iload_n (pc := 25) 1 rfl dX6_takeKind_25 rfl ?_
        refine jo_tabld (pc := 26) (by decide) dX6_takeKind_26 (fun v1 => ?_)
        refine jo_getsN (pc := 27) (k := 1) (by decide) (by decide +kernel) dX6_takeKind_27 ?_
        refine jo_iload_n (pc := 30) 1 rfl dX6_takeKind_30 rfl ?_
        refine jo_tabld (pc := 31) (by decide) dX6_takeKind_31 (fun v2 => ?_)
        refine jo_cV_V_i (pc := 32) (μ' := mu_X6_reset) (fx := f_X6_reset σ a v1 v2) (As := [.int v1, .int v2]) (c_X6_reset hw (ha)) (ok_X6_reset) (ltb rfl) (all3 gw_362 gw_363 gw_364) (ha) (by decide) (q := (RX6, TX6, 3)) rfl rfl rfl rfl (Nat.le_of_ble_eq_true rfl) dX6_takeKind_32 (fun σ3 => ?_)
        refine jo_iconst (pc := 35) dX6_takeKind_35 (ic_i_0) ?_
        refine jo_istore_n (pc := 36) (lv' := [(2, .int 0), (0, .ref (adr w a)), (1, .int x0)]) dX6_takeKind_36 rfl (ltb rfl) rfl ?_
        refine jo_lv (lv' := [(0, .ref (adr w a)), (1, .int x0), (2, .int 0)]) [1, 2, 0] rfl ?_
        refine jo_loop (X := Mem) (fun (z5 : (Mem × Int32)) => z5.1) (fun (z5 : (Mem × Int32)) => [(0, .ref (adr w a)), (1, .int x0), (2, .int z5.2)]) (body := (fun (z5 : (Mem × Int32)) => l_X6_takeKind_37 a x0 z5.1 z5.2)) (fun F37_5 hF37_5 s => ?_) (σ3, 0)
        obtain ⟨σ4, i5⟩ := s
        show JO w mu_X6_takeKind vV σ4 [(0, .ref (adr w a)), (1, .int x0), (2, .int i5)] [] 37 (l_X6_takeKind_37 a x0 σ4 i5) _
        unfold l_X6_takeKind_37
        refine jo_iload_n (pc := 37) 2 rfl dX6_takeKind_37 rfl ?_
        refine jo_iconst (pc := 38) dX6_takeKind_38 (ic_i_3) ?_
        refine jo_iadd (pc := 39) dX6_takeKind_39 ?_
        refine jo_getsN (pc := 40) (k := 2) (by decide) (by decide +kernel) dX6_takeKind_40 ?_
        refine jo_tablen (pc := 43) (by decide) dX6_takeKind_43 ?_
        refine jo_icmp_ge (pc := 44) dX6_takeKind_44 (tgt := 94) rfl ?_ ?_
        · exact jo_return (pc := 94) rfl rfl dX6_takeKind_94
        · refine jo_getsN (pc := 47) (k := 2) (by decide) (by decide +kernel) dX6_takeKind_47 ?_
          refine jo_iload_n (pc := 50) 2 rfl dX6_takeKind_50 rfl ?_
          refine jo_tabld (pc := 51) (by decide) dX6_takeKind_51 (fun v6 => ?_)
          refine jo_iload_n (pc := 52) 1 rfl dX6_takeKind_52 rfl ?_
          refine jo_join1 (S := Mem) (fun (z7 : Mem) => z7) (fun (z7 : Mem) => [(0, .ref (adr w a)), (1, .int x0), (2, .int i5)]) (fun (z7 : Mem) => []) 88 ?_ (fun h88_7 => ?_)
          · intro σ7
            show JO w mu_X6_takeKind vV σ7 [(0, .ref (adr w a)), (1, .int x0), (2, .int i5)] [] 88 (j_X6_takeKind_88 i5 σ7) _
            unfold j_X6_takeKind_88
            refine jo_iinc (pc := 88) (lv' := [(2, .int (i5 + 4)), (0, .ref (adr w a)), (1, .int x0)]) 2 rfl dX6_takeKind_88 (congrArg (fun z => i5 + z) (ic_i_4)) (ltb rfl) rfl ?_
            refine jo_goto (pc := 91) dX6_takeKind_91 (tgt := 37) rfl ?_
            refine jo_lv (lv' := [(0, .ref (adr w a)), (1, .int x0), (2, .int (i5 + 4))]) [1, 2, 0] rfl ?_
            exact jo_leaf (by rfl) (hF37_5 (σ7, i5 + 4))
          · refine jo_icmp_ne (pc := 53) dX6_takeKind_53 (tgt := 88) rfl ?_ ?_
            · exact jo_leaf (by rfl) (h88_7 σ4)
            · refine jo_aload_n (pc := 56) 0 rfl dX6_takeKind_56 rfl ?_
              refine jo_getsN (pc := 57) (k := 2) (by decide) (by decide +kernel) dX6_takeKind_57 ?_
              refine jo_iload_n (pc := 60) 2 rfl dX6_takeKind_60 rfl ?_
              refine jo_iconst (pc := 61) dX6_takeKind_61 (ic_i_1) ?_
              refine jo_iadd (pc := 62) dX6_takeKind_62 ?_
              refine jo_tabld (pc := 63) (by decide) dX6_takeKind_63 (fun v8 => ?_)
              refine jo_iconst (pc := 64) dX6_takeKind_64 (ic_i_1) ?_
              refine jo_isub (pc := 65) dX6_takeKind_65 ?_
              refine jo_getsN (pc := 66) (k := 2) (by decide) (by decide +kernel) dX6_takeKind_66 ?_
              refine jo_iload_n (pc := 69) 2 rfl dX6_takeKind_69 rfl ?_
              refine jo_iconst (pc := 70) dX6_takeKind_70 (ic_i_2) ?_
              refine jo_iadd (pc := 71) dX6_takeKind_71 ?_
              refine jo_tabld (pc := 72) (by decide) dX6_takeKind_72 (fun v9 => ?_)
              refine jo_iconst (pc := 73) dX6_takeKind_73 (ic_i_1) ?_
              refine jo_isub (pc := 74) dX6_takeKind_74 ?_
              refine jo_getsN (pc := 75) (k := 2) (by decide) (by decide +kernel) dX6_takeKind_75 ?_
              refine jo_iload_n (pc := 78) 2 rfl dX6_takeKind_78 rfl ?_
              refine jo_iconst (pc := 79) dX6_takeKind_79 (ic_i_3) ?_
              refine jo_iadd (pc := 80) dX6_takeKind_80 ?_
              refine jo_tabld (pc := 81) (by decide) dX6_takeKind_81 (fun v10 => ?_)
              refine jo_iconst (pc := 82) dX6_takeKind_82 (ic_i_1) ?_
              refine jo_isub (pc := 83) dX6_takeKind_83 ?_
              refine jo_iconst (pc := 84) dX6_takeKind_84 (ic_i_1) ?_
              refine jo_cV_V_i (pc := 85) (μ' := mu_X6_write) (fx := f_X6_write σ4 a (v8 - 1) (v9 - 1) (v10 - 1) 1) (As := [.int (v8 - 1), .int (v9 - 1), .int (v10 - 1), .int 1]) (c_X6_write hw (ha)) (ok_X6_write) (ltb rfl) (all3 gw_371 gw_372 gw_373) (ha) (by decide) (q := (RX6, TX6, 3)) rfl rfl rfl rfl (Nat.le_of_ble_eq_true rfl) dX6_takeKind_85 (fun σ11 => ?_)
              exact jo_leaf (by rfl) (h88_7 σ11)
      · exact jo_return (pc := 20) rfl rfl dX6_takeKind_20
theorem c_X6_takeKind {w : Wd} (hw : WOK w) {σ : Mem} {a : Nat} {x0 : Int32} (ha : isk w a 6) : ∀ σ', f_X6_takeKind σ a x0 = some σ' → MC w mu_X6_takeKind none [.ref (adr w a), .int x0] σ σ' := mc_ofV ok_X6_takeKind rfl (Nat.le_of_ble_eq_true rfl) (t_X6_takeKind hw ha)
