abbrev mu_X10_collected : MD := (yX10_collected, cX10_collected, 2, some .int, 0)
theorem ok_X10_collected : MOK mu_X10_collected 1 := ⟨gw_609, gw_20, (by decide +kernel : plainFor yX10_collected = true), ⟨(by decide +kernel : yX10_collected.cls ≠ "java/lang/invoke/MethodHandle"), (by decide +kernel : yX10_collected.cls ≠ "java/lang/invoke/VarHandle"), (by decide +kernel : (parseMethodDescriptor yX10_collected.desc).map (fun d => d.parameters.length) = some 1)⟩, Nat.le_of_ble_eq_true rfl⟩
noncomputable def f_X10_collected (σ : Mem) (x0 : Int32) : Option Int32 :=
  if x0 < 1 then (some (-1)) else (gI σ 16 1 (fun (v1 : Int32) => if v1 < x0 then (some (-1)) else (if x0 ≤ 6 then (gI σ 16 ((2 + x0) - 1) (fun (v2 : Int32) => some v2)) else (some (-1)))))
theorem t_X10_collected {w : Wd} (hw : WOK w) {σ : Mem} {x0 : Int32} : JO w mu_X10_collected vI σ [(0, .ref (adr w 0)), (1, .int x0)] [] 0 (f_X10_collected σ x0) (fun z => some (z, σ)) := by
  unfold f_X10_collected
  refine jo_iload_n (pc := 0) 1 rfl dX10_collected_0 rfl ?_
  refine jo_iconst (pc := 1) dX10_collected_1 (ic_i_1) ?_
  refine jo_icmp_lt (pc := 2) dX10_collected_2 (tgt := 24) rfl ?_ ?_
  · refine jo_iconst (pc := 24) dX10_collected_24 (ic_i_m1) ?_
    exact jo_ireturn (pc := 25) rfl rfl dX10_collected_25
  · refine jo_iload_n (pc := 5) 1 rfl dX10_collected_5 rfl ?_
    refine jo_aload_n (pc := 6) 0 rfl dX10_collected_6 rfl ?_
    refine jo_getrE (pc := 7) ok_10_0 (ik_0 hw) rf_0_0 gw_477 dX10_collected_7 ?_
    refine jo_getrE (pc := 10) ok_8_2 (ik_1 hw) rf_1_2 gw_83 dX10_collected_10 ?_
    refine jo_iconst (pc := 13) dX10_collected_13 (ic_i_1) ?_
    refine jo_iald (pc := 14) (ik_16 hw) dX10_collected_14 (fun v1 => ?_)
    refine jo_icmp_gt (pc := 15) dX10_collected_15 (tgt := 24) rfl ?_ ?_
    · refine jo_iconst (pc := 24) dX10_collected_24 (ic_i_m1) ?_
      exact jo_ireturn (pc := 25) rfl rfl dX10_collected_25
    · refine jo_iload_n (pc := 18) 1 rfl dX10_collected_18 rfl ?_
      refine jo_bipush (pc := 19) dX10_collected_19 (ic_b_6) ?_
      refine jo_icmp_le (pc := 21) dX10_collected_21 (tgt := 26) rfl ?_ ?_
      · refine jo_aload_n (pc := 26) 0 rfl dX10_collected_26 rfl ?_
        refine jo_getrE (pc := 27) ok_10_0 (ik_0 hw) rf_0_0 gw_477 dX10_collected_27 ?_
        refine jo_getrE (pc := 30) ok_8_2 (ik_1 hw) rf_1_2 gw_83 dX10_collected_30 ?_
        refine jo_iconst (pc := 33) dX10_collected_33 (ic_i_2) ?_
        refine jo_iload_n (pc := 34) 1 rfl dX10_collected_34 rfl ?_
        refine jo_iadd (pc := 35) dX10_collected_35 ?_
        refine jo_iconst (pc := 36) dX10_collected_36 (ic_i_1) ?_
        refine jo_isub (pc := 37) dX10_collected_37 ?_
        refine jo_iald (pc := 38) (ik_16 hw) dX10_collected_38 (fun v2 => ?_)
        exact jo_ireturn (pc := 39) rfl rfl dX10_collected_39
      · refine jo_iconst (pc := 24) dX10_collected_24 (ic_i_m1) ?_
        exact jo_ireturn (pc := 25) rfl rfl dX10_collected_25
theorem c_X10_collected {w : Wd} (hw : WOK w) {σ : Mem} {x0 : Int32} : ∀ r, f_X10_collected σ x0 = some r → MC w mu_X10_collected (vI r) [.ref (adr w 0), .int x0] σ σ := mc_ofP ok_X10_collected rfl (Nat.le_of_ble_eq_true rfl) (t_X10_collected hw)
abbrev mu_X10_exponent : MD := (yX10_exponent, cX10_exponent, 3, some .int, 1)
theorem ok_X10_exponent : MOK mu_X10_exponent 2 := ⟨gw_613, gw_20, (by decide +kernel : plainFor yX10_exponent = true), ⟨(by decide +kernel : yX10_exponent.cls ≠ "java/lang/invoke/MethodHandle"), (by decide +kernel : yX10_exponent.cls ≠ "java/lang/invoke/VarHandle"), (by decide +kernel : (parseMethodDescriptor yX10_exponent.desc).map (fun d => d.parameters.length) = some 2)⟩, Nat.le_of_ble_eq_true rfl⟩
noncomputable def f_X10_exponent (σ : Mem) (x0 : Int32) (x1 : Int32) : Option Int32 :=
  (f_X10_isRegister σ x0).bind (fun (b1 : Bool) => if b1 then (f_X10_isGenerator σ x1).bind (fun (b2 : Bool) => if b2 then gR 5 x0 (fun (p3 : Nat) => gL σ p3 (x1 - 1) (fun (v4 : Int64) => some (Int64.toInt32 v4))) else some (-10000)) else some (-10000))
theorem t_X10_exponent {w : Wd} (hw : WOK w) {σ : Mem} {x0 : Int32} {x1 : Int32} : JO w mu_X10_exponent vI σ [(0, .ref (adr w 0)), (1, .int x0), (2, .int x1)] [] 0 (f_X10_exponent σ x0 x1) (fun z => some (z, σ)) := by
  unfold f_X10_exponent
  refine jo_iload_n (pc := 0) 1 rfl dX10_exponent_0 rfl ?_
  refine jo_cS_Z_p (pc := 1) (μ' := mu_X10_isRegister) (fx := f_X10_isRegister σ x0) (As := [.int x0]) (c_X10_isRegister hw) (ok_X10_isRegister) (ltb rfl) (all2 gw_552 gw_553) rfl rfl (Nat.le_of_ble_eq_true rfl) dX10_exponent_1 (fun b1 => ?_)
  refine jo_ifz_eq (pc := 4) dX10_exponent_4 (tgt := 15) rfl ?_ ?_
  · refine jo_sipush (pc := 15) dX10_exponent_15 (ic_s_m10000) ?_
    exact jo_ireturn (pc := 18) rfl rfl dX10_exponent_18
  · refine jo_aload_n (pc := 7) 0 rfl dX10_exponent_7 rfl ?_
    refine jo_iload_n (pc := 8) 2 rfl dX10_exponent_8 rfl ?_
    refine jo_cV_Z_p (pc := 9) (μ' := mu_X10_isGenerator) (fx := f_X10_isGenerator σ x1) (As := [.int x1]) (c_X10_isGenerator hw) (ok_X10_isGenerator) (ltb rfl) (all3 gw_544 gw_546 gw_10) (ik_0 hw) (by decide) (q := (RX10, TX10, 17)) rfl rfl rfl rfl (Nat.le_of_ble_eq_true rfl) dX10_exponent_9 (fun b2 => ?_)
    refine jo_ifz_ne (pc := 12) dX10_exponent_12 (tgt := 19) rfl ?_ ?_
    · refine jo_aload_n (pc := 19) 0 rfl dX10_exponent_19 rfl ?_
      refine jo_getrE (pc := 20) ok_10_0 (ik_0 hw) rf_0_0 gw_477 dX10_exponent_20 ?_
      refine jo_getrE (pc := 23) ok_8_1 (ik_1 hw) rf_1_1 gw_81 dX10_exponent_23 ?_
      refine jo_iload_n (pc := 26) 1 rfl dX10_exponent_26 rfl ?_
      refine jo_aaldG (pc := 27) (z := 13) hw (ik_5 hw) (by decide) (t := 4) rfl rfl (by decide) dX10_exponent_27 (fun p3 hp3 => ?_)
      refine jo_iload_n (pc := 28) 2 rfl dX10_exponent_28 rfl ?_
      refine jo_iconst (pc := 29) dX10_exponent_29 (ic_i_1) ?_
      refine jo_isub (pc := 30) dX10_exponent_30 ?_
      refine jo_lald (pc := 31) (hp3) dX10_exponent_31 (fun v4 => ?_)
      refine jo_l2i (pc := 32) dX10_exponent_32 ?_
      exact jo_ireturn (pc := 33) rfl rfl dX10_exponent_33
    · refine jo_sipush (pc := 15) dX10_exponent_15 (ic_s_m10000) ?_
      exact jo_ireturn (pc := 18) rfl rfl dX10_exponent_18
theorem c_X10_exponent {w : Wd} (hw : WOK w) {σ : Mem} {x0 : Int32} {x1 : Int32} : ∀ r, f_X10_exponent σ x0 x1 = some r → MC w mu_X10_exponent (vI r) [.ref (adr w 0), .int x0, .int x1] σ σ := mc_ofP ok_X10_exponent rfl (Nat.le_of_ble_eq_true rfl) (t_X10_exponent hw)
abbrev mu_X10_associates : MD := (yX10_associates, cX10_associates, 4, some .int, 2)
theorem ok_X10_associates : MOK mu_X10_associates 3 := ⟨gw_617, gw_20, (by decide +kernel : plainFor yX10_associates = true), ⟨(by decide +kernel : yX10_associates.cls ≠ "java/lang/invoke/MethodHandle"), (by decide +kernel : yX10_associates.cls ≠ "java/lang/invoke/VarHandle"), (by decide +kernel : (parseMethodDescriptor yX10_associates.desc).map (fun d => d.parameters.length) = some 3)⟩, Nat.le_of_ble_eq_true rfl⟩
noncomputable def f_X10_associates (σ : Mem) (x0 : Int32) (x1 : Int32) (x2 : Int32) : Option (Int32 × Mem) :=
  (f_X10_areUsable σ x0 x1).bind (fun (b1 : Bool) => if b1 then (f_X10_isRegister σ x2).bind (fun (b2 : Bool) => if b2 then gR 5 x0 (fun (p3 : Nat) => gR 5 x1 (fun (p4 : Nat) => (f_X0_product σ 176 p3 p4).bind (fun (σ5 : Mem) => gR 5 x2 (fun (p6 : Nat) => (f_X0_product σ5 176 176 p6).bind (fun (σ7 : Mem) => gR 5 x1 (fun (p8 : Nat) => gR 5 x2 (fun (p9 : Nat) => (f_X0_product σ7 177 p8 p9).bind (fun (σ10 : Mem) => gR 5 x0 (fun (p11 : Nat) => (f_X0_product σ10 177 p11 177).bind (fun (σ12 : Mem) => (f_X0_areSame σ12 176 177).bind (fun (b13 : Bool) => (f_X10_bit σ12 b13).bind (fun (v14 : Int32) => some (v14, σ12))))))))))))) else some ((-1), σ)) else some ((-1), σ))
theorem t_X10_associates {w : Wd} (hw : WOK w) {σ : Mem} {x0 : Int32} {x1 : Int32} {x2 : Int32} : JO w mu_X10_associates vI σ [(0, .ref (adr w 0)), (1, .int x0), (2, .int x1), (3, .int x2)] [] 0 (f_X10_associates σ x0 x1 x2) some := by
  unfold f_X10_associates
  refine jo_aload_n (pc := 0) 0 rfl dX10_associates_0 rfl ?_
  refine jo_iload_n (pc := 1) 1 rfl dX10_associates_1 rfl ?_
  refine jo_iload_n (pc := 2) 2 rfl dX10_associates_2 rfl ?_
  refine jo_cV_Z_p (pc := 3) (μ' := mu_X10_areUsable) (fx := f_X10_areUsable σ x0 x1) (As := [.int x0, .int x1]) (c_X10_areUsable hw) (ok_X10_areUsable) (ltb rfl) (all3 gw_575 gw_577 gw_12) (ik_0 hw) (by decide) (q := (RX10, TX10, 17)) rfl rfl rfl rfl (Nat.le_of_ble_eq_true rfl) dX10_associates_3 (fun b1 => ?_)
  refine jo_ifz_eq (pc := 6) dX10_associates_6 (tgt := 16) rfl ?_ ?_
  · refine jo_iconst (pc := 16) dX10_associates_16 (ic_i_m1) ?_
    exact jo_ireturn (pc := 17) rfl rfl dX10_associates_17
  · refine jo_iload_n (pc := 9) 3 rfl dX10_associates_9 rfl ?_
    refine jo_cS_Z_p (pc := 10) (μ' := mu_X10_isRegister) (fx := f_X10_isRegister σ x2) (As := [.int x2]) (c_X10_isRegister hw) (ok_X10_isRegister) (ltb rfl) (all2 gw_552 gw_553) rfl rfl (Nat.le_of_ble_eq_true rfl) dX10_associates_10 (fun b2 => ?_)
    refine jo_ifz_ne (pc := 13) dX10_associates_13 (tgt := 18) rfl ?_ ?_
    · refine jo_aload_n (pc := 18) 0 rfl dX10_associates_18 rfl ?_
      refine jo_getrE (pc := 19) ok_10_10 (ik_0 hw) rf_0_10 gw_487 dX10_associates_19 ?_
      refine jo_aload_n (pc := 22) 0 rfl dX10_associates_22 rfl ?_
      refine jo_getrE (pc := 23) ok_10_15 (ik_0 hw) rf_0_15 gw_492 dX10_associates_23 ?_
      refine jo_aload_n (pc := 26) 0 rfl dX10_associates_26 rfl ?_
      refine jo_getrE (pc := 27) ok_10_0 (ik_0 hw) rf_0_0 gw_477 dX10_associates_27 ?_
      refine jo_getrE (pc := 30) ok_8_1 (ik_1 hw) rf_1_1 gw_81 dX10_associates_30 ?_
      refine jo_iload_n (pc := 33) 1 rfl dX10_associates_33 rfl ?_
      refine jo_aaldG (pc := 34) (z := 13) hw (ik_5 hw) (by decide) (t := 4) rfl rfl (by decide) dX10_associates_34 (fun p3 hp3 => ?_)
      refine jo_aload_n (pc := 35) 0 rfl dX10_associates_35 rfl ?_
      refine jo_getrE (pc := 36) ok_10_0 (ik_0 hw) rf_0_0 gw_477 dX10_associates_36 ?_
      refine jo_getrE (pc := 39) ok_8_1 (ik_1 hw) rf_1_1 gw_81 dX10_associates_39 ?_
      refine jo_iload_n (pc := 42) 2 rfl dX10_associates_42 rfl ?_
      refine jo_aaldG (pc := 43) (z := 13) hw (ik_5 hw) (by decide) (t := 4) rfl rfl (by decide) dX10_associates_43 (fun p4 hp4 => ?_)
      refine jo_cV_V_i (pc := 44) (μ' := mu_X0_product) (fx := f_X0_product σ 176 p3 p4) (As := [.ref (adr w 176), .ref (adr w p3), .ref (adr w p4)]) (c_X0_product hw (ik_176 hw) (hp3) (hp4)) (ok_X0_product) (ltb rfl) (all3 gw_579 gw_580 gw_581) (ik_72 hw) (by decide) (q := (RX0, TX0, 8)) rfl rfl rfl rfl (Nat.le_of_ble_eq_true rfl) dX10_associates_44 (fun σ5 => ?_)
      refine jo_aload_n (pc := 47) 0 rfl dX10_associates_47 rfl ?_
      refine jo_getrE (pc := 48) ok_10_10 (ik_0 hw) rf_0_10 gw_487 dX10_associates_48 ?_
      refine jo_aload_n (pc := 51) 0 rfl dX10_associates_51 rfl ?_
      refine jo_getrE (pc := 52) ok_10_15 (ik_0 hw) rf_0_15 gw_492 dX10_associates_52 ?_
      refine jo_aload_n (pc := 55) 0 rfl dX10_associates_55 rfl ?_
      refine jo_getrE (pc := 56) ok_10_15 (ik_0 hw) rf_0_15 gw_492 dX10_associates_56 ?_
      refine jo_aload_n (pc := 59) 0 rfl dX10_associates_59 rfl ?_
      refine jo_getrE (pc := 60) ok_10_0 (ik_0 hw) rf_0_0 gw_477 dX10_associates_60 ?_
      refine jo_getrE (pc := 63) ok_8_1 (ik_1 hw) rf_1_1 gw_81 dX10_associates_63 ?_
      refine jo_iload_n (pc := 66) 3 rfl dX10_associates_66 rfl ?_
      refine jo_aaldG (pc := 67) (z := 13) hw (ik_5 hw) (by decide) (t := 4) rfl rfl (by decide) dX10_associates_67 (fun p6 hp6 => ?_)
      refine jo_cV_V_i (pc := 68) (μ' := mu_X0_product) (fx := f_X0_product σ5 176 176 p6) (As := [.ref (adr w 176), .ref (adr w 176), .ref (adr w p6)]) (c_X0_product hw (ik_176 hw) (ik_176 hw) (hp6)) (ok_X0_product) (ltb rfl) (all3 gw_579 gw_580 gw_581) (ik_72 hw) (by decide) (q := (RX0, TX0, 8)) rfl rfl rfl rfl (Nat.le_of_ble_eq_true rfl) dX10_associates_68 (fun σ7 => ?_)
      refine jo_aload_n (pc := 71) 0 rfl dX10_associates_71 rfl ?_
      refine jo_getrE (pc := 72) ok_10_10 (ik_0 hw) rf_0_10 gw_487 dX10_associates_72 ?_
      refine jo_aload_n (pc := 75) 0 rfl dX10_associates_75 rfl ?_
      refine jo_getrE (pc := 76) ok_10_16 (ik_0 hw) rf_0_16 gw_493 dX10_associates_76 ?_
      refine jo_aload_n (pc := 79) 0 rfl dX10_associates_79 rfl ?_
      refine jo_getrE (pc := 80) ok_10_0 (ik_0 hw) rf_0_0 gw_477 dX10_associates_80 ?_
      refine jo_getrE (pc := 83) ok_8_1 (ik_1 hw) rf_1_1 gw_81 dX10_associates_83 ?_
      refine jo_iload_n (pc := 86) 2 rfl dX10_associates_86 rfl ?_
      refine jo_aaldG (pc := 87) (z := 13) hw (ik_5 hw) (by decide) (t := 4) rfl rfl (by decide) dX10_associates_87 (fun p8 hp8 => ?_)
      refine jo_aload_n (pc := 88) 0 rfl dX10_associates_88 rfl ?_
      refine jo_getrE (pc := 89) ok_10_0 (ik_0 hw) rf_0_0 gw_477 dX10_associates_89 ?_
      refine jo_getrE (pc := 92) ok_8_1 (ik_1 hw) rf_1_1 gw_81 dX10_associates_92 ?_
      refine jo_iload_n (pc := 95) 3 rfl dX10_associates_95 rfl ?_
      refine jo_aaldG (pc := 96) (z := 13) hw (ik_5 hw) (by decide) (t := 4) rfl rfl (by decide) dX10_associates_96 (fun p9 hp9 => ?_)
      refine jo_cV_V_i (pc := 97) (μ' := mu_X0_product) (fx := f_X0_product σ7 177 p8 p9) (As := [.ref (adr w 177), .ref (adr w p8), .ref (adr w p9)]) (c_X0_product hw (ik_177 hw) (hp8) (hp9)) (ok_X0_product) (ltb rfl) (all3 gw_579 gw_580 gw_581) (ik_72 hw) (by decide) (q := (RX0, TX0, 8)) rfl rfl rfl rfl (Nat.le_of_ble_eq_true rfl) dX10_associates_97 (fun σ10 => ?_)
      refine jo_aload_n (pc := 100) 0 rfl dX10_associates_100 rfl ?_
      refine jo_getrE (pc := 101) ok_10_10 (ik_0 hw) rf_0_10 gw_487 dX10_associates_101 ?_
      refine jo_aload_n (pc := 104) 0 rfl dX10_associates_104 rfl ?_
      refine jo_getrE (pc := 105) ok_10_16 (ik_0 hw) rf_0_16 gw_493 dX10_associates_105 ?_
      refine jo_aload_n (pc := 108) 0 rfl dX10_associates_108 rfl ?_
      refine jo_getrE (pc := 109) ok_10_0 (ik_0 hw) rf_0_0 gw_477 dX10_associates_109 ?_
      refine jo_getrE (pc := 112) ok_8_1 (ik_1 hw) rf_1_1 gw_81 dX10_associates_112 ?_
      refine jo_iload_n (pc := 115) 1 rfl dX10_associates_115 rfl ?_
      refine jo_aaldG (pc := 116) (z := 13) hw (ik_5 hw) (by decide) (t := 4) rfl rfl (by decide) dX10_associates_116 (fun p11 hp11 => ?_)
      refine jo_aload_n (pc := 117) 0 rfl dX10_associates_117 rfl ?_
      refine jo_getrE (pc := 118) ok_10_16 (ik_0 hw) rf_0_16 gw_493 dX10_associates_118 ?_
      refine jo_cV_V_i (pc := 121) (μ' := mu_X0_product) (fx := f_X0_product σ10 177 p11 177) (As := [.ref (adr w 177), .ref (adr w p11), .ref (adr w 177)]) (c_X0_product hw (ik_177 hw) (hp11) (ik_177 hw)) (ok_X0_product) (ltb rfl) (all3 gw_579 gw_580 gw_581) (ik_72 hw) (by decide) (q := (RX0, TX0, 8)) rfl rfl rfl rfl (Nat.le_of_ble_eq_true rfl) dX10_associates_121 (fun σ12 => ?_)
      refine jo_aload_n (pc := 124) 0 rfl dX10_associates_124 rfl ?_
      refine jo_getrE (pc := 125) ok_10_15 (ik_0 hw) rf_0_15 gw_492 dX10_associates_125 ?_
      refine jo_aload_n (pc := 128) 0 rfl dX10_associates_128 rfl ?_
      refine jo_getrE (pc := 129) ok_10_16 (ik_0 hw) rf_0_16 gw_493 dX10_associates_129 ?_
      refine jo_cS_Z_p (pc := 132) (μ' := mu_X0_areSame) (fx := f_X0_areSame σ12 176 177) (As := [.ref (adr w 176), .ref (adr w 177)]) (c_X0_areSame hw (ik_176 hw) (ik_177 hw)) (ok_X0_areSame) (ltb rfl) (all2 gw_618 gw_619) rfl rfl (Nat.le_of_ble_eq_true rfl) dX10_associates_132 (fun b13 => ?_)
      refine jo_cS_I_p (pc := 135) (μ' := mu_X10_bit) (fx := f_X10_bit σ12 b13) (As := [.int (b2i b13)]) (c_X10_bit hw) (ok_X10_bit) (ltb rfl) (all2 gw_533 gw_534) rfl rfl (Nat.le_of_ble_eq_true rfl) dX10_associates_135 (fun v14 => ?_)
      exact jo_ireturn (pc := 138) rfl rfl dX10_associates_138
    · refine jo_iconst (pc := 16) dX10_associates_16 (ic_i_m1) ?_
      exact jo_ireturn (pc := 17) rfl rfl dX10_associates_17
theorem c_X10_associates {w : Wd} (hw : WOK w) {σ : Mem} {x0 : Int32} {x1 : Int32} {x2 : Int32} : ∀ r σ', f_X10_associates σ x0 x1 x2 = some (r, σ') → MC w mu_X10_associates (vI r) [.ref (adr w 0), .int x0, .int x1, .int x2] σ σ' := mc_of ok_X10_associates rfl (Nat.le_of_ble_eq_true rfl) (t_X10_associates hw)
abbrev mu_X10_registersNotOne : MD := (yX10_registersNotOne, cX10_registersNotOne, 3, some .int, 2)
theorem ok_X10_registersNotOne : MOK mu_X10_registersNotOne 0 := ⟨gw_664, gw_20, (by decide +kernel : plainFor yX10_registersNotOne = true), ⟨(by decide +kernel : yX10_registersNotOne.cls ≠ "java/lang/invoke/MethodHandle"), (by decide +kernel : yX10_registersNotOne.cls ≠ "java/lang/invoke/VarHandle"), (by decide +kernel : (parseMethodDescriptor yX10_registersNotOne.desc).map (fun d => d.parameters.length) = some 0)⟩, Nat.le_of_ble_eq_true rfl⟩
noncomputable def j_X10_registersNotOne_31 (i2 : Int32) (i5 : Int32) : Option ((Int32 × Int32) ⊕ Int32) :=
  some (Sum.inl (i5, i2 + 1))
noncomputable def l_X10_registersNotOne_4 (σ : Mem) (i1 : Int32) (i2 : Int32) : Option ((Int32 × Int32) ⊕ Int32) :=
  if 10 ≤ i2 then (some (Sum.inr i1)) else (gR 5 i2 (fun (p3 : Nat) => (f_X0_isOne σ p3).bind (fun (b4 : Bool) => (if b4 then some i1 else bd (i1 ||| (1 <<< (i2 &&& 31))) (fun (v6 : Int32) => some v6) : Option Int32).bind (fun (z5 : Int32) => j_X10_registersNotOne_31 i2 z5))))
noncomputable def f_X10_registersNotOne (σ : Mem) : Option Int32 :=
  loopO (fun (z2 : (Int32 × Int32)) => l_X10_registersNotOne_4 σ z2.1 z2.2) (0, 0)
theorem t_X10_registersNotOne {w : Wd} (hw : WOK w) {σ : Mem} : JO w mu_X10_registersNotOne vI σ [(0, .ref (adr w 0))] [] 0 (f_X10_registersNotOne σ) (fun z => some (z, σ)) := by
  unfold f_X10_registersNotOne
  refine jo_iconst (pc := 0) dX10_registersNotOne_0 (ic_i_0) ?_
  refine jo_istore_n (pc := 1) (lv' := [(1, .int 0), (0, .ref (adr w 0))]) dX10_registersNotOne_1 rfl (ltb rfl) rfl ?_
  refine jo_iconst (pc := 2) dX10_registersNotOne_2 (ic_i_0) ?_
  refine jo_istore_n (pc := 3) (lv' := [(2, .int 0), (1, .int 0), (0, .ref (adr w 0))]) dX10_registersNotOne_3 rfl (ltb rfl) rfl ?_
  refine jo_lv (lv' := [(0, .ref (adr w 0)), (1, .int 0), (2, .int 0)]) [2, 1, 0] rfl ?_
  refine jo_loop (X := Int32) (fun (z2 : (Int32 × Int32)) => σ) (fun (z2 : (Int32 × Int32)) => [(0, .ref (adr w 0)), (1, .int z2.1), (2, .int z2.2)]) (body := (fun (z2 : (Int32 × Int32)) => l_X10_registersNotOne_4 σ z2.1 z2.2)) (fun F4_2 hF4_2 s => ?_) (0, 0)
  obtain ⟨i1, i2⟩ := s
  show JO w mu_X10_registersNotOne vI σ [(0, .ref (adr w 0)), (1, .int i1), (2, .int i2)] [] 4 (l_X10_registersNotOne_4 σ i1 i2) _
  unfold l_X10_registersNotOne_4
  refine jo_iload_n (pc := 4) 2 rfl dX10_registersNotOne_4 rfl ?_
  refine jo_bipush (pc := 5) dX10_registersNotOne_5 (ic_b_10) ?_
  refine jo_icmp_ge (pc := 7) dX10_registersNotOne_7 (tgt := 37) rfl ?_ ?_
  · refine jo_iload_n (pc := 37) 1 rfl dX10_registersNotOne_37 rfl ?_
    exact jo_ireturn (pc := 38) rfl rfl dX10_registersNotOne_38
  · refine jo_aload_n (pc := 10) 0 rfl dX10_registersNotOne_10 rfl ?_
    refine jo_getrE (pc := 11) ok_10_0 (ik_0 hw) rf_0_0 gw_477 dX10_registersNotOne_11 ?_
    refine jo_getrE (pc := 14) ok_8_1 (ik_1 hw) rf_1_1 gw_81 dX10_registersNotOne_14 ?_
    refine jo_iload_n (pc := 17) 2 rfl dX10_registersNotOne_17 rfl ?_
    refine jo_aaldG (pc := 18) (z := 13) hw (ik_5 hw) (by decide) (t := 4) rfl rfl (by decide) dX10_registersNotOne_18 (fun p3 hp3 => ?_)
    refine jo_cS_Z_p (pc := 19) (μ' := mu_X0_isOne) (fx := f_X0_isOne σ p3) (As := [.ref (adr w p3)]) (c_X0_isOne hw (hp3)) (ok_X0_isOne) (ltb rfl) (all2 gw_665 gw_666) rfl rfl (Nat.le_of_ble_eq_true rfl) dX10_registersNotOne_19 (fun b4 => ?_)
    refine jo_join1 (S := Int32) (fun (z5 : Int32) => σ) (fun (z5 : Int32) => [(0, .ref (adr w 0)), (2, .int i2), (1, .int z5)]) (fun (z5 : Int32) => []) 31 ?_ (fun h31_5 => ?_)
    · intro i5
      show JO w mu_X10_registersNotOne vI σ [(0, .ref (adr w 0)), (2, .int i2), (1, .int i5)] [] 31 (j_X10_registersNotOne_31 i2 i5) _
      unfold j_X10_registersNotOne_31
      refine jo_iinc (pc := 31) (lv' := [(2, .int (i2 + 1)), (0, .ref (adr w 0)), (1, .int i5)]) 1 rfl dX10_registersNotOne_31 (congrArg (fun z => i2 + z) (ic_i_1)) (ltb rfl) rfl ?_
      refine jo_goto (pc := 34) dX10_registersNotOne_34 (tgt := 4) rfl ?_
      refine jo_lv (lv' := [(0, .ref (adr w 0)), (1, .int i5), (2, .int (i2 + 1))]) [1, 2, 0] rfl ?_
      exact jo_leaf (by rfl) (hF4_2 (i5, i2 + 1))
    · refine jo_ifz_ne (pc := 22) dX10_registersNotOne_22 (tgt := 31) rfl ?_ ?_
      · refine jo_lv (lv' := [(0, .ref (adr w 0)), (2, .int i2), (1, .int i1)]) [0, 2, 1] rfl ?_
        exact jo_leaf (by rfl) (h31_5 i1)
      · refine jo_iload_n (pc := 25) 1 rfl dX10_registersNotOne_25 rfl ?_
        refine jo_iconst (pc := 26) dX10_registersNotOne_26 (ic_i_1) ?_
        refine jo_iload_n (pc := 27) 2 rfl dX10_registersNotOne_27 rfl ?_
        refine jo_ishl (pc := 28) dX10_registersNotOne_28 ?_
        refine jo_ior (pc := 29) dX10_registersNotOne_29 ?_
        refine jo_bd ?_
        refine jo_istore_n (pc := 30) (lv' := [(1, .int (i1 ||| (1 <<< (i2 &&& 31)))), (0, .ref (adr w 0)), (2, .int i2)]) dX10_registersNotOne_30 rfl (ltb rfl) rfl ?_
        generalize (i1 ||| (1 <<< (i2 &&& 31))) = v6
        refine jo_lv (lv' := [(0, .ref (adr w 0)), (2, .int i2), (1, .int v6)]) [1, 2, 0] rfl ?_
        exact jo_leaf (by rfl) (h31_5 v6)
theorem c_X10_registersNotOne {w : Wd} (hw : WOK w) {σ : Mem} : ∀ r, f_X10_registersNotOne σ = some r → MC w mu_X10_registersNotOne (vI r) [.ref (adr w 0)] σ σ := mc_ofP ok_X10_registersNotOne rfl (Nat.le_of_ble_eq_true rfl) (t_X10_registersNotOne hw)
abbrev mu_X10_centralGenerators : MD := (yX10_centralGenerators, cX10_centralGenerators, 3, some .int, 3)
theorem ok_X10_centralGenerators : MOK mu_X10_centralGenerators 0 := ⟨gw_672, gw_20, (by decide +kernel : plainFor yX10_centralGenerators = true), ⟨(by decide +kernel : yX10_centralGenerators.cls ≠ "java/lang/invoke/MethodHandle"), (by decide +kernel : yX10_centralGenerators.cls ≠ "java/lang/invoke/VarHandle"), (by decide +kernel : (parseMethodDescriptor yX10_centralGenerators.desc).map (fun d => d.parameters.length) = some 0)⟩, Nat.le_of_ble_eq_true rfl⟩
noncomputable def j_X10_centralGenerators_38 (i2 : Int32) (i5 : Int32) : Option ((Int32 × Int32) ⊕ Int32) :=
  some (Sum.inl (i5, i2 + 1))
noncomputable def l_X10_centralGenerators_4 (σ : Mem) (i1 : Int32) (i2 : Int32) : Option ((Int32 × Int32) ⊕ Int32) :=
  gF σ 2 0 (fun (v3 : Int32) => if v3 ≤ i2 then (some (Sum.inr i1)) else ((f_X6_isCentral σ 2 i2).bind (fun (b4 : Bool) => (if b4 then bd (i1 ||| (1 <<< (i2 &&& 31))) (fun (v6 : Int32) => some v6) else some i1 : Option Int32).bind (fun (z5 : Int32) => j_X10_centralGenerators_38 i2 z5))))
noncomputable def f_X10_centralGenerators (σ : Mem) : Option Int32 :=
  loopO (fun (z2 : (Int32 × Int32)) => l_X10_centralGenerators_4 σ z2.1 z2.2) (0, 0)
theorem t_X10_centralGenerators {w : Wd} (hw : WOK w) {σ : Mem} : JO w mu_X10_centralGenerators vI σ [(0, .ref (adr w 0))] [] 0 (f_X10_centralGenerators σ) (fun z => some (z, σ)) := by
  unfold f_X10_centralGenerators
  refine jo_iconst (pc := 0) dX10_centralGenerators_0 (ic_i_0) ?_
  refine jo_istore_n (pc := 1) (lv' := [(1, .int 0), (0, .ref (adr w 0))]) dX10_centralGenerators_1 rfl (ltb rfl) rfl ?_
  refine jo_iconst (pc := 2) dX10_centralGenerators_2 (ic_i_0) ?_
  refine jo_istore_n (pc := 3) (lv' := [(2, .int 0), (1, .int 0), (0, .ref (adr w 0))]) dX10_centralGenerators_3 rfl (ltb rfl) rfl ?_
  refine jo_lv (lv' := [(0, .ref (adr w 0)), (1, .int 0), (2, .int 0)]) [2, 1, 0] rfl ?_
  refine jo_loop (X := Int32) (fun (z2 : (Int32 × Int32)) => σ) (fun (z2 : (Int32 × Int32)) => [(0, .ref (adr w 0)), (1, .int z2.1), (2, .int z2.2)]) (body := (fun (z2 : (Int32 × Int32)) => l_X10_centralGenerators_4 σ z2.1 z2.2)) (fun F4_2 hF4_2 s => ?_) (0, 0)
  obtain ⟨i1, i2⟩ := s
  show JO w mu_X10_centralGenerators vI σ [(0, .ref (adr w 0)), (1, .int i1), (2, .int i2)] [] 4 (l_X10_centralGenerators_4 σ i1 i2) _
  unfold l_X10_centralGenerators_4
  refine jo_iload_n (pc := 4) 2 rfl dX10_centralGenerators_4 rfl ?_
  refine jo_aload_n (pc := 5) 0 rfl dX10_centralGenerators_5 rfl ?_
  refine jo_getrE (pc := 6) ok_10_0 (ik_0 hw) rf_0_0 gw_477 dX10_centralGenerators_6 ?_
  refine jo_getrE (pc := 9) ok_8_0 (ik_1 hw) rf_1_0 gw_79 dX10_centralGenerators_9 ?_
  refine jo_getf (pc := 12) ok_6_0 (ik_2 hw) gw_64 dX10_centralGenerators_12 (fun v3 => ?_)
  refine jo_icmp_ge (pc := 15) dX10_centralGenerators_15 (tgt := 44) rfl ?_ ?_
  · refine jo_iload_n (pc := 44) 1 rfl dX10_centralGenerators_44 rfl ?_
    exact jo_ireturn (pc := 45) rfl rfl dX10_centralGenerators_45
  · refine jo_aload_n (pc := 18) 0 rfl dX10_centralGenerators_18 rfl ?_
    refine jo_getrE (pc := 19) ok_10_0 (ik_0 hw) rf_0_0 gw_477 dX10_centralGenerators_19 ?_
    refine jo_getrE (pc := 22) ok_8_0 (ik_1 hw) rf_1_0 gw_79 dX10_centralGenerators_22 ?_
    refine jo_iload_n (pc := 25) 2 rfl dX10_centralGenerators_25 rfl ?_
    refine jo_cV_Z_p (pc := 26) (μ' := mu_X6_isCentral) (fx := f_X6_isCentral σ 2 i2) (As := [.int i2]) (c_X6_isCentral hw (ik_2 hw)) (ok_X6_isCentral) (ltb rfl) (all3 gw_673 gw_674 gw_675) (ik_2 hw) (by decide) (q := (RX6, TX6, 3)) rfl rfl rfl rfl (Nat.le_of_ble_eq_true rfl) dX10_centralGenerators_26 (fun b4 => ?_)
    refine jo_join1 (S := Int32) (fun (z5 : Int32) => σ) (fun (z5 : Int32) => [(0, .ref (adr w 0)), (2, .int i2), (1, .int z5)]) (fun (z5 : Int32) => []) 38 ?_ (fun h38_5 => ?_)
    · intro i5
      show JO w mu_X10_centralGenerators vI σ [(0, .ref (adr w 0)), (2, .int i2), (1, .int i5)] [] 38 (j_X10_centralGenerators_38 i2 i5) _
      unfold j_X10_centralGenerators_38
      refine jo_iinc (pc := 38) (lv' := [(2, .int (i2 + 1)), (0, .ref (adr w 0)), (1, .int i5)]) 1 rfl dX10_centralGenerators_38 (congrArg (fun z => i2 + z) (ic_i_1)) (ltb rfl) rfl ?_
      refine jo_goto (pc := 41) dX10_centralGenerators_41 (tgt := 4) rfl ?_
      refine jo_lv (lv' := [(0, .ref (adr w 0)), (1, .int i5), (2, .int (i2 + 1))]) [1, 2, 0] rfl ?_
      exact jo_leaf (by rfl) (hF4_2 (i5, i2 + 1))
    · refine jo_ifz_eq (pc := 29) dX10_centralGenerators_29 (tgt := 38) rfl ?_ ?_
      · refine jo_lv (lv' := [(0, .ref (adr w 0)), (2, .int i2), (1, .int i1)]) [0, 2, 1] rfl ?_
        exact jo_leaf (by rfl) (h38_5 i1)
      · refine jo_iload_n (pc := 32) 1 rfl dX10_centralGenerators_32 rfl ?_
        refine jo_iconst (pc := 33) dX10_centralGenerators_33 (ic_i_1) ?_
        refine jo_iload_n (pc := 34) 2 rfl dX10_centralGenerators_34 rfl ?_
        refine jo_ishl (pc := 35) dX10_centralGenerators_35 ?_
        refine jo_ior (pc := 36) dX10_centralGenerators_36 ?_
        refine jo_bd ?_
        refine jo_istore_n (pc := 37) (lv' := [(1, .int (i1 ||| (1 <<< (i2 &&& 31)))), (0, .ref (adr w 0)), (2, .int i2)]) dX10_centralGenerators_37 rfl (ltb rfl) rfl ?_
        generalize (i1 ||| (1 <<< (i2 &&& 31))) = v6
        refine jo_lv (lv' := [(0, .ref (adr w 0)), (2, .int i2), (1, .int v6)]) [1, 2, 0] rfl ?_
        exact jo_leaf (by rfl) (h38_5 v6)
theorem c_X10_centralGenerators {w : Wd} (hw : WOK w) {σ : Mem} : ∀ r, f_X10_centralGenerators σ = some r → MC w mu_X10_centralGenerators (vI r) [.ref (adr w 0)] σ σ := mc_ofP ok_X10_centralGenerators rfl (Nat.le_of_ble_eq_true rfl) (t_X10_centralGenerators hw)
abbrev mu_X10_look : MD := (yX10_look, cX10_look, 2, some .int, 4)
theorem ok_X10_look : MOK mu_X10_look 1 := ⟨gw_651, gw_20, (by decide +kernel : plainFor yX10_look = true), ⟨(by decide +kernel : yX10_look.cls ≠ "java/lang/invoke/MethodHandle"), (by decide +kernel : yX10_look.cls ≠ "java/lang/invoke/VarHandle"), (by decide +kernel : (parseMethodDescriptor yX10_look.desc).map (fun d => d.parameters.length) = some 1)⟩, Nat.le_of_ble_eq_true rfl⟩
noncomputable def f_X10_look (σ : Mem) (x0 : Int32) : Option Int32 :=
  if x0 = 0 then (gF σ 2 0 (fun (v2 : Int32) => some v2)) else if x0 = 1 then ((f_X6_top σ 2).bind (fun (v4 : Int32) => some v4)) else if x0 = 2 then (gZ σ 40 3 (fun (b6 : Bool) => (f_X10_bit σ b6).bind (fun (v7 : Int32) => some v7))) else if x0 = 3 then ((f_X6_tailsAboveZero σ 2).bind (fun (v9 : Int32) => some v9)) else if x0 = 4 then ((f_X4_termCount σ).bind (fun (v11 : Int32) => some v11)) else if x0 = 5 then ((f_X10_registersNotOne σ).bind (fun (v13 : Int32) => some v13)) else if x0 = 6 then (gF σ 0 4 (fun (v15 : Int32) => some v15)) else if x0 = 7 then (gF σ 0 7 (fun (v17 : Int32) => some v17)) else if x0 = 8 then (gI σ 16 0 (fun (v19 : Int32) => some v19)) else if x0 = 9 then (gZ σ 40 3 (fun (b21 : Bool) => if b21 then (f_X10_centralGenerators σ).bind (fun (v22 : Int32) => some v22) else some 0)) else (some (-1))
theorem t_X10_look {w : Wd} (hw : WOK w) {σ : Mem} {x0 : Int32} : JO w mu_X10_look vI σ [(0, .ref (adr w 0)), (1, .int x0)] [] 0 (f_X10_look σ x0) (fun z => some (z, σ)) := by
  unfold f_X10_look
  refine jo_iload_n (pc := 0) 1 rfl dX10_look_0 rfl ?_
  refine jo_case (v := 0) (fun h1 => ?_) (fun h1 => ?_)
  · refine jo_tswHit (pc := 1) dX10_look_1 h1 (by decide) (by decide) (off := 55) (by rfl) (tgt := 56) rfl ?_
    refine jo_aload_n (pc := 56) 0 rfl dX10_look_56 rfl ?_
    refine jo_getrE (pc := 57) ok_10_0 (ik_0 hw) rf_0_0 gw_477 dX10_look_57 ?_
    refine jo_getrE (pc := 60) ok_8_0 (ik_1 hw) rf_1_0 gw_79 dX10_look_60 ?_
    refine jo_getf (pc := 63) ok_6_0 (ik_2 hw) gw_64 dX10_look_63 (fun v2 => ?_)
    exact jo_ireturn (pc := 66) rfl rfl dX10_look_66
  refine jo_case (v := 1) (fun h3 => ?_) (fun h3 => ?_)
  · refine jo_tswHit (pc := 1) dX10_look_1 h3 (by decide) (by decide) (off := 66) (by rfl) (tgt := 67) rfl ?_
    refine jo_aload_n (pc := 67) 0 rfl dX10_look_67 rfl ?_
    refine jo_getrE (pc := 68) ok_10_0 (ik_0 hw) rf_0_0 gw_477 dX10_look_68 ?_
    refine jo_getrE (pc := 71) ok_8_0 (ik_1 hw) rf_1_0 gw_79 dX10_look_71 ?_
    refine jo_cV_I_p (pc := 74) (μ' := mu_X6_top) (fx := f_X6_top σ 2) (As := []) (c_X6_top hw (ik_2 hw)) (ok_X6_top) (ltb rfl) (all3 gw_652 gw_452 gw_453) (ik_2 hw) (by decide) (q := (RX6, TX6, 3)) rfl rfl rfl rfl (Nat.le_of_ble_eq_true rfl) dX10_look_74 (fun v4 => ?_)
    exact jo_ireturn (pc := 77) rfl rfl dX10_look_77
  refine jo_case (v := 2) (fun h5 => ?_) (fun h5 => ?_)
  · refine jo_tswHit (pc := 1) dX10_look_1 h5 (by decide) (by decide) (off := 77) (by rfl) (tgt := 78) rfl ?_
    refine jo_aload_n (pc := 78) 0 rfl dX10_look_78 rfl ?_
    refine jo_getrE (pc := 79) ok_10_9 (ik_0 hw) rf_0_9 gw_486 dX10_look_79 ?_
    refine jo_getz (pc := 82) ok_4_3 (ik_40 hw) gw_159 dX10_look_82 (fun b6 => ?_)
    refine jo_cS_I_p (pc := 85) (μ' := mu_X10_bit) (fx := f_X10_bit σ b6) (As := [.int (b2i b6)]) (c_X10_bit hw) (ok_X10_bit) (ltb rfl) (all2 gw_533 gw_534) rfl rfl (Nat.le_of_ble_eq_true rfl) dX10_look_85 (fun v7 => ?_)
    exact jo_ireturn (pc := 88) rfl rfl dX10_look_88
  refine jo_case (v := 3) (fun h8 => ?_) (fun h8 => ?_)
  · refine jo_tswHit (pc := 1) dX10_look_1 h8 (by decide) (by decide) (off := 88) (by rfl) (tgt := 89) rfl ?_
    refine jo_aload_n (pc := 89) 0 rfl dX10_look_89 rfl ?_
    refine jo_getrE (pc := 90) ok_10_0 (ik_0 hw) rf_0_0 gw_477 dX10_look_90 ?_
    refine jo_getrE (pc := 93) ok_8_0 (ik_1 hw) rf_1_0 gw_79 dX10_look_93 ?_
    refine jo_cV_I_p (pc := 96) (μ' := mu_X6_tailsAboveZero) (fx := f_X6_tailsAboveZero σ 2) (As := []) (c_X6_tailsAboveZero hw (ik_2 hw)) (ok_X6_tailsAboveZero) (ltb rfl) (all3 gw_653 gw_654 gw_655) (ik_2 hw) (by decide) (q := (RX6, TX6, 3)) rfl rfl rfl rfl (Nat.le_of_ble_eq_true rfl) dX10_look_96 (fun v9 => ?_)
    exact jo_ireturn (pc := 99) rfl rfl dX10_look_99
  refine jo_case (v := 4) (fun h10 => ?_) (fun h10 => ?_)
  · refine jo_tswHit (pc := 1) dX10_look_1 h10 (by decide) (by decide) (off := 99) (by rfl) (tgt := 100) rfl ?_
    refine jo_aload_n (pc := 100) 0 rfl dX10_look_100 rfl ?_
    refine jo_getrE (pc := 101) ok_10_9 (ik_0 hw) rf_0_9 gw_486 dX10_look_101 ?_
    refine jo_cV_I_p (pc := 104) (μ' := mu_X4_termCount) (fx := f_X4_termCount σ) (As := []) (c_X4_termCount hw) (ok_X4_termCount) (ltb rfl) (all3 gw_657 gw_658 gw_659) (ik_40 hw) (by decide) (q := (RX4, TX4, 9)) rfl rfl rfl rfl (Nat.le_of_ble_eq_true rfl) dX10_look_104 (fun v11 => ?_)
    exact jo_ireturn (pc := 107) rfl rfl dX10_look_107
  refine jo_case (v := 5) (fun h12 => ?_) (fun h12 => ?_)
  · refine jo_tswHit (pc := 1) dX10_look_1 h12 (by decide) (by decide) (off := 107) (by rfl) (tgt := 108) rfl ?_
    refine jo_aload_n (pc := 108) 0 rfl dX10_look_108 rfl ?_
    refine jo_cV_I_p (pc := 109) (μ' := mu_X10_registersNotOne) (fx := f_X10_registersNotOne σ) (As := []) (c_X10_registersNotOne hw) (ok_X10_registersNotOne) (ltb rfl) (all3 gw_661 gw_663 gw_16) (ik_0 hw) (by decide) (q := (RX10, TX10, 17)) rfl rfl rfl rfl (Nat.le_of_ble_eq_true rfl) dX10_look_109 (fun v13 => ?_)
    exact jo_ireturn (pc := 112) rfl rfl dX10_look_112
  refine jo_case (v := 6) (fun h14 => ?_) (fun h14 => ?_)
  · refine jo_tswHit (pc := 1) dX10_look_1 h14 (by decide) (by decide) (off := 112) (by rfl) (tgt := 113) rfl ?_
    refine jo_aload_n (pc := 113) 0 rfl dX10_look_113 rfl ?_
    refine jo_getf (pc := 114) ok_10_4 (ik_0 hw) gw_481 dX10_look_114 (fun v15 => ?_)
    exact jo_ireturn (pc := 117) rfl rfl dX10_look_117
  refine jo_case (v := 7) (fun h16 => ?_) (fun h16 => ?_)
  · refine jo_tswHit (pc := 1) dX10_look_1 h16 (by decide) (by decide) (off := 117) (by rfl) (tgt := 118) rfl ?_
    refine jo_aload_n (pc := 118) 0 rfl dX10_look_118 rfl ?_
    refine jo_getf (pc := 119) ok_10_7 (ik_0 hw) gw_484 dX10_look_119 (fun v17 => ?_)
    exact jo_ireturn (pc := 122) rfl rfl dX10_look_122
  refine jo_case (v := 8) (fun h18 => ?_) (fun h18 => ?_)
  · refine jo_tswHit (pc := 1) dX10_look_1 h18 (by decide) (by decide) (off := 122) (by rfl) (tgt := 123) rfl ?_
    refine jo_aload_n (pc := 123) 0 rfl dX10_look_123 rfl ?_
    refine jo_getrE (pc := 124) ok_10_0 (ik_0 hw) rf_0_0 gw_477 dX10_look_124 ?_
    refine jo_getrE (pc := 127) ok_8_2 (ik_1 hw) rf_1_2 gw_83 dX10_look_127 ?_
    refine jo_iconst (pc := 130) dX10_look_130 (ic_i_0) ?_
    refine jo_iald (pc := 131) (ik_16 hw) dX10_look_131 (fun v19 => ?_)
    exact jo_ireturn (pc := 132) rfl rfl dX10_look_132
  refine jo_case (v := 9) (fun h20 => ?_) (fun h20 => ?_)
  · refine jo_tswHit (pc := 1) dX10_look_1 h20 (by decide) (by decide) (off := 132) (by rfl) (tgt := 133) rfl ?_
    refine jo_aload_n (pc := 133) 0 rfl dX10_look_133 rfl ?_
    refine jo_getrE (pc := 134) ok_10_9 (ik_0 hw) rf_0_9 gw_486 dX10_look_134 ?_
    refine jo_getz (pc := 137) ok_4_3 (ik_40 hw) gw_159 dX10_look_137 (fun b21 => ?_)
    refine jo_ifz_eq (pc := 140) dX10_look_140 (tgt := 150) rfl ?_ ?_
    · refine jo_iconst (pc := 150) dX10_look_150 (ic_i_0) ?_
      exact jo_ireturn (pc := 151) rfl rfl dX10_look_151
    · refine jo_aload_n (pc := 143) 0 rfl dX10_look_143 rfl ?_
      refine jo_cV_I_p (pc := 144) (μ' := mu_X10_centralGenerators) (fx := f_X10_centralGenerators σ) (As := []) (c_X10_centralGenerators hw) (ok_X10_centralGenerators) (ltb rfl) (all3 gw_669 gw_671 gw_17) (ik_0 hw) (by decide) (q := (RX10, TX10, 17)) rfl rfl rfl rfl (Nat.le_of_ble_eq_true rfl) dX10_look_144 (fun v22 => ?_)
      refine jo_goto (pc := 147) dX10_look_147 (tgt := 151) rfl ?_
      exact jo_ireturn (pc := 151) rfl rfl dX10_look_151
  have qh1 : (x0).toInt ≠ 0 := fun e => h1 (Int32.toInt_inj.mp (e.trans (by decide)))
  have qh3 : (x0).toInt ≠ 1 := fun e => h3 (Int32.toInt_inj.mp (e.trans (by decide)))
  have qh5 : (x0).toInt ≠ 2 := fun e => h5 (Int32.toInt_inj.mp (e.trans (by decide)))
  have qh8 : (x0).toInt ≠ 3 := fun e => h8 (Int32.toInt_inj.mp (e.trans (by decide)))
  have qh10 : (x0).toInt ≠ 4 := fun e => h10 (Int32.toInt_inj.mp (e.trans (by decide)))
  have qh12 : (x0).toInt ≠ 5 := fun e => h12 (Int32.toInt_inj.mp (e.trans (by decide)))
  have qh14 : (x0).toInt ≠ 6 := fun e => h14 (Int32.toInt_inj.mp (e.trans (by decide)))
  have qh16 : (x0).toInt ≠ 7 := fun e => h16 (Int32.toInt_inj.mp (e.trans (by decide)))
  have qh18 : (x0).toInt ≠ 8 := fun e => h18 (Int32.toInt_inj.mp (e.trans (by decide)))
  have qh20 : (x0).toInt ≠ 9 := fun e => h20 (Int32.toInt_inj.mp (e.trans (by decide)))
  refine jo_tableOut (pc := 1) dX10_look_1 (by omega) (tgt := 152) rfl ?_
  refine jo_iconst (pc := 152) dX10_look_152 (ic_i_m1) ?_
  exact jo_ireturn (pc := 153) rfl rfl dX10_look_153
theorem c_X10_look {w : Wd} (hw : WOK w) {σ : Mem} {x0 : Int32} : ∀ r, f_X10_look σ x0 = some r → MC w mu_X10_look (vI r) [.ref (adr w 0), .int x0] σ σ := mc_ofP ok_X10_look rfl (Nat.le_of_ble_eq_true rfl) (t_X10_look hw)
abbrev mu_L_cell : MD := (yL_cell, cL_cell, 2, some .int, 0)
theorem ok_L_cell : MOK mu_L_cell 2 := ⟨gw_623, gw_19, (by decide +kernel : plainFor yL_cell = true), ⟨(by decide +kernel : yL_cell.cls ≠ "java/lang/invoke/MethodHandle"), (by decide +kernel : yL_cell.cls ≠ "java/lang/invoke/VarHandle"), (by decide +kernel : (parseMethodDescriptor yL_cell.desc).map (fun d => d.parameters.length) = some 2)⟩, Nat.le_of_ble_eq_true rfl⟩
noncomputable def f_L_cell (σ : Mem) (sl : Nat) (sx : Nat → Int32) (x1 : Int32) : Option Int32 :=
  if (Int32.ofNat sl) ≤ x1 then (some ((1566083941 * x1) + 947)) else (gS sl sx x1 (fun (v1 : Int32) => some v1))
theorem t_L_cell {w : Wd} (hw : WOK w) {σ : Mem} {sl : Nat} {sx : Nat → Int32} {x1 : Int32} (hsl : sl = wt w 4) (hsx : sx = wS w) : JO w mu_L_cell vI σ [(0, .ref (wt w 3)), (1, .int x1)] [] 0 (f_L_cell σ sl sx x1) (fun z => some (z, σ)) := by
  unfold f_L_cell
  refine jo_iload_n (pc := 0) 1 rfl dL_cell_0 rfl ?_
  refine jo_aload_n (pc := 1) 0 rfl dL_cell_1 rfl ?_
  refine jo_slen (pc := 2) hsl dL_cell_2 ?_
  refine jo_icmp_ge (pc := 3) dL_cell_3 (tgt := 12) rfl ?_ ?_
  · refine jo_ldc (pc := 12) dL_cell_12 gw_624 ?_
    refine jo_iload_n (pc := 14) 1 rfl dL_cell_14 rfl ?_
    refine jo_imul (pc := 15) dL_cell_15 ?_
    refine jo_sipush (pc := 16) dL_cell_16 (ic_s_947) ?_
    refine jo_iadd (pc := 19) dL_cell_19 ?_
    exact jo_ireturn (pc := 20) rfl rfl dL_cell_20
  · refine jo_aload_n (pc := 6) 0 rfl dL_cell_6 rfl ?_
    refine jo_iload_n (pc := 7) 1 rfl dL_cell_7 rfl ?_
    refine jo_sald (pc := 8) hsl hsx dL_cell_8 (fun v1 => ?_)
    refine jo_goto (pc := 9) dL_cell_9 (tgt := 20) rfl ?_
    exact jo_ireturn (pc := 20) rfl rfl dL_cell_20
theorem c_L_cell {w : Wd} (hw : WOK w) {σ : Mem} {sl : Nat} {sx : Nat → Int32} {x1 : Int32} (hsl : sl = wt w 4) (hsx : sx = wS w) : ∀ r, f_L_cell σ sl sx x1 = some r → MC w mu_L_cell (vI r) [.ref (wt w 3), .int x1] σ σ := mc_ofP ok_L_cell rfl (Nat.le_of_ble_eq_true rfl) (t_L_cell hw hsl hsx)
abbrev mu_L_between : MD := (yL_between, cL_between, 3, some .int, 0)
theorem ok_L_between : MOK mu_L_between 3 := ⟨gw_627, gw_19, (by decide +kernel : plainFor yL_between = true), ⟨(by decide +kernel : yL_between.cls ≠ "java/lang/invoke/MethodHandle"), (by decide +kernel : yL_between.cls ≠ "java/lang/invoke/VarHandle"), (by decide +kernel : (parseMethodDescriptor yL_between.desc).map (fun d => d.parameters.length) = some 3)⟩, Nat.le_of_ble_eq_true rfl⟩
noncomputable def f_L_between (σ : Mem) (x0 : Int32) (x1 : Int32) (x2 : Int32) : Option Int32 :=
  nzI ((x2 - x1) + 1) (some (x1 + ((x0 &&& 2147483647) - (x0 &&& 2147483647) / ((x2 - x1) + 1) * ((x2 - x1) + 1))))
theorem t_L_between {w : Wd} (hw : WOK w) {σ : Mem} {x0 : Int32} {x1 : Int32} {x2 : Int32} : JO w mu_L_between vI σ [(0, .int x0), (1, .int x1), (2, .int x2)] [] 0 (f_L_between σ x0 x1 x2) (fun z => some (z, σ)) := by
  unfold f_L_between
  refine jo_iload_n (pc := 0) 1 rfl dL_between_0 rfl ?_
  refine jo_iload_n (pc := 1) 0 rfl dL_between_1 rfl ?_
  refine jo_ldc (pc := 2) dL_between_2 gw_628 ?_
  refine jo_iand (pc := 4) dL_between_4 ?_
  refine jo_iload_n (pc := 5) 2 rfl dL_between_5 rfl ?_
  refine jo_iload_n (pc := 6) 1 rfl dL_between_6 rfl ?_
  refine jo_isub (pc := 7) dL_between_7 ?_
  refine jo_iconst (pc := 8) dL_between_8 (ic_i_1) ?_
  refine jo_iadd (pc := 9) dL_between_9 ?_
  refine jo_irem (pc := 10) dL_between_10 ?_
  refine jo_iadd (pc := 11) dL_between_11 ?_
  exact jo_ireturn (pc := 12) rfl rfl dL_between_12
theorem c_L_between {w : Wd} (hw : WOK w) {σ : Mem} {x0 : Int32} {x1 : Int32} {x2 : Int32} : ∀ r, f_L_between σ x0 x1 x2 = some r → MC w mu_L_between (vI r) [.int x0, .int x1, .int x2] σ σ := mc_ofP ok_L_between rfl (Nat.le_of_ble_eq_true rfl) (t_L_between hw)
abbrev mu_L_group : MD := (yL_group, cL_group, 11, some .int, 8)
theorem ok_L_group : MOK mu_L_group 2 := ⟨gw_631, gw_19, (by decide +kernel : plainFor yL_group = true), ⟨(by decide +kernel : yL_group.cls ≠ "java/lang/invoke/MethodHandle"), (by decide +kernel : yL_group.cls ≠ "java/lang/invoke/VarHandle"), (by decide +kernel : (parseMethodDescriptor yL_group.desc).map (fun d => d.parameters.length) = some 2)⟩, Nat.le_of_ble_eq_true rfl⟩
noncomputable def j_L_group_208 (i9 : Int32) (σ17 : Mem) : Option ((Mem × Int32) ⊕ (Int32 × Mem)) :=
  some (Sum.inl (σ17, i9 + 1))
noncomputable def l_L_group_114 (sl : Nat) (sx : Nat → Int32) (v4 : Int32) (σ8 : Mem) (i9 : Int32) : Option ((Mem × Int32) ⊕ (Int32 × Mem)) :=
  if 5 ≤ i9 then (some (Sum.inr (v4, σ8))) else ((f_L_cell σ8 sl sx (3 + i9)).bind (fun (v10 : Int32) => (f_L_between σ8 v10 1 v4).bind (fun (v11 : Int32) => (f_L_between σ8 (v10 >>> (4 &&& 31)) 1 v4).bind (fun (v12 : Int32) => (f_L_between σ8 (v10 >>> (8 &&& 31)) 1 v4).bind (fun (v13 : Int32) => (f_L_between σ8 (v10 >>> (12 &&& 31)) 0 3).bind (fun (v14 : Int32) => bq (f_X10_tail σ8 v12 v11 v13 v14) (fun (b15 : Bool) (σ16 : Mem) => (if b15 then (f_X10_consistent σ16).bind (fun (v18 : Int32) => if v18 = 0 then (bq (f_X10_tail σ16 v12 v11 v13 0) (fun (b19 : Bool) (σ20 : Mem) => if b19 then some (Sum.inl σ20) else some (Sum.inr (Sum.inr ((-1), σ20))))) else (some (Sum.inl σ16))) else some (Sum.inl σ16) : Option (Mem ⊕ ((Mem × Int32) ⊕ (Int32 × Mem)))).bind (Sum.elim (fun (z17 : Mem) => j_L_group_208 i9 z17) some))))))))
noncomputable def j_L_group_103 (σ : Mem) (sl : Nat) (sx : Nat → Int32) (v4 : Int32) (i5 : Int32) : Option (Int32 × Mem) :=
  bq (f_X10_group σ v4 i5) (fun (b6 : Bool) (σ7 : Mem) => loopO (fun (z9 : (Mem × Int32)) => l_L_group_114 sl sx v4 z9.1 z9.2) (σ7, 0))
noncomputable def j_L_group_85 (i21 : Int32) (i23 : Int32) (i24 : Int32) : Option ((Int32 × Int32 × Int32) ⊕ Int32) :=
  bd (i21 ||| (i24 <<< ((2 * i23) &&& 31))) (fun (v25 : Int32) => some (Sum.inl (v25, i24, i23 + 1)))
noncomputable def l_L_group_49 (σ : Mem) (sl : Nat) (sx : Nat → Int32) (v4 : Int32) (i21 : Int32) (i22 : Int32) (i23 : Int32) : Option ((Int32 × Int32 × Int32) ⊕ Int32) :=
  if v4 ≤ i23 then (some (Sum.inr i21)) else ((if i23 ≤ 1 then (some i22) else ((f_L_cell σ sl sx 2).bind (fun (v26 : Int32) => if ((v26 >>> ((2 * i23) &&& 31)) &&& 3) = 0 then (if 3 ≤ i22 then (some i22) else (some (i22 + 1))) else (some i22))) : Option Int32).bind (fun (z24 : Int32) => j_L_group_85 i21 i23 z24))
noncomputable def f_L_group (σ : Mem) (sl : Nat) (sx : Nat → Int32) : Option (Int32 × Mem) :=
  (f_L_cell σ sl sx 0).bind (fun (v1 : Int32) => (f_L_between σ v1 0 5).bind (fun (v2 : Int32) => if 4 ≤ v2 then ((f_L_cell σ sl sx 1).bind (fun (v3 : Int32) => (f_L_between σ v3 2 6).bind (fun (v4 : Int32) => (loopO (fun (z23 : (Int32 × Int32 × Int32)) => l_L_group_49 σ sl sx v4 z23.1 z23.2.1 z23.2.2) (0, 1, 0) : Option Int32).bind (fun (z5 : Int32) => j_L_group_103 σ sl sx v4 z5)))) else (bq (f_X10_kind σ v2) (fun (b27 : Bool) (σ28 : Mem) => (f_X10_look σ28 0).bind (fun (v29 : Int32) => some (v29, σ28))))))
theorem t_L_group {w : Wd} (hw : WOK w) {σ : Mem} {sl : Nat} {sx : Nat → Int32} (hsl : sl = wt w 4) (hsx : sx = wS w) : JO w mu_L_group vI σ [(0, .ref (adr w 0)), (1, .ref (wt w 3))] [] 0 (f_L_group σ sl sx) some := by
  unfold f_L_group
  refine jo_aload_n (pc := 0) 1 rfl dL_group_0 rfl ?_
  refine jo_iconst (pc := 1) dL_group_1 (ic_i_0) ?_
  refine jo_cS_I_p (pc := 2) (μ' := mu_L_cell) (fx := f_L_cell σ sl sx 0) (As := [.ref (wt w 3), .int 0]) (c_L_cell hw (hsl) (hsx)) (ok_L_cell) (ltb rfl) (all2 gw_621 gw_622) rfl rfl (Nat.le_of_ble_eq_true rfl) dL_group_2 (fun v1 => ?_)
  refine jo_iconst (pc := 5) dL_group_5 (ic_i_0) ?_
  refine jo_iconst (pc := 6) dL_group_6 (ic_i_5) ?_
  refine jo_cS_I_p (pc := 7) (μ' := mu_L_between) (fx := f_L_between σ v1 0 5) (As := [.int v1, .int 0, .int 5]) (c_L_between hw) (ok_L_between) (ltb rfl) (all2 gw_625 gw_626) rfl rfl (Nat.le_of_ble_eq_true rfl) dL_group_7 (fun v2 => ?_)
  refine jo_istore_n (pc := 10) (lv' := [(2, .int v2), (0, .ref (adr w 0)), (1, .ref (wt w 3))]) dL_group_10 rfl (ltb rfl) rfl ?_
  refine jo_iload_n (pc := 11) 0 rfl dL_group_11 rfl ?_
  refine jo_iconst (pc := 12) dL_group_12 (ic_i_4) ?_
  refine jo_icmp_ge (pc := 13) dL_group_13 (tgt := 28) rfl ?_ ?_
  · refine jo_aload_n (pc := 28) 2 rfl dL_group_28 rfl ?_
    refine jo_iconst (pc := 29) dL_group_29 (ic_i_1) ?_
    refine jo_cS_I_p (pc := 30) (μ' := mu_L_cell) (fx := f_L_cell σ sl sx 1) (As := [.ref (wt w 3), .int 1]) (c_L_cell hw (hsl) (hsx)) (ok_L_cell) (ltb rfl) (all2 gw_621 gw_622) rfl rfl (Nat.le_of_ble_eq_true rfl) dL_group_30 (fun v3 => ?_)
    refine jo_iconst (pc := 33) dL_group_33 (ic_i_2) ?_
    refine jo_bipush (pc := 34) dL_group_34 (ic_b_6) ?_
    refine jo_cS_I_p (pc := 36) (μ' := mu_L_between) (fx := f_L_between σ v3 2 6) (As := [.int v3, .int 2, .int 6]) (c_L_between hw) (ok_L_between) (ltb rfl) (all2 gw_625 gw_626) rfl rfl (Nat.le_of_ble_eq_true rfl) dL_group_36 (fun v4 => ?_)
    refine jo_istore_n (pc := 39) (lv' := [(3, .int v4), (2, .int v2), (0, .ref (adr w 0)), (1, .ref (wt w 3))]) dL_group_39 rfl (ltb rfl) rfl ?_
    refine jo_iconst (pc := 40) dL_group_40 (ic_i_0) ?_
    refine jo_istore (pc := 41) (lv' := [(4, .int 0), (3, .int v4), (2, .int v2), (0, .ref (adr w 0)), (1, .ref (wt w 3))]) dL_group_41 (ltb rfl) rfl ?_
    refine jo_iconst (pc := 43) dL_group_43 (ic_i_1) ?_
    refine jo_istore (pc := 44) (lv' := [(5, .int 1), (4, .int 0), (3, .int v4), (2, .int v2), (0, .ref (adr w 0)), (1, .ref (wt w 3))]) dL_group_44 (ltb rfl) rfl ?_
    refine jo_iconst (pc := 46) dL_group_46 (ic_i_0) ?_
    refine jo_istore (pc := 47) (lv' := [(6, .int 0), (5, .int 1), (4, .int 0), (3, .int v4), (2, .int v2), (0, .ref (adr w 0)), (1, .ref (wt w 3))]) dL_group_47 (ltb rfl) rfl ?_
    refine jo_join1 (S := Int32) (fun (z5 : Int32) => σ) (fun (z5 : Int32) => [(3, .int v4), (0, .ref (adr w 0)), (1, .ref (wt w 3)), (4, .int z5)]) (fun (z5 : Int32) => []) 103 ?_ (fun h103_5 => ?_)
    · intro i5
      show JO w mu_L_group vI σ [(3, .int v4), (0, .ref (adr w 0)), (1, .ref (wt w 3)), (4, .int i5)] [] 103 (j_L_group_103 σ sl sx v4 i5) _
      unfold j_L_group_103
      refine jo_aload_n (pc := 103) 1 rfl dL_group_103 rfl ?_
      refine jo_iload_n (pc := 104) 0 rfl dL_group_104 rfl ?_
      refine jo_iload (pc := 105) 3 rfl dL_group_105 ?_
      refine jo_cV_Z_i (pc := 107) (μ' := mu_X10_group) (fx := f_X10_group σ v4 i5) (As := [.int v4, .int i5]) (c_X10_group hw) (ok_X10_group) (ltb rfl) (all3 gw_682 gw_683 gw_684) (ik_0 hw) (by decide) (q := (RX10, TX10, 17)) rfl rfl rfl rfl (Nat.le_of_ble_eq_true rfl) dL_group_107 (fun b6 σ7 => ?_)
      refine jo_pop (pc := 110) dL_group_110 rfl ?_
      refine jo_iconst (pc := 111) dL_group_111 (ic_i_0) ?_
      refine jo_istore (pc := 112) (lv' := [(6, .int 0), (3, .int v4), (0, .ref (adr w 0)), (1, .ref (wt w 3)), (4, .int i5)]) dL_group_112 (ltb rfl) rfl ?_
      refine jo_lv (lv' := [(3, .int v4), (0, .ref (adr w 0)), (1, .ref (wt w 3)), (6, .int 0)]) [1, 2, 3, 0] rfl ?_
      refine jo_loop (X := (Int32 × Mem)) (fun (z9 : (Mem × Int32)) => z9.1) (fun (z9 : (Mem × Int32)) => [(3, .int v4), (0, .ref (adr w 0)), (1, .ref (wt w 3)), (6, .int z9.2)]) (body := (fun (z9 : (Mem × Int32)) => l_L_group_114 sl sx v4 z9.1 z9.2)) (fun F114_9 hF114_9 s => ?_) (σ7, 0)
      obtain ⟨σ8, i9⟩ := s
      show JO w mu_L_group vI σ8 [(3, .int v4), (0, .ref (adr w 0)), (1, .ref (wt w 3)), (6, .int i9)] [] 114 (l_L_group_114 sl sx v4 σ8 i9) _
      unfold l_L_group_114
      refine jo_iload (pc := 114) 3 rfl dL_group_114 ?_
      refine jo_iconst (pc := 116) dL_group_116 (ic_i_5) ?_
      refine jo_icmp_ge (pc := 117) dL_group_117 (tgt := 214) rfl ?_ ?_
      · refine jo_iload_n (pc := 214) 0 rfl dL_group_214 rfl ?_
        exact jo_ireturn (pc := 215) rfl rfl dL_group_215
      · refine jo_aload_n (pc := 120) 2 rfl dL_group_120 rfl ?_
        refine jo_iconst (pc := 121) dL_group_121 (ic_i_3) ?_
        refine jo_iload (pc := 122) 3 rfl dL_group_122 ?_
        refine jo_iadd (pc := 124) dL_group_124 ?_
        refine jo_cS_I_p (pc := 125) (μ' := mu_L_cell) (fx := f_L_cell σ8 sl sx (3 + i9)) (As := [.ref (wt w 3), .int (3 + i9)]) (c_L_cell hw (hsl) (hsx)) (ok_L_cell) (ltb rfl) (all2 gw_621 gw_622) rfl rfl (Nat.le_of_ble_eq_true rfl) dL_group_125 (fun v10 => ?_)
        refine jo_istore (pc := 128) (lv' := [(7, .int v10), (3, .int v4), (0, .ref (adr w 0)), (1, .ref (wt w 3)), (6, .int i9)]) dL_group_128 (ltb rfl) rfl ?_
        refine jo_iload (pc := 130) 0 rfl dL_group_130 ?_
        refine jo_iconst (pc := 132) dL_group_132 (ic_i_1) ?_
        refine jo_iload_n (pc := 133) 1 rfl dL_group_133 rfl ?_
        refine jo_cS_I_p (pc := 134) (μ' := mu_L_between) (fx := f_L_between σ8 v10 1 v4) (As := [.int v10, .int 1, .int v4]) (c_L_between hw) (ok_L_between) (ltb rfl) (all2 gw_625 gw_626) rfl rfl (Nat.le_of_ble_eq_true rfl) dL_group_134 (fun v11 => ?_)
        refine jo_istore (pc := 137) (lv' := [(8, .int v11), (7, .int v10), (3, .int v4), (0, .ref (adr w 0)), (1, .ref (wt w 3)), (6, .int i9)]) dL_group_137 (ltb rfl) rfl ?_
        refine jo_iload (pc := 139) 1 rfl dL_group_139 ?_
        refine jo_iconst (pc := 141) dL_group_141 (ic_i_4) ?_
        refine jo_ishr (pc := 142) dL_group_142 ?_
        refine jo_iconst (pc := 143) dL_group_143 (ic_i_1) ?_
        refine jo_iload_n (pc := 144) 2 rfl dL_group_144 rfl ?_
        refine jo_cS_I_p (pc := 145) (μ' := mu_L_between) (fx := f_L_between σ8 (v10 >>> (4 &&& 31)) 1 v4) (As := [.int (v10 >>> (4 &&& 31)), .int 1, .int v4]) (c_L_between hw) (ok_L_between) (ltb rfl) (all2 gw_625 gw_626) rfl rfl (Nat.le_of_ble_eq_true rfl) dL_group_145 (fun v12 => ?_)
        refine jo_istore (pc := 148) (lv' := [(9, .int v12), (8, .int v11), (7, .int v10), (3, .int v4), (0, .ref (adr w 0)), (1, .ref (wt w 3)), (6, .int i9)]) dL_group_148 (ltb rfl) rfl ?_
        refine jo_iload (pc := 150) 2 rfl dL_group_150 ?_
        refine jo_bipush (pc := 152) dL_group_152 (ic_b_8) ?_
        refine jo_ishr (pc := 154) dL_group_154 ?_
        refine jo_iconst (pc := 155) dL_group_155 (ic_i_1) ?_
        refine jo_iload_n (pc := 156) 3 rfl dL_group_156 rfl ?_
        refine jo_cS_I_p (pc := 157) (μ' := mu_L_between) (fx := f_L_between σ8 (v10 >>> (8 &&& 31)) 1 v4) (As := [.int (v10 >>> (8 &&& 31)), .int 1, .int v4]) (c_L_between hw) (ok_L_between) (ltb rfl) (all2 gw_625 gw_626) rfl rfl (Nat.le_of_ble_eq_true rfl) dL_group_157 (fun v13 => ?_)
        refine jo_istore (pc := 160) (lv' := [(10, .int v13), (9, .int v12), (8, .int v11), (7, .int v10), (3, .int v4), (0, .ref (adr w 0)), (1, .ref (wt w 3)), (6, .int i9)]) dL_group_160 (ltb rfl) rfl ?_
        refine jo_aload_n (pc := 162) 5 rfl dL_group_162 rfl ?_
        refine jo_iload (pc := 163) 1 rfl dL_group_163 ?_
        refine jo_iload (pc := 165) 2 rfl dL_group_165 ?_
        refine jo_iload (pc := 167) 0 rfl dL_group_167 ?_
        refine jo_iload (pc := 169) 3 rfl dL_group_169 ?_
        refine jo_bipush (pc := 171) dL_group_171 (ic_b_12) ?_
        refine jo_ishr (pc := 173) dL_group_173 ?_
        refine jo_iconst (pc := 174) dL_group_174 (ic_i_0) ?_
        refine jo_iconst (pc := 175) dL_group_175 (ic_i_3) ?_
        refine jo_cS_I_p (pc := 176) (μ' := mu_L_between) (fx := f_L_between σ8 (v10 >>> (12 &&& 31)) 0 3) (As := [.int (v10 >>> (12 &&& 31)), .int 0, .int 3]) (c_L_between hw) (ok_L_between) (ltb rfl) (all2 gw_625 gw_626) rfl rfl (Nat.le_of_ble_eq_true rfl) dL_group_176 (fun v14 => ?_)
        refine jo_cV_Z_i (pc := 179) (μ' := mu_X10_tail) (fx := f_X10_tail σ8 v12 v11 v13 v14) (As := [.int v12, .int v11, .int v13, .int v14]) (c_X10_tail hw) (ok_X10_tail) (ltb rfl) (all3 gw_690 gw_691 gw_692) (ik_0 hw) (by decide) (q := (RX10, TX10, 17)) rfl rfl rfl rfl (Nat.le_of_ble_eq_true rfl) dL_group_179 (fun b15 σ16 => ?_)
        refine jo_joinS (S := Mem) (fun (z17 : Mem) => z17) (fun (z17 : Mem) => [(3, .int v4), (0, .ref (adr w 0)), (1, .ref (wt w 3)), (6, .int i9)]) (fun (z17 : Mem) => []) 208 ?_ (fun h208_17 => ?_)
        · intro σ17
          show JO w mu_L_group vI σ17 [(3, .int v4), (0, .ref (adr w 0)), (1, .ref (wt w 3)), (6, .int i9)] [] 208 (j_L_group_208 i9 σ17) _
          unfold j_L_group_208
          refine jo_iinc (pc := 208) (lv' := [(6, .int (i9 + 1)), (3, .int v4), (0, .ref (adr w 0)), (1, .ref (wt w 3))]) 3 rfl dL_group_208 (congrArg (fun z => i9 + z) (ic_i_1)) (ltb rfl) rfl ?_
          refine jo_goto (pc := 211) dL_group_211 (tgt := 114) rfl ?_
          refine jo_lv (lv' := [(3, .int v4), (0, .ref (adr w 0)), (1, .ref (wt w 3)), (6, .int (i9 + 1))]) [1, 2, 3, 0] rfl ?_
          exact jo_leaf (by rfl) (hF114_9 (σ17, i9 + 1))
        · refine jo_ifz_eq (pc := 182) dL_group_182 (tgt := 208) rfl ?_ ?_
          · refine jo_lv (lv' := [(3, .int v4), (0, .ref (adr w 0)), (1, .ref (wt w 3)), (6, .int i9)]) [4, 5, 6, 7] rfl ?_
            exact jo_leaf (by rfl) (h208_17 σ16)
          · refine jo_aload_n (pc := 185) 5 rfl dL_group_185 rfl ?_
            refine jo_cV_I_p (pc := 186) (μ' := mu_X10_consistent) (fx := f_X10_consistent σ16) (As := []) (c_X10_consistent hw) (ok_X10_consistent) (ltb rfl) (all3 gw_529 gw_530 gw_531) (ik_0 hw) (by decide) (q := (RX10, TX10, 17)) rfl rfl rfl rfl (Nat.le_of_ble_eq_true rfl) dL_group_186 (fun v18 => ?_)
            refine jo_if_ne (pc := 189) dL_group_189 (tgt := 208) rfl ?_ ?_
            · refine jo_lv (lv' := [(3, .int v4), (0, .ref (adr w 0)), (1, .ref (wt w 3)), (6, .int i9)]) [4, 5, 6, 7] rfl ?_
              exact jo_leaf (by rfl) (h208_17 σ16)
            · refine jo_aload_n (pc := 192) 5 rfl dL_group_192 rfl ?_
              refine jo_iload (pc := 193) 1 rfl dL_group_193 ?_
              refine jo_iload (pc := 195) 2 rfl dL_group_195 ?_
              refine jo_iload (pc := 197) 0 rfl dL_group_197 ?_
              refine jo_iconst (pc := 199) dL_group_199 (ic_i_0) ?_
              refine jo_cV_Z_i (pc := 200) (μ' := mu_X10_tail) (fx := f_X10_tail σ16 v12 v11 v13 0) (As := [.int v12, .int v11, .int v13, .int 0]) (c_X10_tail hw) (ok_X10_tail) (ltb rfl) (all3 gw_690 gw_691 gw_692) (ik_0 hw) (by decide) (q := (RX10, TX10, 17)) rfl rfl rfl rfl (Nat.le_of_ble_eq_true rfl) dL_group_200 (fun b19 σ20 => ?_)
              refine jo_ifz_ne (pc := 203) dL_group_203 (tgt := 208) rfl ?_ ?_
              · refine jo_lv (lv' := [(3, .int v4), (0, .ref (adr w 0)), (1, .ref (wt w 3)), (6, .int i9)]) [4, 5, 6, 7] rfl ?_
                exact jo_leaf (by rfl) (h208_17 σ20)
              · refine jo_iconst (pc := 206) dL_group_206 (ic_i_m1) ?_
                exact jo_ireturn (pc := 207) rfl rfl dL_group_207
    · refine jo_lv (lv' := [(3, .int v4), (0, .ref (adr w 0)), (1, .ref (wt w 3)), (4, .int 0), (5, .int 1), (6, .int 0)]) [3, 5, 6, 2, 1, 0] rfl ?_
      refine jo_loop (X := Int32) (fun (z23 : (Int32 × Int32 × Int32)) => σ) (fun (z23 : (Int32 × Int32 × Int32)) => [(3, .int v4), (0, .ref (adr w 0)), (1, .ref (wt w 3)), (4, .int z23.1), (5, .int z23.2.1), (6, .int z23.2.2)]) (body := (fun (z23 : (Int32 × Int32 × Int32)) => l_L_group_49 σ sl sx v4 z23.1 z23.2.1 z23.2.2)) (fun F49_23 hF49_23 s => ?_) (0, 1, 0)
      obtain ⟨i21, i22, i23⟩ := s
      show JO w mu_L_group vI σ [(3, .int v4), (0, .ref (adr w 0)), (1, .ref (wt w 3)), (4, .int i21), (5, .int i22), (6, .int i23)] [] 49 (l_L_group_49 σ sl sx v4 i21 i22 i23) _
      unfold l_L_group_49
      refine jo_iload (pc := 49) 5 rfl dL_group_49 ?_
      refine jo_iload_n (pc := 51) 0 rfl dL_group_51 rfl ?_
      refine jo_icmp_ge (pc := 52) dL_group_52 (tgt := 103) rfl ?_ ?_
      · refine jo_lv (lv' := [(3, .int v4), (0, .ref (adr w 0)), (1, .ref (wt w 3)), (4, .int i21)]) [0, 1, 2, 3] rfl ?_
        exact jo_leaf (by rfl) (h103_5 i21)
      · refine jo_iload (pc := 55) 5 rfl dL_group_55 ?_
        refine jo_iconst (pc := 57) dL_group_57 (ic_i_1) ?_
        refine jo_join1 (S := Int32) (fun (z24 : Int32) => σ) (fun (z24 : Int32) => [(3, .int v4), (0, .ref (adr w 0)), (1, .ref (wt w 3)), (4, .int i21), (6, .int i23), (5, .int z24)]) (fun (z24 : Int32) => []) 85 ?_ (fun h85_24 => ?_)
        · intro i24
          show JO w mu_L_group vI σ [(3, .int v4), (0, .ref (adr w 0)), (1, .ref (wt w 3)), (4, .int i21), (6, .int i23), (5, .int i24)] [] 85 (j_L_group_85 i21 i23 i24) _
          unfold j_L_group_85
          refine jo_iload (pc := 85) 3 rfl dL_group_85 ?_
          refine jo_iload (pc := 87) 5 rfl dL_group_87 ?_
          refine jo_iconst (pc := 89) dL_group_89 (ic_i_2) ?_
          refine jo_iload (pc := 90) 4 rfl dL_group_90 ?_
          refine jo_imul (pc := 92) dL_group_92 ?_
          refine jo_ishl (pc := 93) dL_group_93 ?_
          refine jo_ior (pc := 94) dL_group_94 ?_
          refine jo_bd ?_
          refine jo_istore (pc := 95) (lv' := [(4, .int (i21 ||| (i24 <<< ((2 * i23) &&& 31)))), (3, .int v4), (0, .ref (adr w 0)), (1, .ref (wt w 3)), (6, .int i23), (5, .int i24)]) dL_group_95 (ltb rfl) rfl ?_
          generalize (i21 ||| (i24 <<< ((2 * i23) &&& 31))) = v25
          refine jo_iinc (pc := 97) (lv' := [(6, .int (i23 + 1)), (4, .int v25), (3, .int v4), (0, .ref (adr w 0)), (1, .ref (wt w 3)), (5, .int i24)]) 4 rfl dL_group_97 (congrArg (fun z => i23 + z) (ic_i_1)) (ltb rfl) rfl ?_
          refine jo_goto (pc := 100) dL_group_100 (tgt := 49) rfl ?_
          refine jo_lv (lv' := [(3, .int v4), (0, .ref (adr w 0)), (1, .ref (wt w 3)), (4, .int v25), (5, .int i24), (6, .int (i23 + 1))]) [2, 3, 4, 1, 5, 0] rfl ?_
          exact jo_leaf (by rfl) (hF49_23 (v25, i24, i23 + 1))
        · refine jo_icmp_le (pc := 58) dL_group_58 (tgt := 85) rfl ?_ ?_
          · refine jo_lv (lv' := [(3, .int v4), (0, .ref (adr w 0)), (1, .ref (wt w 3)), (4, .int i21), (6, .int i23), (5, .int i22)]) [0, 1, 2, 3, 5, 4] rfl ?_
            exact jo_leaf (by rfl) (h85_24 i22)
          · refine jo_aload_n (pc := 61) 2 rfl dL_group_61 rfl ?_
            refine jo_iconst (pc := 62) dL_group_62 (ic_i_2) ?_
            refine jo_cS_I_p (pc := 63) (μ' := mu_L_cell) (fx := f_L_cell σ sl sx 2) (As := [.ref (wt w 3), .int 2]) (c_L_cell hw (hsl) (hsx)) (ok_L_cell) (ltb rfl) (all2 gw_621 gw_622) rfl rfl (Nat.le_of_ble_eq_true rfl) dL_group_63 (fun v26 => ?_)
            refine jo_iconst (pc := 66) dL_group_66 (ic_i_2) ?_
            refine jo_iload (pc := 67) 5 rfl dL_group_67 ?_
            refine jo_imul (pc := 69) dL_group_69 ?_
            refine jo_ishr (pc := 70) dL_group_70 ?_
            refine jo_iconst (pc := 71) dL_group_71 (ic_i_3) ?_
            refine jo_iand (pc := 72) dL_group_72 ?_
            refine jo_if_ne (pc := 73) dL_group_73 (tgt := 85) rfl ?_ ?_
            · refine jo_lv (lv' := [(3, .int v4), (0, .ref (adr w 0)), (1, .ref (wt w 3)), (4, .int i21), (6, .int i23), (5, .int i22)]) [0, 1, 2, 3, 5, 4] rfl ?_
              exact jo_leaf (by rfl) (h85_24 i22)
            · refine jo_iload (pc := 76) 4 rfl dL_group_76 ?_
              refine jo_iconst (pc := 78) dL_group_78 (ic_i_3) ?_
              refine jo_icmp_ge (pc := 79) dL_group_79 (tgt := 85) rfl ?_ ?_
              · refine jo_lv (lv' := [(3, .int v4), (0, .ref (adr w 0)), (1, .ref (wt w 3)), (4, .int i21), (6, .int i23), (5, .int i22)]) [0, 1, 2, 3, 5, 4] rfl ?_
                exact jo_leaf (by rfl) (h85_24 i22)
              · refine jo_iinc (pc := 82) (lv' := [(5, .int (i22 + 1)), (3, .int v4), (0, .ref (adr w 0)), (1, .ref (wt w 3)), (4, .int i21), (6, .int i23)]) 4 rfl dL_group_82 (congrArg (fun z => i22 + z) (ic_i_1)) (ltb rfl) rfl ?_
                refine jo_lv (lv' := [(3, .int v4), (0, .ref (adr w 0)), (1, .ref (wt w 3)), (4, .int i21), (6, .int i23), (5, .int (i22 + 1))]) [1, 2, 3, 4, 5, 0] rfl ?_
                exact jo_leaf (by rfl) (h85_24 (i22 + 1))
  · refine jo_aload_n (pc := 16) 1 rfl dL_group_16 rfl ?_
    refine jo_iload_n (pc := 17) 0 rfl dL_group_17 rfl ?_
    refine jo_cV_Z_i (pc := 18) (μ' := mu_X10_kind) (fx := f_X10_kind σ v2) (As := [.int v2]) (c_X10_kind hw) (ok_X10_kind) (ltb rfl) (all3 gw_632 gw_633 gw_634) (ik_0 hw) (by decide) (q := (RX10, TX10, 17)) rfl rfl rfl rfl (Nat.le_of_ble_eq_true rfl) dL_group_18 (fun b27 σ28 => ?_)
    refine jo_pop (pc := 21) dL_group_21 rfl ?_
    refine jo_aload_n (pc := 22) 1 rfl dL_group_22 rfl ?_
    refine jo_iconst (pc := 23) dL_group_23 (ic_i_0) ?_
    refine jo_cV_I_p (pc := 24) (μ' := mu_X10_look) (fx := f_X10_look σ28 0) (As := [.int 0]) (c_X10_look hw) (ok_X10_look) (ltb rfl) (all3 gw_648 gw_649 gw_650) (ik_0 hw) (by decide) (q := (RX10, TX10, 17)) rfl rfl rfl rfl (Nat.le_of_ble_eq_true rfl) dL_group_24 (fun v29 => ?_)
    exact jo_ireturn (pc := 27) rfl rfl dL_group_27
theorem c_L_group {w : Wd} (hw : WOK w) {σ : Mem} {sl : Nat} {sx : Nat → Int32} (hsl : sl = wt w 4) (hsx : sx = wS w) : ∀ r σ', f_L_group σ sl sx = some (r, σ') → MC w mu_L_group (vI r) [.ref (adr w 0), .ref (wt w 3)] σ σ' := mc_of ok_L_group rfl (Nat.le_of_ble_eq_true rfl) (t_L_group hw hsl hsx)
abbrev mu_L_sets : MD := (yL_sets, cL_sets, 8, none, 5)
theorem ok_L_sets : MOK mu_L_sets 6 := ⟨gw_701, gw_19, (by decide +kernel : plainFor yL_sets = true), ⟨(by decide +kernel : yL_sets.cls ≠ "java/lang/invoke/MethodHandle"), (by decide +kernel : yL_sets.cls ≠ "java/lang/invoke/VarHandle"), (by decide +kernel : (parseMethodDescriptor yL_sets.desc).map (fun d => d.parameters.length) = some 6)⟩, Nat.le_of_ble_eq_true rfl⟩
noncomputable def l_L_sets_25 (sl : Nat) (sx : Nat → Int32) (x2 : Int32) (x3 : Int32) (x4 : Int32) (i3 : Int32) (σ4 : Mem) (i5 : Int32) : Option ((Mem × Int32) ⊕ Mem) :=
  if x4 < i5 then (some (Sum.inr σ4)) else ((f_L_cell σ4 sl sx (x2 + i5)).bind (fun (v6 : Int32) => (f_L_between σ4 v6 (-i3) i3).bind (fun (v7 : Int32) => bq (f_X10_set σ4 x3 i5 v7) (fun (b8 : Bool) (σ9 : Mem) => some (Sum.inl (σ9, i5 + 1))))))
noncomputable def j_L_sets_20 (σ : Mem) (sl : Nat) (sx : Nat → Int32) (x2 : Int32) (x3 : Int32) (x4 : Int32) (i3 : Int32) : Option Mem :=
  loopO (fun (z5 : (Mem × Int32)) => l_L_sets_25 sl sx x2 x3 x4 i3 z5.1 z5.2) (σ, 1)
noncomputable def f_L_sets (σ : Mem) (sl : Nat) (sx : Nat → Int32) (x2 : Int32) (x3 : Int32) (x4 : Int32) (x5 : Int32) : Option Mem :=
  (f_L_cell σ sl sx 0).bind (fun (v1 : Int32) => (f_L_between σ v1 0 5).bind (fun (v2 : Int32) => (if 4 ≤ v2 then (some 2) else (some x5) : Option Int32).bind (fun (z3 : Int32) => j_L_sets_20 σ sl sx x2 x3 x4 z3)))
theorem t_L_sets {w : Wd} (hw : WOK w) {σ : Mem} {sl : Nat} {sx : Nat → Int32} {x2 : Int32} {x3 : Int32} {x4 : Int32} {x5 : Int32} (hsl : sl = wt w 4) (hsx : sx = wS w) : JO w mu_L_sets vV σ [(0, .ref (adr w 0)), (1, .ref (wt w 3)), (2, .int x2), (3, .int x3), (4, .int x4), (5, .int x5)] [] 0 (f_L_sets σ sl sx x2 x3 x4 x5) (fun z => some ((), z)) := by
  unfold f_L_sets
  refine jo_aload_n (pc := 0) 1 rfl dL_sets_0 rfl ?_
  refine jo_iconst (pc := 1) dL_sets_1 (ic_i_0) ?_
  refine jo_cS_I_p (pc := 2) (μ' := mu_L_cell) (fx := f_L_cell σ sl sx 0) (As := [.ref (wt w 3), .int 0]) (c_L_cell hw (hsl) (hsx)) (ok_L_cell) (ltb rfl) (all2 gw_621 gw_622) rfl rfl (Nat.le_of_ble_eq_true rfl) dL_sets_2 (fun v1 => ?_)
  refine jo_iconst (pc := 5) dL_sets_5 (ic_i_0) ?_
  refine jo_iconst (pc := 6) dL_sets_6 (ic_i_5) ?_
  refine jo_cS_I_p (pc := 7) (μ' := mu_L_between) (fx := f_L_between σ v1 0 5) (As := [.int v1, .int 0, .int 5]) (c_L_between hw) (ok_L_between) (ltb rfl) (all2 gw_625 gw_626) rfl rfl (Nat.le_of_ble_eq_true rfl) dL_sets_7 (fun v2 => ?_)
  refine jo_iconst (pc := 10) dL_sets_10 (ic_i_4) ?_
  refine jo_join1 (S := Int32) (fun (z3 : Int32) => σ) (fun (z3 : Int32) => [(0, .ref (adr w 0)), (1, .ref (wt w 3)), (2, .int x2), (3, .int x3), (4, .int x4)]) (fun (z3 : Int32) => [.int z3]) 20 ?_ (fun h20_3 => ?_)
  · intro i3
    show JO w mu_L_sets vV σ [(0, .ref (adr w 0)), (1, .ref (wt w 3)), (2, .int x2), (3, .int x3), (4, .int x4)] [.int i3] 20 (j_L_sets_20 σ sl sx x2 x3 x4 i3) _
    unfold j_L_sets_20
    refine jo_istore (pc := 20) (lv' := [(6, .int i3), (0, .ref (adr w 0)), (1, .ref (wt w 3)), (2, .int x2), (3, .int x3), (4, .int x4)]) dL_sets_20 (ltb rfl) rfl ?_
    refine jo_iconst (pc := 22) dL_sets_22 (ic_i_1) ?_
    refine jo_istore (pc := 23) (lv' := [(7, .int 1), (6, .int i3), (0, .ref (adr w 0)), (1, .ref (wt w 3)), (2, .int x2), (3, .int x3), (4, .int x4)]) dL_sets_23 (ltb rfl) rfl ?_
    refine jo_lv (lv' := [(6, .int i3), (0, .ref (adr w 0)), (1, .ref (wt w 3)), (2, .int x2), (3, .int x3), (4, .int x4), (7, .int 1)]) [1, 2, 3, 4, 5, 6, 0] rfl ?_
    refine jo_loop (X := Mem) (fun (z5 : (Mem × Int32)) => z5.1) (fun (z5 : (Mem × Int32)) => [(6, .int i3), (0, .ref (adr w 0)), (1, .ref (wt w 3)), (2, .int x2), (3, .int x3), (4, .int x4), (7, .int z5.2)]) (body := (fun (z5 : (Mem × Int32)) => l_L_sets_25 sl sx x2 x3 x4 i3 z5.1 z5.2)) (fun F25_5 hF25_5 s => ?_) (σ, 1)
    obtain ⟨σ4, i5⟩ := s
    show JO w mu_L_sets vV σ4 [(6, .int i3), (0, .ref (adr w 0)), (1, .ref (wt w 3)), (2, .int x2), (3, .int x3), (4, .int x4), (7, .int i5)] [] 25 (l_L_sets_25 sl sx x2 x3 x4 i3 σ4 i5) _
    unfold l_L_sets_25
    refine jo_iload (pc := 25) 6 rfl dL_sets_25 ?_
    refine jo_iload (pc := 27) 5 rfl dL_sets_27 ?_
    refine jo_icmp_gt (pc := 29) dL_sets_29 (tgt := 62) rfl ?_ ?_
    · exact jo_return (pc := 62) rfl rfl dL_sets_62
    · refine jo_aload_n (pc := 32) 1 rfl dL_sets_32 rfl ?_
      refine jo_iload_n (pc := 33) 4 rfl dL_sets_33 rfl ?_
      refine jo_iload (pc := 34) 6 rfl dL_sets_34 ?_
      refine jo_aload_n (pc := 36) 2 rfl dL_sets_36 rfl ?_
      refine jo_iload_n (pc := 37) 3 rfl dL_sets_37 rfl ?_
      refine jo_iload (pc := 38) 6 rfl dL_sets_38 ?_
      refine jo_iadd (pc := 40) dL_sets_40 ?_
      refine jo_cS_I_p (pc := 41) (μ' := mu_L_cell) (fx := f_L_cell σ4 sl sx (x2 + i5)) (As := [.ref (wt w 3), .int (x2 + i5)]) (c_L_cell hw (hsl) (hsx)) (ok_L_cell) (ltb rfl) (all2 gw_621 gw_622) rfl rfl (Nat.le_of_ble_eq_true rfl) dL_sets_41 (fun v6 => ?_)
      refine jo_iload (pc := 44) 0 rfl dL_sets_44 ?_
      refine jo_ineg (pc := 46) dL_sets_46 ?_
      refine jo_iload (pc := 47) 0 rfl dL_sets_47 ?_
      refine jo_cS_I_p (pc := 49) (μ' := mu_L_between) (fx := f_L_between σ4 v6 (-i3) i3) (As := [.int v6, .int (-i3), .int i3]) (c_L_between hw) (ok_L_between) (ltb rfl) (all2 gw_625 gw_626) rfl rfl (Nat.le_of_ble_eq_true rfl) dL_sets_49 (fun v7 => ?_)
      refine jo_cV_Z_i (pc := 52) (μ' := mu_X10_set) (fx := f_X10_set σ4 x3 i5 v7) (As := [.int x3, .int i5, .int v7]) (c_X10_set hw) (ok_X10_set) (ltb rfl) (all3 gw_548 gw_549 gw_550) (ik_0 hw) (by decide) (q := (RX10, TX10, 17)) rfl rfl rfl rfl (Nat.le_of_ble_eq_true rfl) dL_sets_52 (fun b8 σ9 => ?_)
      refine jo_pop (pc := 55) dL_sets_55 rfl ?_
      refine jo_iinc (pc := 56) (lv' := [(7, .int (i5 + 1)), (6, .int i3), (0, .ref (adr w 0)), (1, .ref (wt w 3)), (2, .int x2), (3, .int x3), (4, .int x4)]) 6 rfl dL_sets_56 (congrArg (fun z => i5 + z) (ic_i_1)) (ltb rfl) rfl ?_
      refine jo_goto (pc := 59) dL_sets_59 (tgt := 25) rfl ?_
      refine jo_lv (lv' := [(6, .int i3), (0, .ref (adr w 0)), (1, .ref (wt w 3)), (2, .int x2), (3, .int x3), (4, .int x4), (7, .int (i5 + 1))]) [1, 2, 3, 4, 5, 6, 0] rfl ?_
      exact jo_leaf (by rfl) (hF25_5 (σ9, i5 + 1))
  · refine jo_icmp_ge (pc := 11) dL_sets_11 (tgt := 19) rfl ?_ ?_
    · refine jo_iconst (pc := 19) dL_sets_19 (ic_i_2) ?_
      refine jo_lv (lv' := [(0, .ref (adr w 0)), (1, .ref (wt w 3)), (2, .int x2), (3, .int x3), (4, .int x4)]) [0, 1, 2, 3, 4] rfl ?_
      exact jo_leaf (by rfl) (h20_3 2)
    · refine jo_iload (pc := 14) 5 rfl dL_sets_14 ?_
      refine jo_goto (pc := 16) dL_sets_16 (tgt := 20) rfl ?_
      refine jo_lv (lv' := [(0, .ref (adr w 0)), (1, .ref (wt w 3)), (2, .int x2), (3, .int x3), (4, .int x4)]) [0, 1, 2, 3, 4] rfl ?_
      exact jo_leaf (by rfl) (h20_3 x5)
theorem c_L_sets {w : Wd} (hw : WOK w) {σ : Mem} {sl : Nat} {sx : Nat → Int32} {x2 : Int32} {x3 : Int32} {x4 : Int32} {x5 : Int32} (hsl : sl = wt w 4) (hsx : sx = wS w) : ∀ σ', f_L_sets σ sl sx x2 x3 x4 x5 = some σ' → MC w mu_L_sets none [.ref (adr w 0), .ref (wt w 3), .int x2, .int x3, .int x4, .int x5] σ σ' := mc_ofV ok_L_sets rfl (Nat.le_of_ble_eq_true rfl) (t_L_sets hw hsl hsx)
abbrev mu_L_isOne : MD := (yL_isOne, cL_isOne, 4, some .boolean, 2)
theorem ok_L_isOne : MOK mu_L_isOne 3 := ⟨gw_704, gw_19, (by decide +kernel : plainFor yL_isOne = true), ⟨(by decide +kernel : yL_isOne.cls ≠ "java/lang/invoke/MethodHandle"), (by decide +kernel : yL_isOne.cls ≠ "java/lang/invoke/VarHandle"), (by decide +kernel : (parseMethodDescriptor yL_isOne.desc).map (fun d => d.parameters.length) = some 3)⟩, Nat.le_of_ble_eq_true rfl⟩
noncomputable def l_L_isOne_2 (σ : Mem) (x1 : Int32) (x2 : Int32) (i1 : Int32) : Option (Int32 ⊕ Bool) :=
  if x2 < i1 then (some (Sum.inr true)) else ((f_X10_exponent σ x1 i1).bind (fun (v2 : Int32) => if v2 = 0 then (some (Sum.inl (i1 + 1))) else (some (Sum.inr false))))
noncomputable def f_L_isOne (σ : Mem) (x1 : Int32) (x2 : Int32) : Option Bool :=
  loopO (fun (z1 : Int32) => l_L_isOne_2 σ x1 x2 z1) 1
theorem t_L_isOne {w : Wd} (hw : WOK w) {σ : Mem} {x1 : Int32} {x2 : Int32} : JO w mu_L_isOne vB σ [(0, .ref (adr w 0)), (1, .int x1), (2, .int x2)] [] 0 (f_L_isOne σ x1 x2) (fun z => some (z, σ)) := by
  unfold f_L_isOne
  refine jo_iconst (pc := 0) dL_isOne_0 (ic_i_1) ?_
  refine jo_istore_n (pc := 1) (lv' := [(3, .int 1), (0, .ref (adr w 0)), (1, .int x1), (2, .int x2)]) dL_isOne_1 rfl (ltb rfl) rfl ?_
  refine jo_lv (lv' := [(0, .ref (adr w 0)), (1, .int x1), (2, .int x2), (3, .int 1)]) [1, 2, 3, 0] rfl ?_
  refine jo_loop (X := Bool) (fun (z1 : Int32) => σ) (fun (z1 : Int32) => [(0, .ref (adr w 0)), (1, .int x1), (2, .int x2), (3, .int z1)]) (body := (fun (z1 : Int32) => l_L_isOne_2 σ x1 x2 z1)) (fun F2_1 hF2_1 s => ?_) 1
  revert s; intro i1
  show JO w mu_L_isOne vB σ [(0, .ref (adr w 0)), (1, .int x1), (2, .int x2), (3, .int i1)] [] 2 (l_L_isOne_2 σ x1 x2 i1) _
  unfold l_L_isOne_2
  refine jo_iload_n (pc := 2) 3 rfl dL_isOne_2 rfl ?_
  refine jo_iload_n (pc := 3) 2 rfl dL_isOne_3 rfl ?_
  refine jo_icmp_gt (pc := 4) dL_isOne_4 (tgt := 24) rfl ?_ ?_
  · refine jo_iconst (pc := 24) dL_isOne_24 (ic_i_1) ?_
    exact jo_breturn (pc := 25) (b := true) rfl rfl dL_isOne_25
  · refine jo_aload_n (pc := 7) 0 rfl dL_isOne_7 rfl ?_
    refine jo_iload_n (pc := 8) 1 rfl dL_isOne_8 rfl ?_
    refine jo_iload_n (pc := 9) 3 rfl dL_isOne_9 rfl ?_
    refine jo_cV_I_p (pc := 10) (μ' := mu_X10_exponent) (fx := f_X10_exponent σ x1 i1) (As := [.int x1, .int i1]) (c_X10_exponent hw) (ok_X10_exponent) (ltb rfl) (all3 gw_610 gw_611 gw_612) (ik_0 hw) (by decide) (q := (RX10, TX10, 17)) rfl rfl rfl rfl (Nat.le_of_ble_eq_true rfl) dL_isOne_10 (fun v2 => ?_)
    refine jo_if_eq (pc := 13) dL_isOne_13 (tgt := 18) rfl ?_ ?_
    · refine jo_iinc (pc := 18) (lv' := [(3, .int (i1 + 1)), (0, .ref (adr w 0)), (1, .int x1), (2, .int x2)]) 3 rfl dL_isOne_18 (congrArg (fun z => i1 + z) (ic_i_1)) (ltb rfl) rfl ?_
      refine jo_goto (pc := 21) dL_isOne_21 (tgt := 2) rfl ?_
      refine jo_lv (lv' := [(0, .ref (adr w 0)), (1, .int x1), (2, .int x2), (3, .int (i1 + 1))]) [1, 2, 3, 0] rfl ?_
      exact jo_leaf (by rfl) (hF2_1 (i1 + 1))
    · refine jo_iconst (pc := 16) dL_isOne_16 (ic_i_0) ?_
      exact jo_breturn (pc := 17) (b := false) rfl rfl dL_isOne_17
theorem c_L_isOne {w : Wd} (hw : WOK w) {σ : Mem} {x1 : Int32} {x2 : Int32} : ∀ r, f_L_isOne σ x1 x2 = some r → MC w mu_L_isOne (vB r) [.ref (adr w 0), .int x1, .int x2] σ σ := mc_ofP ok_L_isOne rfl (Nat.le_of_ble_eq_true rfl) (t_L_isOne hw)
abbrev mu_L_areSame : MD := (yL_areSame, cL_areSame, 5, some .boolean, 2)
theorem ok_L_areSame : MOK mu_L_areSame 4 := ⟨gw_707, gw_19, (by decide +kernel : plainFor yL_areSame = true), ⟨(by decide +kernel : yL_areSame.cls ≠ "java/lang/invoke/MethodHandle"), (by decide +kernel : yL_areSame.cls ≠ "java/lang/invoke/VarHandle"), (by decide +kernel : (parseMethodDescriptor yL_areSame.desc).map (fun d => d.parameters.length) = some 4)⟩, Nat.le_of_ble_eq_true rfl⟩
noncomputable def l_L_areSame_3 (σ : Mem) (x1 : Int32) (x2 : Int32) (x3 : Int32) (i1 : Int32) : Option (Int32 ⊕ Bool) :=
  if x3 < i1 then (some (Sum.inr true)) else ((f_X10_exponent σ x1 i1).bind (fun (v2 : Int32) => (f_X10_exponent σ x2 i1).bind (fun (v3 : Int32) => if v2 = v3 then (some (Sum.inl (i1 + 1))) else (some (Sum.inr false)))))
noncomputable def f_L_areSame (σ : Mem) (x1 : Int32) (x2 : Int32) (x3 : Int32) : Option Bool :=
  loopO (fun (z1 : Int32) => l_L_areSame_3 σ x1 x2 x3 z1) 1
theorem t_L_areSame {w : Wd} (hw : WOK w) {σ : Mem} {x1 : Int32} {x2 : Int32} {x3 : Int32} : JO w mu_L_areSame vB σ [(0, .ref (adr w 0)), (1, .int x1), (2, .int x2), (3, .int x3)] [] 0 (f_L_areSame σ x1 x2 x3) (fun z => some (z, σ)) := by
  unfold f_L_areSame
  refine jo_iconst (pc := 0) dL_areSame_0 (ic_i_1) ?_
  refine jo_istore (pc := 1) (lv' := [(4, .int 1), (0, .ref (adr w 0)), (1, .int x1), (2, .int x2), (3, .int x3)]) dL_areSame_1 (ltb rfl) rfl ?_
  refine jo_lv (lv' := [(0, .ref (adr w 0)), (1, .int x1), (2, .int x2), (3, .int x3), (4, .int 1)]) [1, 2, 3, 4, 0] rfl ?_
  refine jo_loop (X := Bool) (fun (z1 : Int32) => σ) (fun (z1 : Int32) => [(0, .ref (adr w 0)), (1, .int x1), (2, .int x2), (3, .int x3), (4, .int z1)]) (body := (fun (z1 : Int32) => l_L_areSame_3 σ x1 x2 x3 z1)) (fun F3_1 hF3_1 s => ?_) 1
  revert s; intro i1
  show JO w mu_L_areSame vB σ [(0, .ref (adr w 0)), (1, .int x1), (2, .int x2), (3, .int x3), (4, .int i1)] [] 3 (l_L_areSame_3 σ x1 x2 x3 i1) _
  unfold l_L_areSame_3
  refine jo_iload (pc := 3) 4 rfl dL_areSame_3 ?_
  refine jo_iload_n (pc := 5) 3 rfl dL_areSame_5 rfl ?_
  refine jo_icmp_gt (pc := 6) dL_areSame_6 (tgt := 34) rfl ?_ ?_
  · refine jo_iconst (pc := 34) dL_areSame_34 (ic_i_1) ?_
    exact jo_breturn (pc := 35) (b := true) rfl rfl dL_areSame_35
  · refine jo_aload_n (pc := 9) 0 rfl dL_areSame_9 rfl ?_
    refine jo_iload_n (pc := 10) 1 rfl dL_areSame_10 rfl ?_
    refine jo_iload (pc := 11) 4 rfl dL_areSame_11 ?_
    refine jo_cV_I_p (pc := 13) (μ' := mu_X10_exponent) (fx := f_X10_exponent σ x1 i1) (As := [.int x1, .int i1]) (c_X10_exponent hw) (ok_X10_exponent) (ltb rfl) (all3 gw_610 gw_611 gw_612) (ik_0 hw) (by decide) (q := (RX10, TX10, 17)) rfl rfl rfl rfl (Nat.le_of_ble_eq_true rfl) dL_areSame_13 (fun v2 => ?_)
    refine jo_aload_n (pc := 16) 0 rfl dL_areSame_16 rfl ?_
    refine jo_iload_n (pc := 17) 2 rfl dL_areSame_17 rfl ?_
    refine jo_iload (pc := 18) 4 rfl dL_areSame_18 ?_
    refine jo_cV_I_p (pc := 20) (μ' := mu_X10_exponent) (fx := f_X10_exponent σ x2 i1) (As := [.int x2, .int i1]) (c_X10_exponent hw) (ok_X10_exponent) (ltb rfl) (all3 gw_610 gw_611 gw_612) (ik_0 hw) (by decide) (q := (RX10, TX10, 17)) rfl rfl rfl rfl (Nat.le_of_ble_eq_true rfl) dL_areSame_20 (fun v3 => ?_)
    refine jo_icmp_eq (pc := 23) dL_areSame_23 (tgt := 28) rfl ?_ ?_
    · refine jo_iinc (pc := 28) (lv' := [(4, .int (i1 + 1)), (0, .ref (adr w 0)), (1, .int x1), (2, .int x2), (3, .int x3)]) 4 rfl dL_areSame_28 (congrArg (fun z => i1 + z) (ic_i_1)) (ltb rfl) rfl ?_
      refine jo_goto (pc := 31) dL_areSame_31 (tgt := 3) rfl ?_
      refine jo_lv (lv' := [(0, .ref (adr w 0)), (1, .int x1), (2, .int x2), (3, .int x3), (4, .int (i1 + 1))]) [1, 2, 3, 4, 0] rfl ?_
      exact jo_leaf (by rfl) (hF3_1 (i1 + 1))
    · refine jo_iconst (pc := 26) dL_areSame_26 (ic_i_0) ?_
      exact jo_breturn (pc := 27) (b := false) rfl rfl dL_areSame_27
theorem c_L_areSame {w : Wd} (hw : WOK w) {σ : Mem} {x1 : Int32} {x2 : Int32} {x3 : Int32} : ∀ r, f_L_areSame σ x1 x2 x3 = some r → MC w mu_L_areSame (vB r) [.ref (adr w 0), .int x1, .int x2, .int x3] σ σ := mc_ofP ok_L_areSame rfl (Nat.le_of_ble_eq_true rfl) (t_L_areSame hw)
abbrev mu_L_makes : MD := (yL_makes, cL_makes, 5, some .int, 7)
theorem ok_L_makes : MOK mu_L_makes 4 := ⟨gw_773, gw_19, (by decide +kernel : plainFor yL_makes = true), ⟨(by decide +kernel : yL_makes.cls ≠ "java/lang/invoke/MethodHandle"), (by decide +kernel : yL_makes.cls ≠ "java/lang/invoke/VarHandle"), (by decide +kernel : (parseMethodDescriptor yL_makes.desc).map (fun d => d.parameters.length) = some 4)⟩, Nat.le_of_ble_eq_true rfl⟩
noncomputable def f_L_makes (σ : Mem) (x1 : Int32) (x2 : Int32) (x3 : Int32) : Option (Int32 × Mem) :=
  (f_X10_look σ 8).bind (fun (v1 : Int32) => bq (f_X10_multiply σ x1 x2 x3) (fun (b2 : Bool) (σ3 : Mem) => if b2 then some (1, σ3) else (f_X10_look σ3 8).bind (fun (v4 : Int32) => if v4 = (v1 + 1) then (some (0, σ3)) else (some ((-1), σ3)))))
theorem t_L_makes {w : Wd} (hw : WOK w) {σ : Mem} {x1 : Int32} {x2 : Int32} {x3 : Int32} : JO w mu_L_makes vI σ [(0, .ref (adr w 0)), (1, .int x1), (2, .int x2), (3, .int x3)] [] 0 (f_L_makes σ x1 x2 x3) some := by
  unfold f_L_makes
  refine jo_aload_n (pc := 0) 0 rfl dL_makes_0 rfl ?_
  refine jo_bipush (pc := 1) dL_makes_1 (ic_b_8) ?_
  refine jo_cV_I_p (pc := 3) (μ' := mu_X10_look) (fx := f_X10_look σ 8) (As := [.int 8]) (c_X10_look hw) (ok_X10_look) (ltb rfl) (all3 gw_648 gw_649 gw_650) (ik_0 hw) (by decide) (q := (RX10, TX10, 17)) rfl rfl rfl rfl (Nat.le_of_ble_eq_true rfl) dL_makes_3 (fun v1 => ?_)
  refine jo_istore (pc := 6) (lv' := [(4, .int v1), (0, .ref (adr w 0)), (1, .int x1), (2, .int x2), (3, .int x3)]) dL_makes_6 (ltb rfl) rfl ?_
  refine jo_aload_n (pc := 8) 1 rfl dL_makes_8 rfl ?_
  refine jo_iload_n (pc := 9) 2 rfl dL_makes_9 rfl ?_
  refine jo_iload_n (pc := 10) 3 rfl dL_makes_10 rfl ?_
  refine jo_iload_n (pc := 11) 4 rfl dL_makes_11 rfl ?_
  refine jo_cV_Z_i (pc := 12) (μ' := mu_X10_multiply) (fx := f_X10_multiply σ x1 x2 x3) (As := [.int x1, .int x2, .int x3]) (c_X10_multiply hw) (ok_X10_multiply) (ltb rfl) (all3 gw_571 gw_572 gw_573) (ik_0 hw) (by decide) (q := (RX10, TX10, 17)) rfl rfl rfl rfl (Nat.le_of_ble_eq_true rfl) dL_makes_12 (fun b2 σ3 => ?_)
  refine jo_ifz_eq (pc := 15) dL_makes_15 (tgt := 22) rfl ?_ ?_
  · refine jo_aload_n (pc := 22) 1 rfl dL_makes_22 rfl ?_
    refine jo_bipush (pc := 23) dL_makes_23 (ic_b_8) ?_
    refine jo_cV_I_p (pc := 25) (μ' := mu_X10_look) (fx := f_X10_look σ3 8) (As := [.int 8]) (c_X10_look hw) (ok_X10_look) (ltb rfl) (all3 gw_648 gw_649 gw_650) (ik_0 hw) (by decide) (q := (RX10, TX10, 17)) rfl rfl rfl rfl (Nat.le_of_ble_eq_true rfl) dL_makes_25 (fun v4 => ?_)
    refine jo_iload (pc := 28) 0 rfl dL_makes_28 ?_
    refine jo_iconst (pc := 30) dL_makes_30 (ic_i_1) ?_
    refine jo_iadd (pc := 31) dL_makes_31 ?_
    refine jo_icmp_ne (pc := 32) dL_makes_32 (tgt := 39) rfl ?_ ?_
    · refine jo_iconst (pc := 39) dL_makes_39 (ic_i_m1) ?_
      exact jo_ireturn (pc := 40) rfl rfl dL_makes_40
    · refine jo_iconst (pc := 35) dL_makes_35 (ic_i_0) ?_
      refine jo_goto (pc := 36) dL_makes_36 (tgt := 40) rfl ?_
      exact jo_ireturn (pc := 40) rfl rfl dL_makes_40
  · refine jo_iconst (pc := 18) dL_makes_18 (ic_i_1) ?_
    refine jo_goto (pc := 19) dL_makes_19 (tgt := 40) rfl ?_
    exact jo_ireturn (pc := 40) rfl rfl dL_makes_40
theorem c_L_makes {w : Wd} (hw : WOK w) {σ : Mem} {x1 : Int32} {x2 : Int32} {x3 : Int32} : ∀ r σ', f_L_makes σ x1 x2 x3 = some (r, σ') → MC w mu_L_makes (vI r) [.ref (adr w 0), .int x1, .int x2, .int x3] σ σ' := mc_of ok_L_makes rfl (Nat.le_of_ble_eq_true rfl) (t_L_makes hw)
abbrev mu_L_inverts : MD := (yL_inverts, cL_inverts, 4, some .int, 7)
theorem ok_L_inverts : MOK mu_L_inverts 3 := ⟨gw_776, gw_19, (by decide +kernel : plainFor yL_inverts = true), ⟨(by decide +kernel : yL_inverts.cls ≠ "java/lang/invoke/MethodHandle"), (by decide +kernel : yL_inverts.cls ≠ "java/lang/invoke/VarHandle"), (by decide +kernel : (parseMethodDescriptor yL_inverts.desc).map (fun d => d.parameters.length) = some 3)⟩, Nat.le_of_ble_eq_true rfl⟩
noncomputable def f_L_inverts (σ : Mem) (x1 : Int32) (x2 : Int32) : Option (Int32 × Mem) :=
  (f_X10_look σ 8).bind (fun (v1 : Int32) => bq (f_X10_invert σ x1 x2) (fun (b2 : Bool) (σ3 : Mem) => if b2 then some (1, σ3) else (f_X10_look σ3 8).bind (fun (v4 : Int32) => if v4 = (v1 + 1) then (some (0, σ3)) else (some ((-1), σ3)))))
theorem t_L_inverts {w : Wd} (hw : WOK w) {σ : Mem} {x1 : Int32} {x2 : Int32} : JO w mu_L_inverts vI σ [(0, .ref (adr w 0)), (1, .int x1), (2, .int x2)] [] 0 (f_L_inverts σ x1 x2) some := by
  unfold f_L_inverts
  refine jo_aload_n (pc := 0) 0 rfl dL_inverts_0 rfl ?_
  refine jo_bipush (pc := 1) dL_inverts_1 (ic_b_8) ?_
  refine jo_cV_I_p (pc := 3) (μ' := mu_X10_look) (fx := f_X10_look σ 8) (As := [.int 8]) (c_X10_look hw) (ok_X10_look) (ltb rfl) (all3 gw_648 gw_649 gw_650) (ik_0 hw) (by decide) (q := (RX10, TX10, 17)) rfl rfl rfl rfl (Nat.le_of_ble_eq_true rfl) dL_inverts_3 (fun v1 => ?_)
  refine jo_istore_n (pc := 6) (lv' := [(3, .int v1), (0, .ref (adr w 0)), (1, .int x1), (2, .int x2)]) dL_inverts_6 rfl (ltb rfl) rfl ?_
  refine jo_aload_n (pc := 7) 1 rfl dL_inverts_7 rfl ?_
  refine jo_iload_n (pc := 8) 2 rfl dL_inverts_8 rfl ?_
  refine jo_iload_n (pc := 9) 3 rfl dL_inverts_9 rfl ?_
  refine jo_cV_Z_i (pc := 10) (μ' := mu_X10_invert) (fx := f_X10_invert σ x1 x2) (As := [.int x1, .int x2]) (c_X10_invert hw) (ok_X10_invert) (ltb rfl) (all3 gw_777 gw_778 gw_779) (ik_0 hw) (by decide) (q := (RX10, TX10, 17)) rfl rfl rfl rfl (Nat.le_of_ble_eq_true rfl) dL_inverts_10 (fun b2 σ3 => ?_)
  refine jo_ifz_eq (pc := 13) dL_inverts_13 (tgt := 20) rfl ?_ ?_
  · refine jo_aload_n (pc := 20) 1 rfl dL_inverts_20 rfl ?_
    refine jo_bipush (pc := 21) dL_inverts_21 (ic_b_8) ?_
    refine jo_cV_I_p (pc := 23) (μ' := mu_X10_look) (fx := f_X10_look σ3 8) (As := [.int 8]) (c_X10_look hw) (ok_X10_look) (ltb rfl) (all3 gw_648 gw_649 gw_650) (ik_0 hw) (by decide) (q := (RX10, TX10, 17)) rfl rfl rfl rfl (Nat.le_of_ble_eq_true rfl) dL_inverts_23 (fun v4 => ?_)
    refine jo_iload_n (pc := 26) 0 rfl dL_inverts_26 rfl ?_
    refine jo_iconst (pc := 27) dL_inverts_27 (ic_i_1) ?_
    refine jo_iadd (pc := 28) dL_inverts_28 ?_
    refine jo_icmp_ne (pc := 29) dL_inverts_29 (tgt := 36) rfl ?_ ?_
    · refine jo_iconst (pc := 36) dL_inverts_36 (ic_i_m1) ?_
      exact jo_ireturn (pc := 37) rfl rfl dL_inverts_37
    · refine jo_iconst (pc := 32) dL_inverts_32 (ic_i_0) ?_
      refine jo_goto (pc := 33) dL_inverts_33 (tgt := 37) rfl ?_
      exact jo_ireturn (pc := 37) rfl rfl dL_inverts_37
  · refine jo_iconst (pc := 16) dL_inverts_16 (ic_i_1) ?_
    refine jo_goto (pc := 17) dL_inverts_17 (tgt := 37) rfl ?_
    exact jo_ireturn (pc := 37) rfl rfl dL_inverts_37
theorem c_L_inverts {w : Wd} (hw : WOK w) {σ : Mem} {x1 : Int32} {x2 : Int32} : ∀ r σ', f_L_inverts σ x1 x2 = some (r, σ') → MC w mu_L_inverts (vI r) [.ref (adr w 0), .int x1, .int x2] σ σ' := mc_of ok_L_inverts rfl (Nat.le_of_ble_eq_true rfl) (t_L_inverts hw)
