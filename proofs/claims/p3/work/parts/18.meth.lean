abbrev mu_X10_associates : MD := (yX10_associates, cX10_associates, 4, some .int, 2)
theorem ok_X10_associates : MOK mu_X10_associates 3 := ⟨gw_1231, gw_158, (by decide +kernel : plainFor yX10_associates = true), ⟨(by decide +kernel : yX10_associates.cls ≠ "java/lang/invoke/MethodHandle"), (by decide +kernel : yX10_associates.cls ≠ "java/lang/invoke/VarHandle"), (by decide +kernel : (parseMethodDescriptor yX10_associates.desc).map (fun d => d.parameters.length) = some 3)⟩, Nat.le_of_ble_eq_true rfl⟩
noncomputable def f_X10_associates (σ : Mem) (x0 : Int32) (x1 : Int32) (x2 : Int32) : Option (Int32 × Mem) :=
  (f_X10_areUsable σ x0 x1).bind (fun (b1 : Bool) => if b1 then (f_X10_isRegister σ x2).bind (fun (b2 : Bool) => if b2 then gR 5 x0 (fun (p3 : Nat) => gR 5 x1 (fun (p4 : Nat) => (f_X0_product σ 176 p3 p4).bind (fun (σ5 : Mem) => gR 5 x2 (fun (p6 : Nat) => (f_X0_product σ5 176 176 p6).bind (fun (σ7 : Mem) => gR 5 x1 (fun (p8 : Nat) => gR 5 x2 (fun (p9 : Nat) => (f_X0_product σ7 177 p8 p9).bind (fun (σ10 : Mem) => gR 5 x0 (fun (p11 : Nat) => (f_X0_product σ10 177 p11 177).bind (fun (σ12 : Mem) => (f_X0_areSame σ12 176 177).bind (fun (b13 : Bool) => (f_X10_bit σ12 b13).bind (fun (v14 : Int32) => some (v14, σ12))))))))))))) else some ((-1), σ)) else some ((-1), σ))
theorem t_X10_associates {w : Wd} (hw : WOK w) {σ : Mem} {x0 : Int32} {x1 : Int32} {x2 : Int32} : JO w mu_X10_associates vI σ [(0, .ref (adr w 0)), (1, .int x0), (2, .int x1), (3, .int x2)] [] 0 (f_X10_associates σ x0 x1 x2) some := by
  unfold f_X10_associates
  refine jo_aload_n (pc := 0) 0 rfl dX10_associates_0 rfl ?_
  refine jo_iload_n (pc := 1) 1 rfl dX10_associates_1 rfl ?_
  refine jo_iload_n (pc := 2) 2 rfl dX10_associates_2 rfl ?_
  refine jo_cV_Z_p (pc := 3) (μ' := mu_X10_areUsable) (fx := f_X10_areUsable σ x0 x1) (As := [.int x0, .int x1]) (c_X10_areUsable hw) (ok_X10_areUsable) (ltb rfl) (all3 gw_810 gw_812 gw_13) (ik_0 hw) (by decide) (q := (RX10, TX10, 17)) rfl rfl rfl rfl (Nat.le_of_ble_eq_true rfl) dX10_associates_3 (fun b1 => ?_)
  refine jo_ifz_eq (pc := 6) dX10_associates_6 (tgt := 16) rfl ?_ ?_
  · refine jo_iconst (pc := 16) dX10_associates_16 (ic_i_m1) ?_
    exact jo_ireturn (pc := 17) rfl rfl dX10_associates_17
  · refine jo_iload_n (pc := 9) 3 rfl dX10_associates_9 rfl ?_
    refine jo_cS_Z_p (pc := 10) (μ' := mu_X10_isRegister) (fx := f_X10_isRegister σ x2) (As := [.int x2]) (c_X10_isRegister hw) (ok_X10_isRegister) (ltb rfl) (all2 gw_803 gw_804) rfl rfl (Nat.le_of_ble_eq_true rfl) dX10_associates_10 (fun b2 => ?_)
    refine jo_ifz_ne (pc := 13) dX10_associates_13 (tgt := 18) rfl ?_ ?_
    · refine jo_aload_n (pc := 18) 0 rfl dX10_associates_18 rfl ?_
      refine jo_getrE (pc := 19) ok_10_10 (ik_0 hw) rf_0_10 gw_641 dX10_associates_19 ?_
      refine jo_aload_n (pc := 22) 0 rfl dX10_associates_22 rfl ?_
      refine jo_getrE (pc := 23) ok_10_15 (ik_0 hw) rf_0_15 gw_646 dX10_associates_23 ?_
      refine jo_aload_n (pc := 26) 0 rfl dX10_associates_26 rfl ?_
      refine jo_getrE (pc := 27) ok_10_0 (ik_0 hw) rf_0_0 gw_631 dX10_associates_27 ?_
      refine jo_getrE (pc := 30) ok_8_1 (ik_1 hw) rf_1_1 gw_221 dX10_associates_30 ?_
      refine jo_iload_n (pc := 33) 1 rfl dX10_associates_33 rfl ?_
      refine jo_aaldG (pc := 34) (z := 13) hw (ik_5 hw) (by decide) (t := 4) rfl rfl (by decide) dX10_associates_34 (fun p3 hp3 => ?_)
      refine jo_aload_n (pc := 35) 0 rfl dX10_associates_35 rfl ?_
      refine jo_getrE (pc := 36) ok_10_0 (ik_0 hw) rf_0_0 gw_631 dX10_associates_36 ?_
      refine jo_getrE (pc := 39) ok_8_1 (ik_1 hw) rf_1_1 gw_221 dX10_associates_39 ?_
      refine jo_iload_n (pc := 42) 2 rfl dX10_associates_42 rfl ?_
      refine jo_aaldG (pc := 43) (z := 13) hw (ik_5 hw) (by decide) (t := 4) rfl rfl (by decide) dX10_associates_43 (fun p4 hp4 => ?_)
      refine jo_cV_V_i (pc := 44) (μ' := mu_X0_product) (fx := f_X0_product σ 176 p3 p4) (As := [.ref (adr w 176), .ref (adr w p3), .ref (adr w p4)]) (c_X0_product hw (ik_176 hw) (hp3) (hp4)) (ok_X0_product) (ltb rfl) (all3 gw_814 gw_815 gw_816) (ik_72 hw) (by decide) (q := (RX0, TX0, 8)) rfl rfl rfl rfl (Nat.le_of_ble_eq_true rfl) dX10_associates_44 (fun σ5 => ?_)
      refine jo_aload_n (pc := 47) 0 rfl dX10_associates_47 rfl ?_
      refine jo_getrE (pc := 48) ok_10_10 (ik_0 hw) rf_0_10 gw_641 dX10_associates_48 ?_
      refine jo_aload_n (pc := 51) 0 rfl dX10_associates_51 rfl ?_
      refine jo_getrE (pc := 52) ok_10_15 (ik_0 hw) rf_0_15 gw_646 dX10_associates_52 ?_
      refine jo_aload_n (pc := 55) 0 rfl dX10_associates_55 rfl ?_
      refine jo_getrE (pc := 56) ok_10_15 (ik_0 hw) rf_0_15 gw_646 dX10_associates_56 ?_
      refine jo_aload_n (pc := 59) 0 rfl dX10_associates_59 rfl ?_
      refine jo_getrE (pc := 60) ok_10_0 (ik_0 hw) rf_0_0 gw_631 dX10_associates_60 ?_
      refine jo_getrE (pc := 63) ok_8_1 (ik_1 hw) rf_1_1 gw_221 dX10_associates_63 ?_
      refine jo_iload_n (pc := 66) 3 rfl dX10_associates_66 rfl ?_
      refine jo_aaldG (pc := 67) (z := 13) hw (ik_5 hw) (by decide) (t := 4) rfl rfl (by decide) dX10_associates_67 (fun p6 hp6 => ?_)
      refine jo_cV_V_i (pc := 68) (μ' := mu_X0_product) (fx := f_X0_product σ5 176 176 p6) (As := [.ref (adr w 176), .ref (adr w 176), .ref (adr w p6)]) (c_X0_product hw (ik_176 hw) (ik_176 hw) (hp6)) (ok_X0_product) (ltb rfl) (all3 gw_814 gw_815 gw_816) (ik_72 hw) (by decide) (q := (RX0, TX0, 8)) rfl rfl rfl rfl (Nat.le_of_ble_eq_true rfl) dX10_associates_68 (fun σ7 => ?_)
      refine jo_aload_n (pc := 71) 0 rfl dX10_associates_71 rfl ?_
      refine jo_getrE (pc := 72) ok_10_10 (ik_0 hw) rf_0_10 gw_641 dX10_associates_72 ?_
      refine jo_aload_n (pc := 75) 0 rfl dX10_associates_75 rfl ?_
      refine jo_getrE (pc := 76) ok_10_16 (ik_0 hw) rf_0_16 gw_647 dX10_associates_76 ?_
      refine jo_aload_n (pc := 79) 0 rfl dX10_associates_79 rfl ?_
      refine jo_getrE (pc := 80) ok_10_0 (ik_0 hw) rf_0_0 gw_631 dX10_associates_80 ?_
      refine jo_getrE (pc := 83) ok_8_1 (ik_1 hw) rf_1_1 gw_221 dX10_associates_83 ?_
      refine jo_iload_n (pc := 86) 2 rfl dX10_associates_86 rfl ?_
      refine jo_aaldG (pc := 87) (z := 13) hw (ik_5 hw) (by decide) (t := 4) rfl rfl (by decide) dX10_associates_87 (fun p8 hp8 => ?_)
      refine jo_aload_n (pc := 88) 0 rfl dX10_associates_88 rfl ?_
      refine jo_getrE (pc := 89) ok_10_0 (ik_0 hw) rf_0_0 gw_631 dX10_associates_89 ?_
      refine jo_getrE (pc := 92) ok_8_1 (ik_1 hw) rf_1_1 gw_221 dX10_associates_92 ?_
      refine jo_iload_n (pc := 95) 3 rfl dX10_associates_95 rfl ?_
      refine jo_aaldG (pc := 96) (z := 13) hw (ik_5 hw) (by decide) (t := 4) rfl rfl (by decide) dX10_associates_96 (fun p9 hp9 => ?_)
      refine jo_cV_V_i (pc := 97) (μ' := mu_X0_product) (fx := f_X0_product σ7 177 p8 p9) (As := [.ref (adr w 177), .ref (adr w p8), .ref (adr w p9)]) (c_X0_product hw (ik_177 hw) (hp8) (hp9)) (ok_X0_product) (ltb rfl) (all3 gw_814 gw_815 gw_816) (ik_72 hw) (by decide) (q := (RX0, TX0, 8)) rfl rfl rfl rfl (Nat.le_of_ble_eq_true rfl) dX10_associates_97 (fun σ10 => ?_)
      refine jo_aload_n (pc := 100) 0 rfl dX10_associates_100 rfl ?_
      refine jo_getrE (pc := 101) ok_10_10 (ik_0 hw) rf_0_10 gw_641 dX10_associates_101 ?_
      refine jo_aload_n (pc := 104) 0 rfl dX10_associates_104 rfl ?_
      refine jo_getrE (pc := 105) ok_10_16 (ik_0 hw) rf_0_16 gw_647 dX10_associates_105 ?_
      refine jo_aload_n (pc := 108) 0 rfl dX10_associates_108 rfl ?_
      refine jo_getrE (pc := 109) ok_10_0 (ik_0 hw) rf_0_0 gw_631 dX10_associates_109 ?_
      refine jo_getrE (pc := 112) ok_8_1 (ik_1 hw) rf_1_1 gw_221 dX10_associates_112 ?_
      refine jo_iload_n (pc := 115) 1 rfl dX10_associates_115 rfl ?_
      refine jo_aaldG (pc := 116) (z := 13) hw (ik_5 hw) (by decide) (t := 4) rfl rfl (by decide) dX10_associates_116 (fun p11 hp11 => ?_)
      refine jo_aload_n (pc := 117) 0 rfl dX10_associates_117 rfl ?_
      refine jo_getrE (pc := 118) ok_10_16 (ik_0 hw) rf_0_16 gw_647 dX10_associates_118 ?_
      refine jo_cV_V_i (pc := 121) (μ' := mu_X0_product) (fx := f_X0_product σ10 177 p11 177) (As := [.ref (adr w 177), .ref (adr w p11), .ref (adr w 177)]) (c_X0_product hw (ik_177 hw) (hp11) (ik_177 hw)) (ok_X0_product) (ltb rfl) (all3 gw_814 gw_815 gw_816) (ik_72 hw) (by decide) (q := (RX0, TX0, 8)) rfl rfl rfl rfl (Nat.le_of_ble_eq_true rfl) dX10_associates_121 (fun σ12 => ?_)
      refine jo_aload_n (pc := 124) 0 rfl dX10_associates_124 rfl ?_
      refine jo_getrE (pc := 125) ok_10_15 (ik_0 hw) rf_0_15 gw_646 dX10_associates_125 ?_
      refine jo_aload_n (pc := 128) 0 rfl dX10_associates_128 rfl ?_
      refine jo_getrE (pc := 129) ok_10_16 (ik_0 hw) rf_0_16 gw_647 dX10_associates_129 ?_
      refine jo_cS_Z_p (pc := 132) (μ' := mu_X0_areSame) (fx := f_X0_areSame σ12 176 177) (As := [.ref (adr w 176), .ref (adr w 177)]) (c_X0_areSame hw (ik_176 hw) (ik_177 hw)) (ok_X0_areSame) (ltb rfl) (all2 gw_1120 gw_1072) rfl rfl (Nat.le_of_ble_eq_true rfl) dX10_associates_132 (fun b13 => ?_)
      refine jo_cS_I_p (pc := 135) (μ' := mu_X10_bit) (fx := f_X10_bit σ12 b13) (As := [.int (b2i b13)]) (c_X10_bit hw) (ok_X10_bit) (ltb rfl) (all2 gw_736 gw_737) rfl rfl (Nat.le_of_ble_eq_true rfl) dX10_associates_135 (fun v14 => ?_)
      exact jo_ireturn (pc := 138) rfl rfl dX10_associates_138
    · refine jo_iconst (pc := 16) dX10_associates_16 (ic_i_m1) ?_
      exact jo_ireturn (pc := 17) rfl rfl dX10_associates_17
theorem c_X10_associates {w : Wd} (hw : WOK w) {σ : Mem} {x0 : Int32} {x1 : Int32} {x2 : Int32} : ∀ r σ', f_X10_associates σ x0 x1 x2 = some (r, σ') → MC w mu_X10_associates (vI r) [.ref (adr w 0), .int x0, .int x1, .int x2] σ σ' := mc_of ok_X10_associates rfl (Nat.le_of_ble_eq_true rfl) (t_X10_associates hw)
abbrev mu_X10_ball : MD := (yX10_ball, cX10_ball, 2, some .int, 7)
theorem ok_X10_ball : MOK mu_X10_ball 1 := ⟨gw_1235, gw_158, (by decide +kernel : plainFor yX10_ball = true), ⟨(by decide +kernel : yX10_ball.cls ≠ "java/lang/invoke/MethodHandle"), (by decide +kernel : yX10_ball.cls ≠ "java/lang/invoke/VarHandle"), (by decide +kernel : (parseMethodDescriptor yX10_ball.desc).map (fun d => d.parameters.length) = some 1)⟩, Nat.le_of_ble_eq_true rfl⟩
noncomputable def f_X10_ball (σ : Mem) (x0 : Int32) : Option (Int32 × Mem) :=
  if x0 < 0 then (some ((-1), σ)) else (if 4 < x0 then (some ((-1), σ)) else (gZ σ 40 3 (fun (b1 : Bool) => if b1 then bq (f_X1_sizeOf σ x0) (fun (v2 : Int32) (σ3 : Mem) => some (v2, σ3)) else some ((-1), σ))))
theorem t_X10_ball {w : Wd} (hw : WOK w) {σ : Mem} {x0 : Int32} : JO w mu_X10_ball vI σ [(0, .ref (adr w 0)), (1, .int x0)] [] 0 (f_X10_ball σ x0) some := by
  unfold f_X10_ball
  refine jo_iload_n (pc := 0) 1 rfl dX10_ball_0 rfl ?_
  refine jo_if_lt (pc := 1) dX10_ball_1 (tgt := 19) rfl ?_ ?_
  · refine jo_iconst (pc := 19) dX10_ball_19 (ic_i_m1) ?_
    exact jo_ireturn (pc := 20) rfl rfl dX10_ball_20
  · refine jo_iload_n (pc := 4) 1 rfl dX10_ball_4 rfl ?_
    refine jo_iconst (pc := 5) dX10_ball_5 (ic_i_4) ?_
    refine jo_icmp_gt (pc := 6) dX10_ball_6 (tgt := 19) rfl ?_ ?_
    · refine jo_iconst (pc := 19) dX10_ball_19 (ic_i_m1) ?_
      exact jo_ireturn (pc := 20) rfl rfl dX10_ball_20
    · refine jo_aload_n (pc := 9) 0 rfl dX10_ball_9 rfl ?_
      refine jo_getrE (pc := 10) ok_10_9 (ik_0 hw) rf_0_9 gw_640 dX10_ball_10 ?_
      refine jo_getz (pc := 13) ok_4_3 (ik_40 hw) gw_308 dX10_ball_13 (fun b1 => ?_)
      refine jo_ifz_ne (pc := 16) dX10_ball_16 (tgt := 21) rfl ?_ ?_
      · refine jo_aload_n (pc := 21) 0 rfl dX10_ball_21 rfl ?_
        refine jo_getrE (pc := 22) ok_10_12 (ik_0 hw) rf_0_12 gw_643 dX10_ball_22 ?_
        refine jo_iload_n (pc := 25) 1 rfl dX10_ball_25 rfl ?_
        refine jo_cV_I_i (pc := 26) (μ' := mu_X1_sizeOf) (fx := f_X1_sizeOf σ x0) (As := [.int x0]) (c_X1_sizeOf hw) (ok_X1_sizeOf) (ltb rfl) (all3 gw_1236 gw_1237 gw_1238) (ik_128 hw) (by decide) (q := (RX1, TX1, 10)) rfl rfl rfl rfl (Nat.le_of_ble_eq_true rfl) dX10_ball_26 (fun v2 σ3 => ?_)
        exact jo_ireturn (pc := 29) rfl rfl dX10_ball_29
      · refine jo_iconst (pc := 19) dX10_ball_19 (ic_i_m1) ?_
        exact jo_ireturn (pc := 20) rfl rfl dX10_ball_20
theorem c_X10_ball {w : Wd} (hw : WOK w) {σ : Mem} {x0 : Int32} : ∀ r σ', f_X10_ball σ x0 = some (r, σ') → MC w mu_X10_ball (vI r) [.ref (adr w 0), .int x0] σ σ' := mc_of ok_X10_ball rfl (Nat.le_of_ble_eq_true rfl) (t_X10_ball hw)
abbrev mu_X10_undo : MD := (yX10_undo, cX10_undo, 1, some .int, 7)
theorem ok_X10_undo : MOK mu_X10_undo 0 := ⟨gw_1243, gw_158, (by decide +kernel : plainFor yX10_undo = true), ⟨(by decide +kernel : yX10_undo.cls ≠ "java/lang/invoke/MethodHandle"), (by decide +kernel : yX10_undo.cls ≠ "java/lang/invoke/VarHandle"), (by decide +kernel : (parseMethodDescriptor yX10_undo.desc).map (fun d => d.parameters.length) = some 0)⟩, Nat.le_of_ble_eq_true rfl⟩
noncomputable def f_X10_undo (σ : Mem) : Option (Int32 × Mem) :=
  gF σ 0 4 (fun (v1 : Int32) => if v1 = 0 then (some ((-1), σ)) else (gF σ 0 4 (fun (v2 : Int32) => pF σ 0 4 (v2 - 1) (fun (σ3 : Mem) => gF σ3 0 5 (fun (v4 : Int32) => nzI 8 (pF σ3 0 5 (((v4 + 8) - 1) - ((v4 + 8) - 1) / 8 * 8) (fun (σ5 : Mem) => gF σ5 0 5 (fun (v6 : Int32) => gR 33 v6 (fun (p7 : Nat) => (f_X8_takeActed σ5 1 p7).bind (fun (σ8 : Mem) => (f_X4_follow σ8 2).bind (fun (σ9 : Mem) => gF σ9 0 4 (fun (v10 : Int32) => some (v10, σ9)))))))))))))
theorem t_X10_undo {w : Wd} (hw : WOK w) {σ : Mem} : JO w mu_X10_undo vI σ [(0, .ref (adr w 0))] [] 0 (f_X10_undo σ) some := by
  unfold f_X10_undo
  refine jo_aload_n (pc := 0) 0 rfl dX10_undo_0 rfl ?_
  refine jo_getf (pc := 1) ok_10_4 (ik_0 hw) gw_635 dX10_undo_1 (fun v1 => ?_)
  refine jo_if_ne (pc := 4) dX10_undo_4 (tgt := 9) rfl ?_ ?_
  · refine jo_aload_n (pc := 9) 0 rfl dX10_undo_9 rfl ?_
    refine jo_dup (pc := 10) dX10_undo_10 rfl ?_
    refine jo_getf (pc := 11) ok_10_4 (ik_0 hw) gw_635 dX10_undo_11 (fun v2 => ?_)
    refine jo_iconst (pc := 14) dX10_undo_14 (ic_i_1) ?_
    refine jo_isub (pc := 15) dX10_undo_15 ?_
    refine jo_putf (pc := 16) ok_10_4 okp_10_4 (ik_0 hw) gw_635 dX10_undo_16 (fun σ3 => ?_)
    refine jo_aload_n (pc := 19) 0 rfl dX10_undo_19 rfl ?_
    refine jo_aload_n (pc := 20) 0 rfl dX10_undo_20 rfl ?_
    refine jo_getf (pc := 21) ok_10_5 (ik_0 hw) gw_636 dX10_undo_21 (fun v4 => ?_)
    refine jo_bipush (pc := 24) dX10_undo_24 (ic_b_8) ?_
    refine jo_iadd (pc := 26) dX10_undo_26 ?_
    refine jo_iconst (pc := 27) dX10_undo_27 (ic_i_1) ?_
    refine jo_isub (pc := 28) dX10_undo_28 ?_
    refine jo_bipush (pc := 29) dX10_undo_29 (ic_b_8) ?_
    refine jo_irem (pc := 31) dX10_undo_31 ?_
    refine jo_putf (pc := 32) ok_10_5 okp_10_5 (ik_0 hw) gw_636 dX10_undo_32 (fun σ5 => ?_)
    refine jo_aload_n (pc := 35) 0 rfl dX10_undo_35 rfl ?_
    refine jo_getrE (pc := 36) ok_10_0 (ik_0 hw) rf_0_0 gw_631 dX10_undo_36 ?_
    refine jo_aload_n (pc := 39) 0 rfl dX10_undo_39 rfl ?_
    refine jo_getrE (pc := 40) ok_10_3 (ik_0 hw) rf_0_3 gw_634 dX10_undo_40 ?_
    refine jo_aload_n (pc := 43) 0 rfl dX10_undo_43 rfl ?_
    refine jo_getf (pc := 44) ok_10_5 (ik_0 hw) gw_636 dX10_undo_44 (fun v6 => ?_)
    refine jo_aaldG (pc := 47) (z := 8) hw (ik_33 hw) (by decide) (t := 2) rfl rfl (by decide) dX10_undo_47 (fun p7 hp7 => ?_)
    refine jo_cV_V_i (pc := 48) (μ' := mu_X8_takeActed) (fx := f_X8_takeActed σ5 1 p7) (As := [.ref (adr w p7)]) (c_X8_takeActed hw (ik_1 hw) (hp7)) (ok_X8_takeActed) (ltb rfl) (all3 gw_698 gw_699 gw_700) (ik_1 hw) (by decide) (q := (RX8, TX8, 3)) rfl rfl rfl rfl (Nat.le_of_ble_eq_true rfl) dX10_undo_48 (fun σ8 => ?_)
    refine jo_aload_n (pc := 51) 0 rfl dX10_undo_51 rfl ?_
    refine jo_getrE (pc := 52) ok_10_9 (ik_0 hw) rf_0_9 gw_640 dX10_undo_52 ?_
    refine jo_aload_n (pc := 55) 0 rfl dX10_undo_55 rfl ?_
    refine jo_getrE (pc := 56) ok_10_0 (ik_0 hw) rf_0_0 gw_631 dX10_undo_56 ?_
    refine jo_getrE (pc := 59) ok_8_0 (ik_1 hw) rf_1_0 gw_218 dX10_undo_59 ?_
    refine jo_cV_V_i (pc := 62) (μ' := mu_X4_follow) (fx := f_X4_follow σ8 2) (As := [.ref (adr w 2)]) (c_X4_follow hw (ik_2 hw)) (ok_X4_follow) (ltb rfl) (all3 gw_533 gw_534 gw_535) (ik_40 hw) (by decide) (q := (RX4, TX4, 9)) rfl rfl rfl rfl (Nat.le_of_ble_eq_true rfl) dX10_undo_62 (fun σ9 => ?_)
    refine jo_aload_n (pc := 65) 0 rfl dX10_undo_65 rfl ?_
    refine jo_getf (pc := 66) ok_10_4 (ik_0 hw) gw_635 dX10_undo_66 (fun v10 => ?_)
    exact jo_ireturn (pc := 69) rfl rfl dX10_undo_69
  · refine jo_iconst (pc := 7) dX10_undo_7 (ic_i_m1) ?_
    exact jo_ireturn (pc := 8) rfl rfl dX10_undo_8
theorem c_X10_undo {w : Wd} (hw : WOK w) {σ : Mem} : ∀ r σ', f_X10_undo σ = some (r, σ') → MC w mu_X10_undo (vI r) [.ref (adr w 0)] σ σ' := mc_of ok_X10_undo rfl (Nat.le_of_ble_eq_true rfl) (t_X10_undo hw)
abbrev mu_X10_image : MD := (yX10_image, cX10_image, 2, some .boolean, 7)
theorem ok_X10_image : MOK mu_X10_image 1 := ⟨gw_1247, gw_158, (by decide +kernel : plainFor yX10_image = true), ⟨(by decide +kernel : yX10_image.cls ≠ "java/lang/invoke/MethodHandle"), (by decide +kernel : yX10_image.cls ≠ "java/lang/invoke/VarHandle"), (by decide +kernel : (parseMethodDescriptor yX10_image.desc).map (fun d => d.parameters.length) = some 1)⟩, Nat.le_of_ble_eq_true rfl⟩
noncomputable def f_X10_image (σ : Mem) (x0 : Bool) : Option (Bool × Mem) :=
  if x0 then (f_X8_takeAll σ 17 1).bind (fun (σ5 : Mem) => pF σ5 0 2 1 (fun (σ6 : Mem) => some (true, σ6))) else gZ σ 0 2 (fun (b1 : Bool) => if b1 then (f_X8_takeAll σ 1 17).bind (fun (σ2 : Mem) => pF σ2 0 4 0 (fun (σ3 : Mem) => (f_X4_follow σ3 2).bind (fun (σ4 : Mem) => some (true, σ4)))) else some (false, σ))
theorem t_X10_image {w : Wd} (hw : WOK w) {σ : Mem} {x0 : Bool} : JO w mu_X10_image vB σ [(0, .ref (adr w 0)), (1, .int (b2i x0))] [] 0 (f_X10_image σ x0) some := by
  unfold f_X10_image
  refine jo_iload_n (pc := 0) 1 rfl dX10_image_0 rfl ?_
  refine jo_ifz_eq (pc := 1) dX10_image_1 (tgt := 22) rfl ?_ ?_
  · refine jo_aload_n (pc := 22) 0 rfl dX10_image_22 rfl ?_
    refine jo_getz (pc := 23) ok_10_2 (ik_0 hw) gw_633 dX10_image_23 (fun b1 => ?_)
    refine jo_ifz_ne (pc := 26) dX10_image_26 (tgt := 31) rfl ?_ ?_
    · refine jo_aload_n (pc := 31) 0 rfl dX10_image_31 rfl ?_
      refine jo_getrE (pc := 32) ok_10_0 (ik_0 hw) rf_0_0 gw_631 dX10_image_32 ?_
      refine jo_aload_n (pc := 35) 0 rfl dX10_image_35 rfl ?_
      refine jo_getrE (pc := 36) ok_10_1 (ik_0 hw) rf_0_1 gw_632 dX10_image_36 ?_
      refine jo_cV_V_i (pc := 39) (μ' := mu_X8_takeAll) (fx := f_X8_takeAll σ 1 17) (As := [.ref (adr w 17)]) (c_X8_takeAll hw (ik_1 hw) (ik_17 hw)) (ok_X8_takeAll) (ltb rfl) (all3 gw_1248 gw_1249 gw_1250) (ik_1 hw) (by decide) (q := (RX8, TX8, 3)) rfl rfl rfl rfl (Nat.le_of_ble_eq_true rfl) dX10_image_39 (fun σ2 => ?_)
      refine jo_aload_n (pc := 42) 0 rfl dX10_image_42 rfl ?_
      refine jo_iconst (pc := 43) dX10_image_43 (ic_i_0) ?_
      refine jo_putf (pc := 44) ok_10_4 okp_10_4 (ik_0 hw) gw_635 dX10_image_44 (fun σ3 => ?_)
      refine jo_aload_n (pc := 47) 0 rfl dX10_image_47 rfl ?_
      refine jo_getrE (pc := 48) ok_10_9 (ik_0 hw) rf_0_9 gw_640 dX10_image_48 ?_
      refine jo_aload_n (pc := 51) 0 rfl dX10_image_51 rfl ?_
      refine jo_getrE (pc := 52) ok_10_0 (ik_0 hw) rf_0_0 gw_631 dX10_image_52 ?_
      refine jo_getrE (pc := 55) ok_8_0 (ik_1 hw) rf_1_0 gw_218 dX10_image_55 ?_
      refine jo_cV_V_i (pc := 58) (μ' := mu_X4_follow) (fx := f_X4_follow σ3 2) (As := [.ref (adr w 2)]) (c_X4_follow hw (ik_2 hw)) (ok_X4_follow) (ltb rfl) (all3 gw_533 gw_534 gw_535) (ik_40 hw) (by decide) (q := (RX4, TX4, 9)) rfl rfl rfl rfl (Nat.le_of_ble_eq_true rfl) dX10_image_58 (fun σ4 => ?_)
      refine jo_iconst (pc := 61) dX10_image_61 (ic_i_1) ?_
      exact jo_breturn (pc := 62) (b := true) rfl rfl dX10_image_62
    · refine jo_iconst (pc := 29) dX10_image_29 (ic_i_0) ?_
      exact jo_breturn (pc := 30) (b := false) rfl rfl dX10_image_30
  · refine jo_aload_n (pc := 4) 0 rfl dX10_image_4 rfl ?_
    refine jo_getrE (pc := 5) ok_10_1 (ik_0 hw) rf_0_1 gw_632 dX10_image_5 ?_
    refine jo_aload_n (pc := 8) 0 rfl dX10_image_8 rfl ?_
    refine jo_getrE (pc := 9) ok_10_0 (ik_0 hw) rf_0_0 gw_631 dX10_image_9 ?_
    refine jo_cV_V_i (pc := 12) (μ' := mu_X8_takeAll) (fx := f_X8_takeAll σ 17 1) (As := [.ref (adr w 1)]) (c_X8_takeAll hw (ik_17 hw) (ik_1 hw)) (ok_X8_takeAll) (ltb rfl) (all3 gw_1248 gw_1249 gw_1250) (ik_17 hw) (by decide) (q := (RX8, TX8, 3)) rfl rfl rfl rfl (Nat.le_of_ble_eq_true rfl) dX10_image_12 (fun σ5 => ?_)
    refine jo_aload_n (pc := 15) 0 rfl dX10_image_15 rfl ?_
    refine jo_iconst (pc := 16) dX10_image_16 (ic_i_1) ?_
    refine jo_putz01 (pc := 17) (by decide) ok_10_2 okp_10_2 (ik_0 hw) gw_633 dX10_image_17 (fun σ6 => ?_)
    refine jo_iconst (pc := 20) dX10_image_20 (ic_i_1) ?_
    exact jo_breturn (pc := 21) (b := true) rfl rfl dX10_image_21
theorem c_X10_image {w : Wd} (hw : WOK w) {σ : Mem} {x0 : Bool} : ∀ r σ', f_X10_image σ x0 = some (r, σ') → MC w mu_X10_image (vB r) [.ref (adr w 0), .int (b2i x0)] σ σ' := mc_of ok_X10_image rfl (Nat.le_of_ble_eq_true rfl) (t_X10_image hw)
abbrev mu_X10_registersNotOne : MD := (yX10_registersNotOne, cX10_registersNotOne, 3, some .int, 2)
theorem ok_X10_registersNotOne : MOK mu_X10_registersNotOne 0 := ⟨gw_1269, gw_158, (by decide +kernel : plainFor yX10_registersNotOne = true), ⟨(by decide +kernel : yX10_registersNotOne.cls ≠ "java/lang/invoke/MethodHandle"), (by decide +kernel : yX10_registersNotOne.cls ≠ "java/lang/invoke/VarHandle"), (by decide +kernel : (parseMethodDescriptor yX10_registersNotOne.desc).map (fun d => d.parameters.length) = some 0)⟩, Nat.le_of_ble_eq_true rfl⟩
noncomputable def j_X10_registersNotOne_31 (i2 : Int32) (i5 : Int32) : Option ((Int32 × Int32) ⊕ Int32) :=
  some (Sum.inl (i5, i2 + 1))
noncomputable def l_X10_registersNotOne_4 (σ : Mem) (i1 : Int32) (i2 : Int32) : Option ((Int32 × Int32) ⊕ Int32) :=
  if 10 ≤ i2 then (some (Sum.inr i1)) else (gR 5 i2 (fun (p3 : Nat) => (f_X0_isOne σ p3).bind (fun (b4 : Bool) => (if b4 then some i1 else bd (i1 ||| (1 <<< (i2 &&& 31))) (fun (v6 : Int32) => some v6) : Option Int32).bind (fun (z5 : Int32) => j_X10_registersNotOne_31 i2 z5))))
noncomputable def f_X10_registersNotOne (σ : Mem) : Option Int32 :=
  loopO (fun (z2 : (Int32 × Int32)) => l_X10_registersNotOne_4 σ z2.1 z2.2) (0, 0)
theorem t_X10_registersNotOne {w : Wd} (hw : WOK w) {σ : Mem} : JO w mu_X10_registersNotOne vI σ [(0, .ref (adr w 0))] [] 0 (f_X10_registersNotOne σ) (fun z => some (z, σ)) := by
  unfold f_X10_registersNotOne
  refine jo_iconst (pc := 0) dX10_registersNotOne_0 (ic_i_0) ?_
  refine jo_istore_n (pc := 1) (lv' := [(1, .int 0), (0, .ref (adr w 0))]) dX10_registersNotOne_1 rfl (ltb rfl) rfl ?_
  refine jo_iconst (pc := 2) dX10_registersNotOne_2 (ic_i_0) ?_
  refine jo_istore_n (pc := 3) (lv' := [(2, .int 0), (1, .int 0), (0, .ref (adr w 0))]) dX10_registersNotOne_3 rfl (ltb rfl) rfl ?_
  refine jo_lv (lv' := [(0, .ref (adr w 0)), (1, .int 0), (2, .int 0)]) [2, 1, 0] rfl ?_
  refine jo_loop (X := Int32) (fun (z2 : (Int32 × Int32)) => σ) (fun (z2 : (Int32 × Int32)) => [(0, .ref (adr w 0)), (1, .int z2.1), (2, .int z2.2)]) (body := (fun (z2 : (Int32 × Int32)) => l_X10_registersNotOne_4 σ z2.1 z2.2)) (fun F4_2 hF4_2 s => ?_) (0, 0)
  obtain ⟨i1, i2⟩ := s
  show JO w mu_X10_registersNotOne vI σ [(0, .ref (adr w 0)), (1, .int i1), (2, .int i2)] [] 4 (l_X10_registersNotOne_4 σ i1 i2) _
  unfold l_X10_registersNotOne_4
  refine jo_iload_n (pc := 4) 2 rfl dX10_registersNotOne_4 rfl ?_
  refine jo_bipush (pc := 5) dX10_registersNotOne_5 (ic_b_10) ?_
  refine jo_icmp_ge (pc := 7) dX10_registersNotOne_7 (tgt := 37) rfl ?_ ?_
  · refine jo_iload_n (pc := 37) 1 rfl dX10_registersNotOne_37 rfl ?_
    exact jo_ireturn (pc := 38) rfl rfl dX10_registersNotOne_38
  · refine jo_aload_n (pc := 10) 0 rfl dX10_registersNotOne_10 rfl ?_
    refine jo_getrE (pc := 11) ok_10_0 (ik_0 hw) rf_0_0 gw_631 dX10_registersNotOne_11 ?_
    refine jo_getrE (pc := 14) ok_8_1 (ik_1 hw) rf_1_1 gw_221 dX10_registersNotOne_14 ?_
    refine jo_iload_n (pc := 17) 2 rfl dX10_registersNotOne_17 rfl ?_
    refine jo_aaldG (pc := 18) (z := 13) hw (ik_5 hw) (by decide) (t := 4) rfl rfl (by decide) dX10_registersNotOne_18 (fun p3 hp3 => ?_)
    refine jo_cS_Z_p (pc := 19) (μ' := mu_X0_isOne) (fx := f_X0_isOne σ p3) (As := [.ref (adr w p3)]) (c_X0_isOne hw (hp3)) (ok_X0_isOne) (ltb rfl) (all2 gw_1074 gw_1075) rfl rfl (Nat.le_of_ble_eq_true rfl) dX10_registersNotOne_19 (fun b4 => ?_)
    refine jo_join1 (S := Int32) (fun (z5 : Int32) => σ) (fun (z5 : Int32) => [(0, .ref (adr w 0)), (2, .int i2), (1, .int z5)]) (fun (z5 : Int32) => []) 31 ?_ (fun h31_5 => ?_)
    · intro i5
      show JO w mu_X10_registersNotOne vI σ [(0, .ref (adr w 0)), (2, .int i2), (1, .int i5)] [] 31 (j_X10_registersNotOne_31 i2 i5) _
      unfold j_X10_registersNotOne_31
      refine jo_iinc (pc := 31) (lv' := [(2, .int (i2 + 1)), (0, .ref (adr w 0)), (1, .int i5)]) 1 rfl dX10_registersNotOne_31 (congrArg (fun z => i2 + z) (ic_i_1)) (ltb rfl) rfl ?_
      refine jo_goto (pc := 34) dX10_registersNotOne_34 (tgt := 4) rfl ?_
      refine jo_lv (lv' := [(0, .ref (adr w 0)), (1, .int i5), (2, .int (i2 + 1))]) [1, 2, 0] rfl ?_
      exact jo_leaf (by rfl) (hF4_2 (i5, i2 + 1))
    · refine jo_ifz_ne (pc := 22) dX10_registersNotOne_22 (tgt := 31) rfl ?_ ?_
      · refine jo_lv (lv' := [(0, .ref (adr w 0)), (2, .int i2), (1, .int i1)]) [0, 2, 1] rfl ?_
        exact jo_leaf (by rfl) (h31_5 i1)
      · refine jo_iload_n (pc := 25) 1 rfl dX10_registersNotOne_25 rfl ?_
        refine jo_iconst (pc := 26) dX10_registersNotOne_26 (ic_i_1) ?_
        refine jo_iload_n (pc := 27) 2 rfl dX10_registersNotOne_27 rfl ?_
        refine jo_ishl (pc := 28) dX10_registersNotOne_28 ?_
        refine jo_ior (pc := 29) dX10_registersNotOne_29 ?_
        refine jo_bd ?_
        refine jo_istore_n (pc := 30) (lv' := [(1, .int (i1 ||| (1 <<< (i2 &&& 31)))), (0, .ref (adr w 0)), (2, .int i2)]) dX10_registersNotOne_30 rfl (ltb rfl) rfl ?_
        generalize (i1 ||| (1 <<< (i2 &&& 31))) = v6
        refine jo_lv (lv' := [(0, .ref (adr w 0)), (2, .int i2), (1, .int v6)]) [1, 2, 0] rfl ?_
        exact jo_leaf (by rfl) (h31_5 v6)
theorem c_X10_registersNotOne {w : Wd} (hw : WOK w) {σ : Mem} : ∀ r, f_X10_registersNotOne σ = some r → MC w mu_X10_registersNotOne (vI r) [.ref (adr w 0)] σ σ := mc_ofP ok_X10_registersNotOne rfl (Nat.le_of_ble_eq_true rfl) (t_X10_registersNotOne hw)
abbrev mu_X10_centralGenerators : MD := (yX10_centralGenerators, cX10_centralGenerators, 3, some .int, 3)
theorem ok_X10_centralGenerators : MOK mu_X10_centralGenerators 0 := ⟨gw_1273, gw_158, (by decide +kernel : plainFor yX10_centralGenerators = true), ⟨(by decide +kernel : yX10_centralGenerators.cls ≠ "java/lang/invoke/MethodHandle"), (by decide +kernel : yX10_centralGenerators.cls ≠ "java/lang/invoke/VarHandle"), (by decide +kernel : (parseMethodDescriptor yX10_centralGenerators.desc).map (fun d => d.parameters.length) = some 0)⟩, Nat.le_of_ble_eq_true rfl⟩
noncomputable def j_X10_centralGenerators_38 (i2 : Int32) (i5 : Int32) : Option ((Int32 × Int32) ⊕ Int32) :=
  some (Sum.inl (i5, i2 + 1))
noncomputable def l_X10_centralGenerators_4 (σ : Mem) (i1 : Int32) (i2 : Int32) : Option ((Int32 × Int32) ⊕ Int32) :=
  gF σ 2 0 (fun (v3 : Int32) => if v3 ≤ i2 then (some (Sum.inr i1)) else ((f_X6_isCentral σ 2 i2).bind (fun (b4 : Bool) => (if b4 then bd (i1 ||| (1 <<< (i2 &&& 31))) (fun (v6 : Int32) => some v6) else some i1 : Option Int32).bind (fun (z5 : Int32) => j_X10_centralGenerators_38 i2 z5))))
noncomputable def f_X10_centralGenerators (σ : Mem) : Option Int32 :=
  loopO (fun (z2 : (Int32 × Int32)) => l_X10_centralGenerators_4 σ z2.1 z2.2) (0, 0)
theorem t_X10_centralGenerators {w : Wd} (hw : WOK w) {σ : Mem} : JO w mu_X10_centralGenerators vI σ [(0, .ref (adr w 0))] [] 0 (f_X10_centralGenerators σ) (fun z => some (z, σ)) := by
  unfold f_X10_centralGenerators
  refine jo_iconst (pc := 0) dX10_centralGenerators_0 (ic_i_0) ?_
  refine jo_istore_n (pc := 1) (lv' := [(1, .int 0), (0, .ref (adr w 0))]) dX10_centralGenerators_1 rfl (ltb rfl) rfl ?_
  refine jo_iconst (pc := 2) dX10_centralGenerators_2 (ic_i_0) ?_
  refine jo_istore_n (pc := 3) (lv' := [(2, .int 0), (1, .int 0), (0, .ref (adr w 0))]) dX10_centralGenerators_3 rfl (ltb rfl) rfl ?_
  refine jo_lv (lv' := [(0, .ref (adr w 0)), (1, .int 0), (2, .int 0)]) [2, 1, 0] rfl ?_
  refine jo_loop (X := Int32) (fun (z2 : (Int32 × Int32)) => σ) (fun (z2 : (Int32 × Int32)) => [(0, .ref (adr w 0)), (1, .int z2.1), (2, .int z2.2)]) (body := (fun (z2 : (Int32 × Int32)) => l_X10_centralGenerators_4 σ z2.1 z2.2)) (fun F4_2 hF4_2 s => ?_) (0, 0)
  obtain ⟨i1, i2⟩ := s
  show JO w mu_X10_centralGenerators vI σ [(0, .ref (adr w 0)), (1, .int i1), (2, .int i2)] [] 4 (l_X10_centralGenerators_4 σ i1 i2) _
  unfold l_X10_centralGenerators_4
  refine jo_iload_n (pc := 4) 2 rfl dX10_centralGenerators_4 rfl ?_
  refine jo_aload_n (pc := 5) 0 rfl dX10_centralGenerators_5 rfl ?_
  refine jo_getrE (pc := 6) ok_10_0 (ik_0 hw) rf_0_0 gw_631 dX10_centralGenerators_6 ?_
  refine jo_getrE (pc := 9) ok_8_0 (ik_1 hw) rf_1_0 gw_218 dX10_centralGenerators_9 ?_
  refine jo_getf (pc := 12) ok_6_0 (ik_2 hw) gw_198 dX10_centralGenerators_12 (fun v3 => ?_)
  refine jo_icmp_ge (pc := 15) dX10_centralGenerators_15 (tgt := 44) rfl ?_ ?_
  · refine jo_iload_n (pc := 44) 1 rfl dX10_centralGenerators_44 rfl ?_
    exact jo_ireturn (pc := 45) rfl rfl dX10_centralGenerators_45
  · refine jo_aload_n (pc := 18) 0 rfl dX10_centralGenerators_18 rfl ?_
    refine jo_getrE (pc := 19) ok_10_0 (ik_0 hw) rf_0_0 gw_631 dX10_centralGenerators_19 ?_
    refine jo_getrE (pc := 22) ok_8_0 (ik_1 hw) rf_1_0 gw_218 dX10_centralGenerators_22 ?_
    refine jo_iload_n (pc := 25) 2 rfl dX10_centralGenerators_25 rfl ?_
    refine jo_cV_Z_p (pc := 26) (μ' := mu_X6_isCentral) (fx := f_X6_isCentral σ 2 i2) (As := [.int i2]) (c_X6_isCentral hw (ik_2 hw)) (ok_X6_isCentral) (ltb rfl) (all3 gw_747 gw_748 gw_749) (ik_2 hw) (by decide) (q := (RX6, TX6, 3)) rfl rfl rfl rfl (Nat.le_of_ble_eq_true rfl) dX10_centralGenerators_26 (fun b4 => ?_)
    refine jo_join1 (S := Int32) (fun (z5 : Int32) => σ) (fun (z5 : Int32) => [(0, .ref (adr w 0)), (2, .int i2), (1, .int z5)]) (fun (z5 : Int32) => []) 38 ?_ (fun h38_5 => ?_)
    · intro i5
      show JO w mu_X10_centralGenerators vI σ [(0, .ref (adr w 0)), (2, .int i2), (1, .int i5)] [] 38 (j_X10_centralGenerators_38 i2 i5) _
      unfold j_X10_centralGenerators_38
      refine jo_iinc (pc := 38) (lv' := [(2, .int (i2 + 1)), (0, .ref (adr w 0)), (1, .int i5)]) 1 rfl dX10_centralGenerators_38 (congrArg (fun z => i2 + z) (ic_i_1)) (ltb rfl) rfl ?_
      refine jo_goto (pc := 41) dX10_centralGenerators_41 (tgt := 4) rfl ?_
      refine jo_lv (lv' := [(0, .ref (adr w 0)), (1, .int i5), (2, .int (i2 + 1))]) [1, 2, 0] rfl ?_
      exact jo_leaf (by rfl) (hF4_2 (i5, i2 + 1))
    · refine jo_ifz_eq (pc := 29) dX10_centralGenerators_29 (tgt := 38) rfl ?_ ?_
      · refine jo_lv (lv' := [(0, .ref (adr w 0)), (2, .int i2), (1, .int i1)]) [0, 2, 1] rfl ?_
        exact jo_leaf (by rfl) (h38_5 i1)
      · refine jo_iload_n (pc := 32) 1 rfl dX10_centralGenerators_32 rfl ?_
        refine jo_iconst (pc := 33) dX10_centralGenerators_33 (ic_i_1) ?_
        refine jo_iload_n (pc := 34) 2 rfl dX10_centralGenerators_34 rfl ?_
        refine jo_ishl (pc := 35) dX10_centralGenerators_35 ?_
        refine jo_ior (pc := 36) dX10_centralGenerators_36 ?_
        refine jo_bd ?_
        refine jo_istore_n (pc := 37) (lv' := [(1, .int (i1 ||| (1 <<< (i2 &&& 31)))), (0, .ref (adr w 0)), (2, .int i2)]) dX10_centralGenerators_37 rfl (ltb rfl) rfl ?_
        generalize (i1 ||| (1 <<< (i2 &&& 31))) = v6
        refine jo_lv (lv' := [(0, .ref (adr w 0)), (2, .int i2), (1, .int v6)]) [1, 2, 0] rfl ?_
        exact jo_leaf (by rfl) (h38_5 v6)
theorem c_X10_centralGenerators {w : Wd} (hw : WOK w) {σ : Mem} : ∀ r, f_X10_centralGenerators σ = some r → MC w mu_X10_centralGenerators (vI r) [.ref (adr w 0)] σ σ := mc_ofP ok_X10_centralGenerators rfl (Nat.le_of_ble_eq_true rfl) (t_X10_centralGenerators hw)
abbrev mu_X10_look : MD := (yX10_look, cX10_look, 2, some .int, 4)
theorem ok_X10_look : MOK mu_X10_look 1 := ⟨gw_1257, gw_158, (by decide +kernel : plainFor yX10_look = true), ⟨(by decide +kernel : yX10_look.cls ≠ "java/lang/invoke/MethodHandle"), (by decide +kernel : yX10_look.cls ≠ "java/lang/invoke/VarHandle"), (by decide +kernel : (parseMethodDescriptor yX10_look.desc).map (fun d => d.parameters.length) = some 1)⟩, Nat.le_of_ble_eq_true rfl⟩
noncomputable def f_X10_look (σ : Mem) (x0 : Int32) : Option Int32 :=
  if x0 = 0 then (gF σ 2 0 (fun (v2 : Int32) => some v2)) else if x0 = 1 then ((f_X6_top σ 2).bind (fun (v4 : Int32) => some v4)) else if x0 = 2 then (gZ σ 40 3 (fun (b6 : Bool) => (f_X10_bit σ b6).bind (fun (v7 : Int32) => some v7))) else if x0 = 3 then ((f_X6_tailsAboveZero σ 2).bind (fun (v9 : Int32) => some v9)) else if x0 = 4 then ((f_X4_termCount σ).bind (fun (v11 : Int32) => some v11)) else if x0 = 5 then ((f_X10_registersNotOne σ).bind (fun (v13 : Int32) => some v13)) else if x0 = 6 then (gF σ 0 4 (fun (v15 : Int32) => some v15)) else if x0 = 7 then (gF σ 0 7 (fun (v17 : Int32) => some v17)) else if x0 = 8 then (gI σ 16 0 (fun (v19 : Int32) => some v19)) else if x0 = 9 then (gZ σ 40 3 (fun (b21 : Bool) => if b21 then (f_X10_centralGenerators σ).bind (fun (v22 : Int32) => some v22) else some 0)) else (some (-1))
theorem t_X10_look {w : Wd} (hw : WOK w) {σ : Mem} {x0 : Int32} : JO w mu_X10_look vI σ [(0, .ref (adr w 0)), (1, .int x0)] [] 0 (f_X10_look σ x0) (fun z => some (z, σ)) := by
  unfold f_X10_look
  refine jo_iload_n (pc := 0) 1 rfl dX10_look_0 rfl ?_
  refine jo_case (v := 0) (fun h1 => ?_) (fun h1 => ?_)
  · refine jo_tswHit (pc := 1) dX10_look_1 h1 (by decide) (by decide) (off := 55) (by rfl) (tgt := 56) rfl ?_
    refine jo_aload_n (pc := 56) 0 rfl dX10_look_56 rfl ?_
    refine jo_getrE (pc := 57) ok_10_0 (ik_0 hw) rf_0_0 gw_631 dX10_look_57 ?_
    refine jo_getrE (pc := 60) ok_8_0 (ik_1 hw) rf_1_0 gw_218 dX10_look_60 ?_
    refine jo_getf (pc := 63) ok_6_0 (ik_2 hw) gw_198 dX10_look_63 (fun v2 => ?_)
    exact jo_ireturn (pc := 66) rfl rfl dX10_look_66
  refine jo_case (v := 1) (fun h3 => ?_) (fun h3 => ?_)
  · refine jo_tswHit (pc := 1) dX10_look_1 h3 (by decide) (by decide) (off := 66) (by rfl) (tgt := 67) rfl ?_
    refine jo_aload_n (pc := 67) 0 rfl dX10_look_67 rfl ?_
    refine jo_getrE (pc := 68) ok_10_0 (ik_0 hw) rf_0_0 gw_631 dX10_look_68 ?_
    refine jo_getrE (pc := 71) ok_8_0 (ik_1 hw) rf_1_0 gw_218 dX10_look_71 ?_
    refine jo_cV_I_p (pc := 74) (μ' := mu_X6_top) (fx := f_X6_top σ 2) (As := []) (c_X6_top hw (ik_2 hw)) (ok_X6_top) (ltb rfl) (all3 gw_1061 gw_606 gw_607) (ik_2 hw) (by decide) (q := (RX6, TX6, 3)) rfl rfl rfl rfl (Nat.le_of_ble_eq_true rfl) dX10_look_74 (fun v4 => ?_)
    exact jo_ireturn (pc := 77) rfl rfl dX10_look_77
  refine jo_case (v := 2) (fun h5 => ?_) (fun h5 => ?_)
  · refine jo_tswHit (pc := 1) dX10_look_1 h5 (by decide) (by decide) (off := 77) (by rfl) (tgt := 78) rfl ?_
    refine jo_aload_n (pc := 78) 0 rfl dX10_look_78 rfl ?_
    refine jo_getrE (pc := 79) ok_10_9 (ik_0 hw) rf_0_9 gw_640 dX10_look_79 ?_
    refine jo_getz (pc := 82) ok_4_3 (ik_40 hw) gw_308 dX10_look_82 (fun b6 => ?_)
    refine jo_cS_I_p (pc := 85) (μ' := mu_X10_bit) (fx := f_X10_bit σ b6) (As := [.int (b2i b6)]) (c_X10_bit hw) (ok_X10_bit) (ltb rfl) (all2 gw_736 gw_737) rfl rfl (Nat.le_of_ble_eq_true rfl) dX10_look_85 (fun v7 => ?_)
    exact jo_ireturn (pc := 88) rfl rfl dX10_look_88
  refine jo_case (v := 3) (fun h8 => ?_) (fun h8 => ?_)
  · refine jo_tswHit (pc := 1) dX10_look_1 h8 (by decide) (by decide) (off := 88) (by rfl) (tgt := 89) rfl ?_
    refine jo_aload_n (pc := 89) 0 rfl dX10_look_89 rfl ?_
    refine jo_getrE (pc := 90) ok_10_0 (ik_0 hw) rf_0_0 gw_631 dX10_look_90 ?_
    refine jo_getrE (pc := 93) ok_8_0 (ik_1 hw) rf_1_0 gw_218 dX10_look_93 ?_
    refine jo_cV_I_p (pc := 96) (μ' := mu_X6_tailsAboveZero) (fx := f_X6_tailsAboveZero σ 2) (As := []) (c_X6_tailsAboveZero hw (ik_2 hw)) (ok_X6_tailsAboveZero) (ltb rfl) (all3 gw_1258 gw_1259 gw_1260) (ik_2 hw) (by decide) (q := (RX6, TX6, 3)) rfl rfl rfl rfl (Nat.le_of_ble_eq_true rfl) dX10_look_96 (fun v9 => ?_)
    exact jo_ireturn (pc := 99) rfl rfl dX10_look_99
  refine jo_case (v := 4) (fun h10 => ?_) (fun h10 => ?_)
  · refine jo_tswHit (pc := 1) dX10_look_1 h10 (by decide) (by decide) (off := 99) (by rfl) (tgt := 100) rfl ?_
    refine jo_aload_n (pc := 100) 0 rfl dX10_look_100 rfl ?_
    refine jo_getrE (pc := 101) ok_10_9 (ik_0 hw) rf_0_9 gw_640 dX10_look_101 ?_
    refine jo_cV_I_p (pc := 104) (μ' := mu_X4_termCount) (fx := f_X4_termCount σ) (As := []) (c_X4_termCount hw) (ok_X4_termCount) (ltb rfl) (all3 gw_1262 gw_1263 gw_1264) (ik_40 hw) (by decide) (q := (RX4, TX4, 9)) rfl rfl rfl rfl (Nat.le_of_ble_eq_true rfl) dX10_look_104 (fun v11 => ?_)
    exact jo_ireturn (pc := 107) rfl rfl dX10_look_107
  refine jo_case (v := 5) (fun h12 => ?_) (fun h12 => ?_)
  · refine jo_tswHit (pc := 1) dX10_look_1 h12 (by decide) (by decide) (off := 107) (by rfl) (tgt := 108) rfl ?_
    refine jo_aload_n (pc := 108) 0 rfl dX10_look_108 rfl ?_
    refine jo_cV_I_p (pc := 109) (μ' := mu_X10_registersNotOne) (fx := f_X10_registersNotOne σ) (As := []) (c_X10_registersNotOne hw) (ok_X10_registersNotOne) (ltb rfl) (all3 gw_1266 gw_1268 gw_59) (ik_0 hw) (by decide) (q := (RX10, TX10, 17)) rfl rfl rfl rfl (Nat.le_of_ble_eq_true rfl) dX10_look_109 (fun v13 => ?_)
    exact jo_ireturn (pc := 112) rfl rfl dX10_look_112
  refine jo_case (v := 6) (fun h14 => ?_) (fun h14 => ?_)
  · refine jo_tswHit (pc := 1) dX10_look_1 h14 (by decide) (by decide) (off := 112) (by rfl) (tgt := 113) rfl ?_
    refine jo_aload_n (pc := 113) 0 rfl dX10_look_113 rfl ?_
    refine jo_getf (pc := 114) ok_10_4 (ik_0 hw) gw_635 dX10_look_114 (fun v15 => ?_)
    exact jo_ireturn (pc := 117) rfl rfl dX10_look_117
  refine jo_case (v := 7) (fun h16 => ?_) (fun h16 => ?_)
  · refine jo_tswHit (pc := 1) dX10_look_1 h16 (by decide) (by decide) (off := 117) (by rfl) (tgt := 118) rfl ?_
    refine jo_aload_n (pc := 118) 0 rfl dX10_look_118 rfl ?_
    refine jo_getf (pc := 119) ok_10_7 (ik_0 hw) gw_638 dX10_look_119 (fun v17 => ?_)
    exact jo_ireturn (pc := 122) rfl rfl dX10_look_122
  refine jo_case (v := 8) (fun h18 => ?_) (fun h18 => ?_)
  · refine jo_tswHit (pc := 1) dX10_look_1 h18 (by decide) (by decide) (off := 122) (by rfl) (tgt := 123) rfl ?_
    refine jo_aload_n (pc := 123) 0 rfl dX10_look_123 rfl ?_
    refine jo_getrE (pc := 124) ok_10_0 (ik_0 hw) rf_0_0 gw_631 dX10_look_124 ?_
    refine jo_getrE (pc := 127) ok_8_2 (ik_1 hw) rf_1_2 gw_224 dX10_look_127 ?_
    refine jo_iconst (pc := 130) dX10_look_130 (ic_i_0) ?_
    refine jo_iald (pc := 131) (ik_16 hw) dX10_look_131 (fun v19 => ?_)
    exact jo_ireturn (pc := 132) rfl rfl dX10_look_132
  refine jo_case (v := 9) (fun h20 => ?_) (fun h20 => ?_)
  · refine jo_tswHit (pc := 1) dX10_look_1 h20 (by decide) (by decide) (off := 132) (by rfl) (tgt := 133) rfl ?_
    refine jo_aload_n (pc := 133) 0 rfl dX10_look_133 rfl ?_
    refine jo_getrE (pc := 134) ok_10_9 (ik_0 hw) rf_0_9 gw_640 dX10_look_134 ?_
    refine jo_getz (pc := 137) ok_4_3 (ik_40 hw) gw_308 dX10_look_137 (fun b21 => ?_)
    refine jo_ifz_eq (pc := 140) dX10_look_140 (tgt := 150) rfl ?_ ?_
    · refine jo_iconst (pc := 150) dX10_look_150 (ic_i_0) ?_
      exact jo_ireturn (pc := 151) rfl rfl dX10_look_151
    · refine jo_aload_n (pc := 143) 0 rfl dX10_look_143 rfl ?_
      refine jo_cV_I_p (pc := 144) (μ' := mu_X10_centralGenerators) (fx := f_X10_centralGenerators σ) (As := []) (c_X10_centralGenerators hw) (ok_X10_centralGenerators) (ltb rfl) (all3 gw_1270 gw_1272 gw_60) (ik_0 hw) (by decide) (q := (RX10, TX10, 17)) rfl rfl rfl rfl (Nat.le_of_ble_eq_true rfl) dX10_look_144 (fun v22 => ?_)
      refine jo_goto (pc := 147) dX10_look_147 (tgt := 151) rfl ?_
      exact jo_ireturn (pc := 151) rfl rfl dX10_look_151
  have qh1 : (x0).toInt ≠ 0 := fun e => h1 (Int32.toInt_inj.mp (e.trans (by decide)))
  have qh3 : (x0).toInt ≠ 1 := fun e => h3 (Int32.toInt_inj.mp (e.trans (by decide)))
  have qh5 : (x0).toInt ≠ 2 := fun e => h5 (Int32.toInt_inj.mp (e.trans (by decide)))
  have qh8 : (x0).toInt ≠ 3 := fun e => h8 (Int32.toInt_inj.mp (e.trans (by decide)))
  have qh10 : (x0).toInt ≠ 4 := fun e => h10 (Int32.toInt_inj.mp (e.trans (by decide)))
  have qh12 : (x0).toInt ≠ 5 := fun e => h12 (Int32.toInt_inj.mp (e.trans (by decide)))
  have qh14 : (x0).toInt ≠ 6 := fun e => h14 (Int32.toInt_inj.mp (e.trans (by decide)))
  have qh16 : (x0).toInt ≠ 7 := fun e => h16 (Int32.toInt_inj.mp (e.trans (by decide)))
  have qh18 : (x0).toInt ≠ 8 := fun e => h18 (Int32.toInt_inj.mp (e.trans (by decide)))
  have qh20 : (x0).toInt ≠ 9 := fun e => h20 (Int32.toInt_inj.mp (e.trans (by decide)))
  refine jo_tableOut (pc := 1) dX10_look_1 (by omega) (tgt := 152) rfl ?_
  refine jo_iconst (pc := 152) dX10_look_152 (ic_i_m1) ?_
  exact jo_ireturn (pc := 153) rfl rfl dX10_look_153
theorem c_X10_look {w : Wd} (hw : WOK w) {σ : Mem} {x0 : Int32} : ∀ r, f_X10_look σ x0 = some r → MC w mu_X10_look (vI r) [.ref (adr w 0), .int x0] σ σ := mc_ofP ok_X10_look rfl (Nat.le_of_ble_eq_true rfl) (t_X10_look hw)
abbrev mu_X11_isIn : MD := (yX11_isIn, cX11_isIn, 7, some .boolean, 0)
theorem ok_X11_isIn : MOK mu_X11_isIn 3 := ⟨gw_1423, gw_171, (by decide +kernel : plainFor yX11_isIn = true), ⟨(by decide +kernel : yX11_isIn.cls ≠ "java/lang/invoke/MethodHandle"), (by decide +kernel : yX11_isIn.cls ≠ "java/lang/invoke/VarHandle"), (by decide +kernel : (parseMethodDescriptor yX11_isIn.desc).map (fun d => d.parameters.length) = some 3)⟩, Nat.le_of_ble_eq_true rfl⟩
noncomputable def j_X11_isIn_17  : Option Bool :=
  some false
noncomputable def f_X11_isIn (σ : Mem) (x0 : Int64) (x1 : Int64) (x2 : Int64) : Option Bool :=
  (if x0 < x1 then (some (Sum.inl ())) else (if x2 < x0 then (some (Sum.inl ())) else (some (Sum.inr true))) : Option (Unit ⊕ Bool)).bind (Sum.elim (fun (z0 : Unit) => j_X11_isIn_17) some)
theorem t_X11_isIn {w : Wd} (hw : WOK w) (hN : wn w = NT) {σ : Mem} {x0 : Int64} {x1 : Int64} {x2 : Int64} : JO w mu_X11_isIn vB σ [(0, .ref (adr w 306)), (1, .long x0), (3, .long x1), (5, .long x2)] [] 0 (f_X11_isIn σ x0 x1 x2) (fun z => some (z, σ)) := by
  unfold f_X11_isIn
  refine jo_lload_n (pc := 0) 1 rfl dX11_isIn_0 rfl ?_
  refine jo_lload_n (pc := 1) 2 rfl dX11_isIn_1 rfl ?_
  refine jo_joinS (S := Unit) (fun (z0 : Unit) => σ) (fun (z0 : Unit) => []) (fun (z0 : Unit) => []) 17 ?_ (fun h17_0 => ?_)
  · intro _
    show JO w mu_X11_isIn vB σ [] [] 17 (j_X11_isIn_17) _
    unfold j_X11_isIn_17
    refine jo_iconst (pc := 17) dX11_isIn_17 (ic_i_0) ?_
    exact jo_breturn (pc := 18) (b := false) rfl rfl dX11_isIn_18
  · refine jo_lcmp_lt (pc := 2) dX11_isIn_2 dX11_isIn_3 (tgt := 17) rfl ?_ ?_
    · refine jo_lv (lv' := []) [] rfl ?_
      exact jo_leaf (by rfl) (h17_0 ())
    · refine jo_lload_n (pc := 6) 1 rfl dX11_isIn_6 rfl ?_
      refine jo_lload (pc := 7) 3 rfl dX11_isIn_7 ?_
      refine jo_lcmp_gt (pc := 9) dX11_isIn_9 dX11_isIn_10 (tgt := 17) rfl ?_ ?_
      · refine jo_lv (lv' := []) [] rfl ?_
        exact jo_leaf (by rfl) (h17_0 ())
      · refine jo_iconst (pc := 13) dX11_isIn_13 (ic_i_1) ?_
        refine jo_goto (pc := 14) dX11_isIn_14 (tgt := 18) rfl ?_
        exact jo_breturn (pc := 18) (b := true) rfl rfl dX11_isIn_18
theorem c_X11_isIn {w : Wd} (hw : WOK w) (hN : wn w = NT) {σ : Mem} {x0 : Int64} {x1 : Int64} {x2 : Int64} : ∀ r, f_X11_isIn σ x0 x1 x2 = some r → MC w mu_X11_isIn (vB r) [.ref (adr w 306), .long x0, .long x1, .long x2] σ σ := mc_ofP ok_X11_isIn rfl (Nat.le_of_ble_eq_true rfl) (t_X11_isIn hw hN)
abbrev mu_X11_clears : MD := (yX11_clears, cX11_clears, 3, none, 0)
theorem ok_X11_clears : MOK mu_X11_clears 1 := ⟨gw_1288, gw_171, (by decide +kernel : plainFor yX11_clears = true), ⟨(by decide +kernel : yX11_clears.cls ≠ "java/lang/invoke/MethodHandle"), (by decide +kernel : yX11_clears.cls ≠ "java/lang/invoke/VarHandle"), (by decide +kernel : (parseMethodDescriptor yX11_clears.desc).map (fun d => d.parameters.length) = some 1)⟩, Nat.le_of_ble_eq_true rfl⟩
noncomputable def j_X11_clears_22 (x0 : Int32) (σ1 : Mem) : Option Mem :=
  pI σ1 307 0 x0 (fun (σ2 : Mem) => pF σ2 306 9 0 (fun (σ3 : Mem) => some σ3))
noncomputable def l_X11_clears_2 (σ4 : Mem) (i5 : Int32) : Option ((Mem × Int32) ⊕ Mem) :=
  if 283 ≤ i5 then (some (Sum.inr σ4)) else (pI σ4 307 i5 0 (fun (σ6 : Mem) => some (Sum.inl (σ6, i5 + 1))))
noncomputable def f_X11_clears (σ : Mem) (x0 : Int32) : Option Mem :=
  (loopO (fun (z5 : (Mem × Int32)) => l_X11_clears_2 z5.1 z5.2) (σ, 0) : Option Mem).bind (fun (z1 : Mem) => j_X11_clears_22 x0 z1)
theorem t_X11_clears {w : Wd} (hw : WOK w) (hN : wn w = NT) {σ : Mem} {x0 : Int32} : JO w mu_X11_clears vV σ [(0, .ref (adr w 306)), (1, .int x0)] [] 0 (f_X11_clears σ x0) (fun z => some ((), z)) := by
  unfold f_X11_clears
  refine jo_iconst (pc := 0) dX11_clears_0 (ic_i_0) ?_
  refine jo_istore_n (pc := 1) (lv' := [(2, .int 0), (0, .ref (adr w 306)), (1, .int x0)]) dX11_clears_1 rfl (ltb rfl) rfl ?_
  refine jo_join1 (S := Mem) (fun (z1 : Mem) => z1) (fun (z1 : Mem) => [(0, .ref (adr w 306)), (1, .int x0)]) (fun (z1 : Mem) => []) 22 ?_ (fun h22_1 => ?_)
  · intro σ1
    show JO w mu_X11_clears vV σ1 [(0, .ref (adr w 306)), (1, .int x0)] [] 22 (j_X11_clears_22 x0 σ1) _
    unfold j_X11_clears_22
    refine jo_aload_n (pc := 22) 0 rfl dX11_clears_22 rfl ?_
    refine jo_getrE (pc := 23) ok_11_1 (ik_306 hw hN) rf_306_1 gw_1294 dX11_clears_23 ?_
    refine jo_iconst (pc := 26) dX11_clears_26 (ic_i_0) ?_
    refine jo_iload_n (pc := 27) 1 rfl dX11_clears_27 rfl ?_
    refine jo_iast (pc := 28) (ik_307 hw hN) dX11_clears_28 (fun σ2 => ?_)
    refine jo_aload_n (pc := 29) 0 rfl dX11_clears_29 rfl ?_
    refine jo_iconst (pc := 30) dX11_clears_30 (ic_i_0) ?_
    refine jo_putz01 (pc := 31) (by decide) ok_11_9 okp_11_9 (ik_306 hw hN) gw_1302 dX11_clears_31 (fun σ3 => ?_)
    exact jo_return (pc := 34) rfl rfl dX11_clears_34
  · refine jo_lv (lv' := [(0, .ref (adr w 306)), (1, .int x0), (2, .int 0)]) [1, 2, 0] rfl ?_
    refine jo_loop (X := Mem) (fun (z5 : (Mem × Int32)) => z5.1) (fun (z5 : (Mem × Int32)) => [(0, .ref (adr w 306)), (1, .int x0), (2, .int z5.2)]) (body := (fun (z5 : (Mem × Int32)) => l_X11_clears_2 z5.1 z5.2)) (fun F2_5 hF2_5 s => ?_) (σ, 0)
    obtain ⟨σ4, i5⟩ := s
    show JO w mu_X11_clears vV σ4 [(0, .ref (adr w 306)), (1, .int x0), (2, .int i5)] [] 2 (l_X11_clears_2 σ4 i5) _
    unfold l_X11_clears_2
    refine jo_iload_n (pc := 2) 2 rfl dX11_clears_2 rfl ?_
    refine jo_sipush (pc := 3) dX11_clears_3 (ic_s_283) ?_
    refine jo_icmp_ge (pc := 6) dX11_clears_6 (tgt := 22) rfl ?_ ?_
    · refine jo_lv (lv' := [(0, .ref (adr w 306)), (1, .int x0)]) [0, 1] rfl ?_
      exact jo_leaf (by rfl) (h22_1 σ4)
    · refine jo_aload_n (pc := 9) 0 rfl dX11_clears_9 rfl ?_
      refine jo_getrE (pc := 10) ok_11_1 (ik_306 hw hN) rf_306_1 gw_1294 dX11_clears_10 ?_
      refine jo_iload_n (pc := 13) 2 rfl dX11_clears_13 rfl ?_
      refine jo_iconst (pc := 14) dX11_clears_14 (ic_i_0) ?_
      refine jo_iast (pc := 15) (ik_307 hw hN) dX11_clears_15 (fun σ6 => ?_)
      refine jo_iinc (pc := 16) (lv' := [(2, .int (i5 + 1)), (0, .ref (adr w 306)), (1, .int x0)]) 2 rfl dX11_clears_16 (congrArg (fun z => i5 + z) (ic_i_1)) (ltb rfl) rfl ?_
      refine jo_goto (pc := 19) dX11_clears_19 (tgt := 2) rfl ?_
      refine jo_lv (lv' := [(0, .ref (adr w 306)), (1, .int x0), (2, .int (i5 + 1))]) [1, 2, 0] rfl ?_
      exact jo_leaf (by rfl) (hF2_5 (σ6, i5 + 1))
theorem c_X11_clears {w : Wd} (hw : WOK w) (hN : wn w = NT) {σ : Mem} {x0 : Int32} : ∀ σ', f_X11_clears σ x0 = some σ' → MC w mu_X11_clears none [.ref (adr w 306), .int x0] σ σ' := mc_ofV ok_X11_clears rfl (Nat.le_of_ble_eq_true rfl) (t_X11_clears hw hN)
abbrev mu_X11_putsTail : MD := (yX11_putsTail, cX11_putsTail, 5, none, 0)
theorem ok_X11_putsTail : MOK mu_X11_putsTail 4 := ⟨gw_1292, gw_171, (by decide +kernel : plainFor yX11_putsTail = true), ⟨(by decide +kernel : yX11_putsTail.cls ≠ "java/lang/invoke/MethodHandle"), (by decide +kernel : yX11_putsTail.cls ≠ "java/lang/invoke/VarHandle"), (by decide +kernel : (parseMethodDescriptor yX11_putsTail.desc).map (fun d => d.parameters.length) = some 4)⟩, Nat.le_of_ble_eq_true rfl⟩
noncomputable def f_X11_putsTail (σ : Mem) (x0 : Int32) (x1 : Int32) (x2 : Int32) (x3 : Int32) : Option Mem :=
  pI σ 307 (((7 + (36 * x0)) + (6 * x1)) + x2) x3 (fun (σ1 : Mem) => pF σ1 306 9 0 (fun (σ2 : Mem) => some σ2))
theorem t_X11_putsTail {w : Wd} (hw : WOK w) (hN : wn w = NT) {σ : Mem} {x0 : Int32} {x1 : Int32} {x2 : Int32} {x3 : Int32} : JO w mu_X11_putsTail vV σ [(0, .ref (adr w 306)), (1, .int x0), (2, .int x1), (3, .int x2), (4, .int x3)] [] 0 (f_X11_putsTail σ x0 x1 x2 x3) (fun z => some ((), z)) := by
  unfold f_X11_putsTail
  refine jo_aload_n (pc := 0) 0 rfl dX11_putsTail_0 rfl ?_
  refine jo_getrE (pc := 1) ok_11_1 (ik_306 hw hN) rf_306_1 gw_1294 dX11_putsTail_1 ?_
  refine jo_bipush (pc := 4) dX11_putsTail_4 (ic_b_7) ?_
  refine jo_bipush (pc := 6) dX11_putsTail_6 (ic_b_36) ?_
  refine jo_iload_n (pc := 8) 1 rfl dX11_putsTail_8 rfl ?_
  refine jo_imul (pc := 9) dX11_putsTail_9 ?_
  refine jo_iadd (pc := 10) dX11_putsTail_10 ?_
  refine jo_bipush (pc := 11) dX11_putsTail_11 (ic_b_6) ?_
  refine jo_iload_n (pc := 13) 2 rfl dX11_putsTail_13 rfl ?_
  refine jo_imul (pc := 14) dX11_putsTail_14 ?_
  refine jo_iadd (pc := 15) dX11_putsTail_15 ?_
  refine jo_iload_n (pc := 16) 3 rfl dX11_putsTail_16 rfl ?_
  refine jo_iadd (pc := 17) dX11_putsTail_17 ?_
  refine jo_iload (pc := 18) 4 rfl dX11_putsTail_18 ?_
  refine jo_iast (pc := 20) (ik_307 hw hN) dX11_putsTail_20 (fun σ1 => ?_)
  refine jo_aload_n (pc := 21) 0 rfl dX11_putsTail_21 rfl ?_
  refine jo_iconst (pc := 22) dX11_putsTail_22 (ic_i_0) ?_
  refine jo_putz01 (pc := 23) (by decide) ok_11_9 okp_11_9 (ik_306 hw hN) gw_1302 dX11_putsTail_23 (fun σ2 => ?_)
  exact jo_return (pc := 26) rfl rfl dX11_putsTail_26
theorem c_X11_putsTail {w : Wd} (hw : WOK w) (hN : wn w = NT) {σ : Mem} {x0 : Int32} {x1 : Int32} {x2 : Int32} {x3 : Int32} : ∀ σ', f_X11_putsTail σ x0 x1 x2 x3 = some σ' → MC w mu_X11_putsTail none [.ref (adr w 306), .int x0, .int x1, .int x2, .int x3] σ σ' := mc_ofV ok_X11_putsTail rfl (Nat.le_of_ble_eq_true rfl) (t_X11_putsTail hw hN)
abbrev mu_X11_plain : MD := (yX11_plain, cX11_plain, 1, none, 1)
theorem ok_X11_plain : MOK mu_X11_plain 0 := ⟨gw_1284, gw_171, (by decide +kernel : plainFor yX11_plain = true), ⟨(by decide +kernel : yX11_plain.cls ≠ "java/lang/invoke/MethodHandle"), (by decide +kernel : yX11_plain.cls ≠ "java/lang/invoke/VarHandle"), (by decide +kernel : (parseMethodDescriptor yX11_plain.desc).map (fun d => d.parameters.length) = some 0)⟩, Nat.le_of_ble_eq_true rfl⟩
noncomputable def f_X11_plain (σ : Mem) : Option Mem :=
  (f_X11_clears σ 3).bind (fun (σ1 : Mem) => pI σ1 307 1 1 (fun (σ2 : Mem) => pI σ2 307 2 1 (fun (σ3 : Mem) => pI σ3 307 3 2 (fun (σ4 : Mem) => (f_X11_putsTail σ4 1 0 2 1).bind (fun (σ5 : Mem) => some σ5)))))
theorem t_X11_plain {w : Wd} (hw : WOK w) (hN : wn w = NT) {σ : Mem} : JO w mu_X11_plain vV σ [(0, .ref (adr w 306))] [] 0 (f_X11_plain σ) (fun z => some ((), z)) := by
  unfold f_X11_plain
  refine jo_aload_n (pc := 0) 0 rfl dX11_plain_0 rfl ?_
  refine jo_iconst (pc := 1) dX11_plain_1 (ic_i_3) ?_
  refine jo_cV_V_i (pc := 2) (μ' := mu_X11_clears) (fx := f_X11_clears σ 3) (As := [.int 3]) (c_X11_clears hw hN) (ok_X11_clears) (ltb rfl) (all3 gw_1285 gw_1287 gw_62) (ik_306 hw hN) (by decide) (q := (RX11, TX11, 39)) rfl rfl rfl rfl (Nat.le_of_ble_eq_true rfl) dX11_plain_2 (fun σ1 => ?_)
  refine jo_aload_n (pc := 5) 0 rfl dX11_plain_5 rfl ?_
  refine jo_getrE (pc := 6) ok_11_1 (ik_306 hw hN) rf_306_1 gw_1294 dX11_plain_6 ?_
  refine jo_iconst (pc := 9) dX11_plain_9 (ic_i_1) ?_
  refine jo_iconst (pc := 10) dX11_plain_10 (ic_i_1) ?_
  refine jo_iast (pc := 11) (ik_307 hw hN) dX11_plain_11 (fun σ2 => ?_)
  refine jo_aload_n (pc := 12) 0 rfl dX11_plain_12 rfl ?_
  refine jo_getrE (pc := 13) ok_11_1 (ik_306 hw hN) rf_306_1 gw_1294 dX11_plain_13 ?_
  refine jo_iconst (pc := 16) dX11_plain_16 (ic_i_2) ?_
  refine jo_iconst (pc := 17) dX11_plain_17 (ic_i_1) ?_
  refine jo_iast (pc := 18) (ik_307 hw hN) dX11_plain_18 (fun σ3 => ?_)
  refine jo_aload_n (pc := 19) 0 rfl dX11_plain_19 rfl ?_
  refine jo_getrE (pc := 20) ok_11_1 (ik_306 hw hN) rf_306_1 gw_1294 dX11_plain_20 ?_
  refine jo_iconst (pc := 23) dX11_plain_23 (ic_i_3) ?_
  refine jo_iconst (pc := 24) dX11_plain_24 (ic_i_2) ?_
  refine jo_iast (pc := 25) (ik_307 hw hN) dX11_plain_25 (fun σ4 => ?_)
  refine jo_aload_n (pc := 26) 0 rfl dX11_plain_26 rfl ?_
  refine jo_iconst (pc := 27) dX11_plain_27 (ic_i_1) ?_
  refine jo_iconst (pc := 28) dX11_plain_28 (ic_i_0) ?_
  refine jo_iconst (pc := 29) dX11_plain_29 (ic_i_2) ?_
  refine jo_iconst (pc := 30) dX11_plain_30 (ic_i_1) ?_
  refine jo_cV_V_i (pc := 31) (μ' := mu_X11_putsTail) (fx := f_X11_putsTail σ4 1 0 2 1) (As := [.int 1, .int 0, .int 2, .int 1]) (c_X11_putsTail hw hN) (ok_X11_putsTail) (ltb rfl) (all3 gw_1289 gw_1291 gw_63) (ik_306 hw hN) (by decide) (q := (RX11, TX11, 39)) rfl rfl rfl rfl (Nat.le_of_ble_eq_true rfl) dX11_plain_31 (fun σ5 => ?_)
  exact jo_return (pc := 34) rfl rfl dX11_plain_34
theorem c_X11_plain {w : Wd} (hw : WOK w) (hN : wn w = NT) {σ : Mem} : ∀ σ', f_X11_plain σ = some σ' → MC w mu_X11_plain none [.ref (adr w 306)] σ σ' := mc_ofV ok_X11_plain rfl (Nat.le_of_ble_eq_true rfl) (t_X11_plain hw hN)
abbrev mu_X11_n : MD := (yX11_n, cX11_n, 1, some .int, 0)
theorem ok_X11_n : MOK mu_X11_n 0 := ⟨gw_1444, gw_171, (by decide +kernel : plainFor yX11_n = true), ⟨(by decide +kernel : yX11_n.cls ≠ "java/lang/invoke/MethodHandle"), (by decide +kernel : yX11_n.cls ≠ "java/lang/invoke/VarHandle"), (by decide +kernel : (parseMethodDescriptor yX11_n.desc).map (fun d => d.parameters.length) = some 0)⟩, Nat.le_of_ble_eq_true rfl⟩
noncomputable def f_X11_n (σ : Mem) : Option Int32 :=
  gI σ 307 0 (fun (v1 : Int32) => some v1)
theorem t_X11_n {w : Wd} (hw : WOK w) (hN : wn w = NT) {σ : Mem} : JO w mu_X11_n vI σ [(0, .ref (adr w 306))] [] 0 (f_X11_n σ) (fun z => some (z, σ)) := by
  unfold f_X11_n
  refine jo_aload_n (pc := 0) 0 rfl dX11_n_0 rfl ?_
  refine jo_getrE (pc := 1) ok_11_1 (ik_306 hw hN) rf_306_1 gw_1294 dX11_n_1 ?_
  refine jo_iconst (pc := 4) dX11_n_4 (ic_i_0) ?_
  refine jo_iald (pc := 5) (ik_307 hw hN) dX11_n_5 (fun v1 => ?_)
  exact jo_ireturn (pc := 6) rfl rfl dX11_n_6
theorem c_X11_n {w : Wd} (hw : WOK w) (hN : wn w = NT) {σ : Mem} : ∀ r, f_X11_n σ = some r → MC w mu_X11_n (vI r) [.ref (adr w 306)] σ σ := mc_ofP ok_X11_n rfl (Nat.le_of_ble_eq_true rfl) (t_X11_n hw hN)
abbrev mu_X11_weight : MD := (yX11_weight, cX11_weight, 2, some .int, 0)
theorem ok_X11_weight : MOK mu_X11_weight 1 := ⟨gw_1449, gw_171, (by decide +kernel : plainFor yX11_weight = true), ⟨(by decide +kernel : yX11_weight.cls ≠ "java/lang/invoke/MethodHandle"), (by decide +kernel : yX11_weight.cls ≠ "java/lang/invoke/VarHandle"), (by decide +kernel : (parseMethodDescriptor yX11_weight.desc).map (fun d => d.parameters.length) = some 1)⟩, Nat.le_of_ble_eq_true rfl⟩
noncomputable def f_X11_weight (σ : Mem) (x0 : Int32) : Option Int32 :=
  gI σ 307 (1 + x0) (fun (v1 : Int32) => some v1)
theorem t_X11_weight {w : Wd} (hw : WOK w) (hN : wn w = NT) {σ : Mem} {x0 : Int32} : JO w mu_X11_weight vI σ [(0, .ref (adr w 306)), (1, .int x0)] [] 0 (f_X11_weight σ x0) (fun z => some (z, σ)) := by
  unfold f_X11_weight
  refine jo_aload_n (pc := 0) 0 rfl dX11_weight_0 rfl ?_
  refine jo_getrE (pc := 1) ok_11_1 (ik_306 hw hN) rf_306_1 gw_1294 dX11_weight_1 ?_
  refine jo_iconst (pc := 4) dX11_weight_4 (ic_i_1) ?_
  refine jo_iload_n (pc := 5) 1 rfl dX11_weight_5 rfl ?_
  refine jo_iadd (pc := 6) dX11_weight_6 ?_
  refine jo_iald (pc := 7) (ik_307 hw hN) dX11_weight_7 (fun v1 => ?_)
  exact jo_ireturn (pc := 8) rfl rfl dX11_weight_8
theorem c_X11_weight {w : Wd} (hw : WOK w) (hN : wn w = NT) {σ : Mem} {x0 : Int32} : ∀ r, f_X11_weight σ x0 = some r → MC w mu_X11_weight (vI r) [.ref (adr w 306), .int x0] σ σ := mc_ofP ok_X11_weight rfl (Nat.le_of_ble_eq_true rfl) (t_X11_weight hw hN)
abbrev mu_X11_level : MD := (yX11_level, cX11_level, 1, some .int, 1)
theorem ok_X11_level : MOK mu_X11_level 0 := ⟨gw_1640, gw_171, (by decide +kernel : plainFor yX11_level = true), ⟨(by decide +kernel : yX11_level.cls ≠ "java/lang/invoke/MethodHandle"), (by decide +kernel : yX11_level.cls ≠ "java/lang/invoke/VarHandle"), (by decide +kernel : (parseMethodDescriptor yX11_level.desc).map (fun d => d.parameters.length) = some 0)⟩, Nat.le_of_ble_eq_true rfl⟩
noncomputable def f_X11_level (σ : Mem) : Option Int32 :=
  (f_X11_n σ).bind (fun (v1 : Int32) => (f_X11_weight σ (v1 - 1)).bind (fun (v2 : Int32) => some v2))
theorem t_X11_level {w : Wd} (hw : WOK w) (hN : wn w = NT) {σ : Mem} : JO w mu_X11_level vI σ [(0, .ref (adr w 306))] [] 0 (f_X11_level σ) (fun z => some (z, σ)) := by
  unfold f_X11_level
  refine jo_aload_n (pc := 0) 0 rfl dX11_level_0 rfl ?_
  refine jo_aload_n (pc := 1) 0 rfl dX11_level_1 rfl ?_
  refine jo_cV_I_p (pc := 2) (μ' := mu_X11_n) (fx := f_X11_n σ) (As := []) (c_X11_n hw hN) (ok_X11_n) (ltb rfl) (all3 gw_1441 gw_1443 gw_68) (ik_306 hw hN) (by decide) (q := (RX11, TX11, 39)) rfl rfl rfl rfl (Nat.le_of_ble_eq_true rfl) dX11_level_2 (fun v1 => ?_)
  refine jo_iconst (pc := 5) dX11_level_5 (ic_i_1) ?_
  refine jo_isub (pc := 6) dX11_level_6 ?_
  refine jo_cV_I_p (pc := 7) (μ' := mu_X11_weight) (fx := f_X11_weight σ (v1 - 1)) (As := [.int (v1 - 1)]) (c_X11_weight hw hN) (ok_X11_weight) (ltb rfl) (all3 gw_1446 gw_1448 gw_69) (ik_306 hw hN) (by decide) (q := (RX11, TX11, 39)) rfl rfl rfl rfl (Nat.le_of_ble_eq_true rfl) dX11_level_7 (fun v2 => ?_)
  exact jo_ireturn (pc := 10) rfl rfl dX11_level_10
theorem c_X11_level {w : Wd} (hw : WOK w) (hN : wn w = NT) {σ : Mem} : ∀ r, f_X11_level σ = some r → MC w mu_X11_level (vI r) [.ref (adr w 306)] σ σ := mc_ofP ok_X11_level rfl (Nat.le_of_ble_eq_true rfl) (t_X11_level hw hN)
abbrev mu_X11_tail : MD := (yX11_tail, cX11_tail, 4, some .int, 0)
theorem ok_X11_tail : MOK mu_X11_tail 3 := ⟨gw_1498, gw_171, (by decide +kernel : plainFor yX11_tail = true), ⟨(by decide +kernel : yX11_tail.cls ≠ "java/lang/invoke/MethodHandle"), (by decide +kernel : yX11_tail.cls ≠ "java/lang/invoke/VarHandle"), (by decide +kernel : (parseMethodDescriptor yX11_tail.desc).map (fun d => d.parameters.length) = some 3)⟩, Nat.le_of_ble_eq_true rfl⟩
noncomputable def f_X11_tail (σ : Mem) (x0 : Int32) (x1 : Int32) (x2 : Int32) : Option Int32 :=
  gI σ 307 (((7 + (36 * x0)) + (6 * x1)) + x2) (fun (v1 : Int32) => some v1)
theorem t_X11_tail {w : Wd} (hw : WOK w) (hN : wn w = NT) {σ : Mem} {x0 : Int32} {x1 : Int32} {x2 : Int32} : JO w mu_X11_tail vI σ [(0, .ref (adr w 306)), (1, .int x0), (2, .int x1), (3, .int x2)] [] 0 (f_X11_tail σ x0 x1 x2) (fun z => some (z, σ)) := by
  unfold f_X11_tail
  refine jo_aload_n (pc := 0) 0 rfl dX11_tail_0 rfl ?_
  refine jo_getrE (pc := 1) ok_11_1 (ik_306 hw hN) rf_306_1 gw_1294 dX11_tail_1 ?_
  refine jo_bipush (pc := 4) dX11_tail_4 (ic_b_7) ?_
  refine jo_bipush (pc := 6) dX11_tail_6 (ic_b_36) ?_
  refine jo_iload_n (pc := 8) 1 rfl dX11_tail_8 rfl ?_
  refine jo_imul (pc := 9) dX11_tail_9 ?_
  refine jo_iadd (pc := 10) dX11_tail_10 ?_
  refine jo_bipush (pc := 11) dX11_tail_11 (ic_b_6) ?_
  refine jo_iload_n (pc := 13) 2 rfl dX11_tail_13 rfl ?_
  refine jo_imul (pc := 14) dX11_tail_14 ?_
  refine jo_iadd (pc := 15) dX11_tail_15 ?_
  refine jo_iload_n (pc := 16) 3 rfl dX11_tail_16 rfl ?_
  refine jo_iadd (pc := 17) dX11_tail_17 ?_
  refine jo_iald (pc := 18) (ik_307 hw hN) dX11_tail_18 (fun v1 => ?_)
  exact jo_ireturn (pc := 19) rfl rfl dX11_tail_19
theorem c_X11_tail {w : Wd} (hw : WOK w) (hN : wn w = NT) {σ : Mem} {x0 : Int32} {x1 : Int32} {x2 : Int32} : ∀ r, f_X11_tail σ x0 x1 x2 = some r → MC w mu_X11_tail (vI r) [.ref (adr w 306), .int x0, .int x1, .int x2] σ σ := mc_ofP ok_X11_tail rfl (Nat.le_of_ble_eq_true rfl) (t_X11_tail hw hN)
abbrev mu_X11_ofRow : MD := (yX11_ofRow, cX11_ofRow, 3, some .int, 0)
theorem ok_X11_ofRow : MOK mu_X11_ofRow 2 := ⟨gw_1566, gw_171, (by decide +kernel : plainFor yX11_ofRow = true), ⟨(by decide +kernel : yX11_ofRow.cls ≠ "java/lang/invoke/MethodHandle"), (by decide +kernel : yX11_ofRow.cls ≠ "java/lang/invoke/VarHandle"), (by decide +kernel : (parseMethodDescriptor yX11_ofRow.desc).map (fun d => d.parameters.length) = some 2)⟩, Nat.le_of_ble_eq_true rfl⟩
noncomputable def f_X11_ofRow (σ : Mem) (x0 : Int32) (x1 : Int32) : Option Int32 :=
  gI σ 307 ((223 + (6 * x0)) + x1) (fun (v1 : Int32) => some v1)
theorem t_X11_ofRow {w : Wd} (hw : WOK w) (hN : wn w = NT) {σ : Mem} {x0 : Int32} {x1 : Int32} : JO w mu_X11_ofRow vI σ [(0, .ref (adr w 306)), (1, .int x0), (2, .int x1)] [] 0 (f_X11_ofRow σ x0 x1) (fun z => some (z, σ)) := by
  unfold f_X11_ofRow
  refine jo_aload_n (pc := 0) 0 rfl dX11_ofRow_0 rfl ?_
  refine jo_getrE (pc := 1) ok_11_1 (ik_306 hw hN) rf_306_1 gw_1294 dX11_ofRow_1 ?_
  refine jo_sipush (pc := 4) dX11_ofRow_4 (ic_s_223) ?_
  refine jo_bipush (pc := 7) dX11_ofRow_7 (ic_b_6) ?_
  refine jo_iload_n (pc := 9) 1 rfl dX11_ofRow_9 rfl ?_
  refine jo_imul (pc := 10) dX11_ofRow_10 ?_
  refine jo_iadd (pc := 11) dX11_ofRow_11 ?_
  refine jo_iload_n (pc := 12) 2 rfl dX11_ofRow_12 rfl ?_
  refine jo_iadd (pc := 13) dX11_ofRow_13 ?_
  refine jo_iald (pc := 14) (ik_307 hw hN) dX11_ofRow_14 (fun v1 => ?_)
  exact jo_ireturn (pc := 15) rfl rfl dX11_ofRow_15
theorem c_X11_ofRow {w : Wd} (hw : WOK w) (hN : wn w = NT) {σ : Mem} {x0 : Int32} {x1 : Int32} : ∀ r, f_X11_ofRow σ x0 x1 = some r → MC w mu_X11_ofRow (vI r) [.ref (adr w 306), .int x0, .int x1] σ σ := mc_ofP ok_X11_ofRow rfl (Nat.le_of_ble_eq_true rfl) (t_X11_ofRow hw hN)
abbrev mu_X11_keepsAct : MD := (yX11_keepsAct, cX11_keepsAct, 2, none, 0)
theorem ok_X11_keepsAct : MOK mu_X11_keepsAct 0 := ⟨gw_1432, gw_171, (by decide +kernel : plainFor yX11_keepsAct = true), ⟨(by decide +kernel : yX11_keepsAct.cls ≠ "java/lang/invoke/MethodHandle"), (by decide +kernel : yX11_keepsAct.cls ≠ "java/lang/invoke/VarHandle"), (by decide +kernel : (parseMethodDescriptor yX11_keepsAct.desc).map (fun d => d.parameters.length) = some 0)⟩, Nat.le_of_ble_eq_true rfl⟩
noncomputable def j_X11_keepsAct_82 (σ3 : Mem) : Option Mem :=
  gF σ3 306 3 (fun (v4 : Int32) => pF σ3 306 3 (v4 + 1) (fun (σ5 : Mem) => some σ5))
noncomputable def l_X11_keepsAct_48 (σ6 : Mem) (i7 : Int32) : Option ((Mem × Int32) ⊕ Mem) :=
  if 283 ≤ i7 then (some (Sum.inr σ6)) else (gF σ6 306 3 (fun (v8 : Int32) => gI σ6 307 i7 (fun (v9 : Int32) => pI σ6 308 ((v8 * 283) + i7) v9 (fun (σ10 : Mem) => some (Sum.inl (σ10, i7 + 1))))))
noncomputable def j_X11_keepsAct_46 (σ2 : Mem) : Option Mem :=
  (loopO (fun (z7 : (Mem × Int32)) => l_X11_keepsAct_48 z7.1 z7.2) (σ2, 0) : Option Mem).bind (fun (z3 : Mem) => j_X11_keepsAct_82 z3)
noncomputable def j_X11_keepsAct_40 (σ11 : Mem) : Option Mem :=
  pF σ11 306 3 7 (fun (σ12 : Mem) => some σ12)
noncomputable def l_X11_keepsAct_11 (σ13 : Mem) (i14 : Int32) : Option ((Mem × Int32) ⊕ Mem) :=
  if 1981 ≤ i14 then (some (Sum.inr σ13)) else (gI σ13 308 (i14 + 283) (fun (v15 : Int32) => pI σ13 308 i14 v15 (fun (σ16 : Mem) => some (Sum.inl (σ16, i14 + 1)))))
noncomputable def f_X11_keepsAct (σ : Mem) : Option Mem :=
  gF σ 306 3 (fun (v1 : Int32) => (if v1 = 8 then ((loopO (fun (z14 : (Mem × Int32)) => l_X11_keepsAct_11 z14.1 z14.2) (σ, 0) : Option Mem).bind (fun (z11 : Mem) => j_X11_keepsAct_40 z11)) else (some σ) : Option Mem).bind (fun (z2 : Mem) => j_X11_keepsAct_46 z2))
theorem t_X11_keepsAct {w : Wd} (hw : WOK w) (hN : wn w = NT) {σ : Mem} : JO w mu_X11_keepsAct vV σ [(0, .ref (adr w 306))] [] 0 (f_X11_keepsAct σ) (fun z => some ((), z)) := by
  unfold f_X11_keepsAct
  refine jo_aload_n (pc := 0) 0 rfl dX11_keepsAct_0 rfl ?_
  refine jo_getf (pc := 1) ok_11_3 (ik_306 hw hN) gw_1296 dX11_keepsAct_1 (fun v1 => ?_)
  refine jo_bipush (pc := 4) dX11_keepsAct_4 (ic_b_8) ?_
  refine jo_join1 (S := Mem) (fun (z2 : Mem) => z2) (fun (z2 : Mem) => [(0, .ref (adr w 306))]) (fun (z2 : Mem) => []) 46 ?_ (fun h46_2 => ?_)
  · intro σ2
    show JO w mu_X11_keepsAct vV σ2 [(0, .ref (adr w 306))] [] 46 (j_X11_keepsAct_46 σ2) _
    unfold j_X11_keepsAct_46
    refine jo_iconst (pc := 46) dX11_keepsAct_46 (ic_i_0) ?_
    refine jo_istore_n (pc := 47) (lv' := [(1, .int 0), (0, .ref (adr w 306))]) dX11_keepsAct_47 rfl (ltb rfl) rfl ?_
    refine jo_join1 (S := Mem) (fun (z3 : Mem) => z3) (fun (z3 : Mem) => [(0, .ref (adr w 306))]) (fun (z3 : Mem) => []) 82 ?_ (fun h82_3 => ?_)
    · intro σ3
      show JO w mu_X11_keepsAct vV σ3 [(0, .ref (adr w 306))] [] 82 (j_X11_keepsAct_82 σ3) _
      unfold j_X11_keepsAct_82
      refine jo_aload_n (pc := 82) 0 rfl dX11_keepsAct_82 rfl ?_
      refine jo_aload_n (pc := 83) 0 rfl dX11_keepsAct_83 rfl ?_
      refine jo_getf (pc := 84) ok_11_3 (ik_306 hw hN) gw_1296 dX11_keepsAct_84 (fun v4 => ?_)
      refine jo_iconst (pc := 87) dX11_keepsAct_87 (ic_i_1) ?_
      refine jo_iadd (pc := 88) dX11_keepsAct_88 ?_
      refine jo_putf (pc := 89) ok_11_3 okp_11_3 (ik_306 hw hN) gw_1296 dX11_keepsAct_89 (fun σ5 => ?_)
      exact jo_return (pc := 92) rfl rfl dX11_keepsAct_92
    · refine jo_lv (lv' := [(0, .ref (adr w 306)), (1, .int 0)]) [1, 0] rfl ?_
      refine jo_loop (X := Mem) (fun (z7 : (Mem × Int32)) => z7.1) (fun (z7 : (Mem × Int32)) => [(0, .ref (adr w 306)), (1, .int z7.2)]) (body := (fun (z7 : (Mem × Int32)) => l_X11_keepsAct_48 z7.1 z7.2)) (fun F48_7 hF48_7 s => ?_) (σ2, 0)
      obtain ⟨σ6, i7⟩ := s
      show JO w mu_X11_keepsAct vV σ6 [(0, .ref (adr w 306)), (1, .int i7)] [] 48 (l_X11_keepsAct_48 σ6 i7) _
      unfold l_X11_keepsAct_48
      refine jo_iload_n (pc := 48) 1 rfl dX11_keepsAct_48 rfl ?_
      refine jo_sipush (pc := 49) dX11_keepsAct_49 (ic_s_283) ?_
      refine jo_icmp_ge (pc := 52) dX11_keepsAct_52 (tgt := 82) rfl ?_ ?_
      · refine jo_lv (lv' := [(0, .ref (adr w 306))]) [0] rfl ?_
        exact jo_leaf (by rfl) (h82_3 σ6)
      · refine jo_aload_n (pc := 55) 0 rfl dX11_keepsAct_55 rfl ?_
        refine jo_getrE (pc := 56) ok_11_2 (ik_306 hw hN) rf_306_2 gw_1295 dX11_keepsAct_56 ?_
        refine jo_aload_n (pc := 59) 0 rfl dX11_keepsAct_59 rfl ?_
        refine jo_getf (pc := 60) ok_11_3 (ik_306 hw hN) gw_1296 dX11_keepsAct_60 (fun v8 => ?_)
        refine jo_sipush (pc := 63) dX11_keepsAct_63 (ic_s_283) ?_
        refine jo_imul (pc := 66) dX11_keepsAct_66 ?_
        refine jo_iload_n (pc := 67) 1 rfl dX11_keepsAct_67 rfl ?_
        refine jo_iadd (pc := 68) dX11_keepsAct_68 ?_
        refine jo_aload_n (pc := 69) 0 rfl dX11_keepsAct_69 rfl ?_
        refine jo_getrE (pc := 70) ok_11_1 (ik_306 hw hN) rf_306_1 gw_1294 dX11_keepsAct_70 ?_
        refine jo_iload_n (pc := 73) 1 rfl dX11_keepsAct_73 rfl ?_
        refine jo_iald (pc := 74) (ik_307 hw hN) dX11_keepsAct_74 (fun v9 => ?_)
        refine jo_iast (pc := 75) (ik_308 hw hN) dX11_keepsAct_75 (fun σ10 => ?_)
        refine jo_iinc (pc := 76) (lv' := [(1, .int (i7 + 1)), (0, .ref (adr w 306))]) 1 rfl dX11_keepsAct_76 (congrArg (fun z => i7 + z) (ic_i_1)) (ltb rfl) rfl ?_
        refine jo_goto (pc := 79) dX11_keepsAct_79 (tgt := 48) rfl ?_
        refine jo_lv (lv' := [(0, .ref (adr w 306)), (1, .int (i7 + 1))]) [1, 0] rfl ?_
        exact jo_leaf (by rfl) (hF48_7 (σ10, i7 + 1))
  · refine jo_icmp_ne (pc := 6) dX11_keepsAct_6 (tgt := 46) rfl ?_ ?_
    · exact jo_leaf (by rfl) (h46_2 σ)
    · refine jo_iconst (pc := 9) dX11_keepsAct_9 (ic_i_0) ?_
      refine jo_istore_n (pc := 10) (lv' := [(1, .int 0), (0, .ref (adr w 306))]) dX11_keepsAct_10 rfl (ltb rfl) rfl ?_
      refine jo_join1 (S := Mem) (fun (z11 : Mem) => z11) (fun (z11 : Mem) => [(0, .ref (adr w 306))]) (fun (z11 : Mem) => []) 40 ?_ (fun h40_11 => ?_)
      · intro σ11
        show JO w mu_X11_keepsAct vV σ11 [(0, .ref (adr w 306))] [] 40 (j_X11_keepsAct_40 σ11) _
        unfold j_X11_keepsAct_40
        refine jo_aload_n (pc := 40) 0 rfl dX11_keepsAct_40 rfl ?_
        refine jo_bipush (pc := 41) dX11_keepsAct_41 (ic_b_7) ?_
        refine jo_putf (pc := 43) ok_11_3 okp_11_3 (ik_306 hw hN) gw_1296 dX11_keepsAct_43 (fun σ12 => ?_)
        exact jo_leaf (by rfl) (h46_2 σ12)
      · refine jo_lv (lv' := [(0, .ref (adr w 306)), (1, .int 0)]) [1, 0] rfl ?_
        refine jo_loop (X := Mem) (fun (z14 : (Mem × Int32)) => z14.1) (fun (z14 : (Mem × Int32)) => [(0, .ref (adr w 306)), (1, .int z14.2)]) (body := (fun (z14 : (Mem × Int32)) => l_X11_keepsAct_11 z14.1 z14.2)) (fun F11_14 hF11_14 s => ?_) (σ, 0)
        obtain ⟨σ13, i14⟩ := s
        show JO w mu_X11_keepsAct vV σ13 [(0, .ref (adr w 306)), (1, .int i14)] [] 11 (l_X11_keepsAct_11 σ13 i14) _
        unfold l_X11_keepsAct_11
        refine jo_iload_n (pc := 11) 1 rfl dX11_keepsAct_11 rfl ?_
        refine jo_sipush (pc := 12) dX11_keepsAct_12 (ic_s_1981) ?_
        refine jo_icmp_ge (pc := 15) dX11_keepsAct_15 (tgt := 40) rfl ?_ ?_
        · refine jo_lv (lv' := [(0, .ref (adr w 306))]) [0] rfl ?_
          exact jo_leaf (by rfl) (h40_11 σ13)
        · refine jo_aload_n (pc := 18) 0 rfl dX11_keepsAct_18 rfl ?_
          refine jo_getrE (pc := 19) ok_11_2 (ik_306 hw hN) rf_306_2 gw_1295 dX11_keepsAct_19 ?_
          refine jo_iload_n (pc := 22) 1 rfl dX11_keepsAct_22 rfl ?_
          refine jo_aload_n (pc := 23) 0 rfl dX11_keepsAct_23 rfl ?_
          refine jo_getrE (pc := 24) ok_11_2 (ik_306 hw hN) rf_306_2 gw_1295 dX11_keepsAct_24 ?_
          refine jo_iload_n (pc := 27) 1 rfl dX11_keepsAct_27 rfl ?_
          refine jo_sipush (pc := 28) dX11_keepsAct_28 (ic_s_283) ?_
          refine jo_iadd (pc := 31) dX11_keepsAct_31 ?_
          refine jo_iald (pc := 32) (ik_308 hw hN) dX11_keepsAct_32 (fun v15 => ?_)
          refine jo_iast (pc := 33) (ik_308 hw hN) dX11_keepsAct_33 (fun σ16 => ?_)
          refine jo_iinc (pc := 34) (lv' := [(1, .int (i14 + 1)), (0, .ref (adr w 306))]) 1 rfl dX11_keepsAct_34 (congrArg (fun z => i14 + z) (ic_i_1)) (ltb rfl) rfl ?_
          refine jo_goto (pc := 37) dX11_keepsAct_37 (tgt := 11) rfl ?_
          refine jo_lv (lv' := [(0, .ref (adr w 306)), (1, .int (i14 + 1))]) [1, 0] rfl ?_
          exact jo_leaf (by rfl) (hF11_14 (σ16, i14 + 1))
theorem c_X11_keepsAct {w : Wd} (hw : WOK w) (hN : wn w = NT) {σ : Mem} : ∀ σ', f_X11_keepsAct σ = some σ' → MC w mu_X11_keepsAct none [.ref (adr w 306)] σ σ' := mc_ofV ok_X11_keepsAct rfl (Nat.le_of_ble_eq_true rfl) (t_X11_keepsAct hw hN)
abbrev mu_X11_undo : MD := (yX11_undo, cX11_undo, 2, some .int, 0)
theorem ok_X11_undo : MOK mu_X11_undo 0 := ⟨gw_1414, gw_171, (by decide +kernel : plainFor yX11_undo = true), ⟨(by decide +kernel : yX11_undo.cls ≠ "java/lang/invoke/MethodHandle"), (by decide +kernel : yX11_undo.cls ≠ "java/lang/invoke/VarHandle"), (by decide +kernel : (parseMethodDescriptor yX11_undo.desc).map (fun d => d.parameters.length) = some 0)⟩, Nat.le_of_ble_eq_true rfl⟩
noncomputable def j_X11_undo_60 (σ5 : Mem) : Option (Int32 × Mem) :=
  pF σ5 306 9 0 (fun (σ6 : Mem) => gF σ6 306 3 (fun (v7 : Int32) => some (v7, σ6)))
noncomputable def l_X11_undo_26 (σ8 : Mem) (i9 : Int32) : Option ((Mem × Int32) ⊕ Mem) :=
  if 283 ≤ i9 then (some (Sum.inr σ8)) else (gF σ8 306 3 (fun (v10 : Int32) => gI σ8 308 ((v10 * 283) + i9) (fun (v11 : Int32) => pI σ8 307 i9 v11 (fun (σ12 : Mem) => some (Sum.inl (σ12, i9 + 1))))))
noncomputable def f_X11_undo (σ : Mem) : Option (Int32 × Mem) :=
  pF σ 306 0 0 (fun (σ1 : Mem) => gF σ1 306 3 (fun (v2 : Int32) => if v2 = 0 then (some ((-1), σ1)) else (gF σ1 306 3 (fun (v3 : Int32) => pF σ1 306 3 (v3 - 1) (fun (σ4 : Mem) => (loopO (fun (z9 : (Mem × Int32)) => l_X11_undo_26 z9.1 z9.2) (σ4, 0) : Option Mem).bind (fun (z5 : Mem) => j_X11_undo_60 z5))))))
theorem t_X11_undo {w : Wd} (hw : WOK w) (hN : wn w = NT) {σ : Mem} : JO w mu_X11_undo vI σ [(0, .ref (adr w 306))] [] 0 (f_X11_undo σ) some := by
  unfold f_X11_undo
  refine jo_aload_n (pc := 0) 0 rfl dX11_undo_0 rfl ?_
  refine jo_iconst (pc := 1) dX11_undo_1 (ic_i_0) ?_
  refine jo_putf (pc := 2) ok_11_0 okp_11_0 (ik_306 hw hN) gw_1293 dX11_undo_2 (fun σ1 => ?_)
  refine jo_aload_n (pc := 5) 0 rfl dX11_undo_5 rfl ?_
  refine jo_getf (pc := 6) ok_11_3 (ik_306 hw hN) gw_1296 dX11_undo_6 (fun v2 => ?_)
  refine jo_if_ne (pc := 9) dX11_undo_9 (tgt := 14) rfl ?_ ?_
  · refine jo_aload_n (pc := 14) 0 rfl dX11_undo_14 rfl ?_
    refine jo_aload_n (pc := 15) 0 rfl dX11_undo_15 rfl ?_
    refine jo_getf (pc := 16) ok_11_3 (ik_306 hw hN) gw_1296 dX11_undo_16 (fun v3 => ?_)
    refine jo_iconst (pc := 19) dX11_undo_19 (ic_i_1) ?_
    refine jo_isub (pc := 20) dX11_undo_20 ?_
    refine jo_putf (pc := 21) ok_11_3 okp_11_3 (ik_306 hw hN) gw_1296 dX11_undo_21 (fun σ4 => ?_)
    refine jo_iconst (pc := 24) dX11_undo_24 (ic_i_0) ?_
    refine jo_istore_n (pc := 25) (lv' := [(1, .int 0), (0, .ref (adr w 306))]) dX11_undo_25 rfl (ltb rfl) rfl ?_
    refine jo_join1 (S := Mem) (fun (z5 : Mem) => z5) (fun (z5 : Mem) => [(0, .ref (adr w 306))]) (fun (z5 : Mem) => []) 60 ?_ (fun h60_5 => ?_)
    · intro σ5
      show JO w mu_X11_undo vI σ5 [(0, .ref (adr w 306))] [] 60 (j_X11_undo_60 σ5) _
      unfold j_X11_undo_60
      refine jo_aload_n (pc := 60) 0 rfl dX11_undo_60 rfl ?_
      refine jo_iconst (pc := 61) dX11_undo_61 (ic_i_0) ?_
      refine jo_putz01 (pc := 62) (by decide) ok_11_9 okp_11_9 (ik_306 hw hN) gw_1302 dX11_undo_62 (fun σ6 => ?_)
      refine jo_aload_n (pc := 65) 0 rfl dX11_undo_65 rfl ?_
      refine jo_getf (pc := 66) ok_11_3 (ik_306 hw hN) gw_1296 dX11_undo_66 (fun v7 => ?_)
      exact jo_ireturn (pc := 69) rfl rfl dX11_undo_69
    · refine jo_lv (lv' := [(0, .ref (adr w 306)), (1, .int 0)]) [1, 0] rfl ?_
      refine jo_loop (X := Mem) (fun (z9 : (Mem × Int32)) => z9.1) (fun (z9 : (Mem × Int32)) => [(0, .ref (adr w 306)), (1, .int z9.2)]) (body := (fun (z9 : (Mem × Int32)) => l_X11_undo_26 z9.1 z9.2)) (fun F26_9 hF26_9 s => ?_) (σ4, 0)
      obtain ⟨σ8, i9⟩ := s
      show JO w mu_X11_undo vI σ8 [(0, .ref (adr w 306)), (1, .int i9)] [] 26 (l_X11_undo_26 σ8 i9) _
      unfold l_X11_undo_26
      refine jo_iload_n (pc := 26) 1 rfl dX11_undo_26 rfl ?_
      refine jo_sipush (pc := 27) dX11_undo_27 (ic_s_283) ?_
      refine jo_icmp_ge (pc := 30) dX11_undo_30 (tgt := 60) rfl ?_ ?_
      · refine jo_lv (lv' := [(0, .ref (adr w 306))]) [0] rfl ?_
        exact jo_leaf (by rfl) (h60_5 σ8)
      · refine jo_aload_n (pc := 33) 0 rfl dX11_undo_33 rfl ?_
        refine jo_getrE (pc := 34) ok_11_1 (ik_306 hw hN) rf_306_1 gw_1294 dX11_undo_34 ?_
        refine jo_iload_n (pc := 37) 1 rfl dX11_undo_37 rfl ?_
        refine jo_aload_n (pc := 38) 0 rfl dX11_undo_38 rfl ?_
        refine jo_getrE (pc := 39) ok_11_2 (ik_306 hw hN) rf_306_2 gw_1295 dX11_undo_39 ?_
        refine jo_aload_n (pc := 42) 0 rfl dX11_undo_42 rfl ?_
        refine jo_getf (pc := 43) ok_11_3 (ik_306 hw hN) gw_1296 dX11_undo_43 (fun v10 => ?_)
        refine jo_sipush (pc := 46) dX11_undo_46 (ic_s_283) ?_
        refine jo_imul (pc := 49) dX11_undo_49 ?_
        refine jo_iload_n (pc := 50) 1 rfl dX11_undo_50 rfl ?_
        refine jo_iadd (pc := 51) dX11_undo_51 ?_
        refine jo_iald (pc := 52) (ik_308 hw hN) dX11_undo_52 (fun v11 => ?_)
        refine jo_iast (pc := 53) (ik_307 hw hN) dX11_undo_53 (fun σ12 => ?_)
        refine jo_iinc (pc := 54) (lv' := [(1, .int (i9 + 1)), (0, .ref (adr w 306))]) 1 rfl dX11_undo_54 (congrArg (fun z => i9 + z) (ic_i_1)) (ltb rfl) rfl ?_
        refine jo_goto (pc := 57) dX11_undo_57 (tgt := 26) rfl ?_
        refine jo_lv (lv' := [(0, .ref (adr w 306)), (1, .int (i9 + 1))]) [1, 0] rfl ?_
        exact jo_leaf (by rfl) (hF26_9 (σ12, i9 + 1))
  · refine jo_iconst (pc := 12) dX11_undo_12 (ic_i_m1) ?_
    exact jo_ireturn (pc := 13) rfl rfl dX11_undo_13
theorem c_X11_undo {w : Wd} (hw : WOK w) (hN : wn w = NT) {σ : Mem} : ∀ r σ', f_X11_undo σ = some (r, σ') → MC w mu_X11_undo (vI r) [.ref (adr w 306)] σ σ' := mc_of ok_X11_undo rfl (Nat.le_of_ble_eq_true rfl) (t_X11_undo hw hN)
abbrev mu_X11_areWeights : MD := (yX11_areWeights, cX11_areWeights, 6, some .boolean, 1)
theorem ok_X11_areWeights : MOK mu_X11_areWeights 2 := ⟨gw_1427, gw_171, (by decide +kernel : plainFor yX11_areWeights = true), ⟨(by decide +kernel : yX11_areWeights.cls ≠ "java/lang/invoke/MethodHandle"), (by decide +kernel : yX11_areWeights.cls ≠ "java/lang/invoke/VarHandle"), (by decide +kernel : (parseMethodDescriptor yX11_areWeights.desc).map (fun d => d.parameters.length) = some 2)⟩, Nat.le_of_ble_eq_true rfl⟩
noncomputable def j_X11_areWeights_49  : Option Bool :=
  some false
noncomputable def j_X11_areWeights_59 (i3 : Int32) (v4 : Int32) : Option ((Int32 × Int32) ⊕ (Unit ⊕ Bool)) :=
  some (Sum.inl (v4, i3 + 1))
noncomputable def l_X11_areWeights_20 (x0 : Int32) (x1 : Int32) (i2 : Int32) (i3 : Int32) : Option ((Int32 × Int32) ⊕ (Unit ⊕ Bool)) :=
  if 6 ≤ i3 then (some (Sum.inr (Sum.inr true))) else (bd ((x1 >>> ((2 * i3) &&& 31)) &&& 3) (fun (v4 : Int32) => (if x0 ≤ i3 then (if v4 ≤ 0 then (some (Sum.inl ())) else (some (Sum.inr (Sum.inr (Sum.inr false))))) else (if i2 ≤ v4 then (some (Sum.inl ())) else (some (Sum.inr (Sum.inr (Sum.inl ()))))) : Option (Unit ⊕ ((Int32 × Int32) ⊕ (Unit ⊕ Bool)))).bind (Sum.elim (fun (z4 : Unit) => j_X11_areWeights_59 i3 v4) some)))
noncomputable def f_X11_areWeights (σ : Mem) (x0 : Int32) (x1 : Int32) : Option Bool :=
  (f_X11_isIn σ (Int32.toInt64 x1) 0 4095).bind (fun (b1 : Bool) => if b1 then (loopO (fun (z3 : (Int32 × Int32)) => l_X11_areWeights_20 x0 x1 z3.1 z3.2) (1, 0) : Option (Unit ⊕ Bool)).bind (Sum.elim (fun (z1 : Unit) => j_X11_areWeights_49) some) else some false)
theorem t_X11_areWeights {w : Wd} (hw : WOK w) (hN : wn w = NT) {σ : Mem} {x0 : Int32} {x1 : Int32} : JO w mu_X11_areWeights vB σ [(0, .ref (adr w 306)), (1, .int x0), (2, .int x1)] [] 0 (f_X11_areWeights σ x0 x1) (fun z => some (z, σ)) := by
  unfold f_X11_areWeights
  refine jo_aload_n (pc := 0) 0 rfl dX11_areWeights_0 rfl ?_
  refine jo_iload_n (pc := 1) 2 rfl dX11_areWeights_1 rfl ?_
  refine jo_i2l (pc := 2) dX11_areWeights_2 ?_
  refine jo_lconst (pc := 3) dX11_areWeights_3 (ic_l_0) ?_
  refine jo_ldc2 (pc := 4) dX11_areWeights_4 gw_1428 ?_
  refine jo_cV_Z_p (pc := 7) (μ' := mu_X11_isIn) (fx := f_X11_isIn σ (Int32.toInt64 x1) 0 4095) (As := [.long (Int32.toInt64 x1), .long 0, .long 4095]) (c_X11_isIn hw hN) (ok_X11_isIn) (ltb rfl) (all3 gw_1420 gw_1422 gw_64) (ik_306 hw hN) (by decide) (q := (RX11, TX11, 39)) rfl rfl rfl rfl (Nat.le_of_ble_eq_true rfl) dX11_areWeights_7 (fun b1 => ?_)
  refine jo_ifz_ne (pc := 10) dX11_areWeights_10 (tgt := 15) rfl ?_ ?_
  · refine jo_iconst (pc := 15) dX11_areWeights_15 (ic_i_1) ?_
    refine jo_istore_n (pc := 16) (lv' := [(3, .int 1), (0, .ref (adr w 306)), (1, .int x0), (2, .int x1)]) dX11_areWeights_16 rfl (ltb rfl) rfl ?_
    refine jo_iconst (pc := 17) dX11_areWeights_17 (ic_i_0) ?_
    refine jo_istore (pc := 18) (lv' := [(4, .int 0), (3, .int 1), (0, .ref (adr w 306)), (1, .int x0), (2, .int x1)]) dX11_areWeights_18 (ltb rfl) rfl ?_
    refine jo_joinS (S := Unit) (fun (z1 : Unit) => σ) (fun (z1 : Unit) => []) (fun (z1 : Unit) => []) 49 ?_ (fun h49_1 => ?_)
    · intro _
      show JO w mu_X11_areWeights vB σ [] [] 49 (j_X11_areWeights_49) _
      unfold j_X11_areWeights_49
      refine jo_goto (pc := 49) dX11_areWeights_49 (tgt := 57) rfl ?_
      refine jo_iconst (pc := 57) dX11_areWeights_57 (ic_i_0) ?_
      exact jo_breturn (pc := 58) (b := false) rfl rfl dX11_areWeights_58
    · refine jo_lv (lv' := [(1, .int x0), (2, .int x1), (3, .int 1), (4, .int 0)]) [3, 4, 1, 0] rfl ?_
      refine jo_loop (X := Unit ⊕ Bool) (fun (z3 : (Int32 × Int32)) => σ) (fun (z3 : (Int32 × Int32)) => [(1, .int x0), (2, .int x1), (3, .int z3.1), (4, .int z3.2)]) (body := (fun (z3 : (Int32 × Int32)) => l_X11_areWeights_20 x0 x1 z3.1 z3.2)) (fun F20_3 hF20_3 s => ?_) (1, 0)
      obtain ⟨i2, i3⟩ := s
      show JO w mu_X11_areWeights vB σ [(1, .int x0), (2, .int x1), (3, .int i2), (4, .int i3)] [] 20 (l_X11_areWeights_20 x0 x1 i2 i3) _
      unfold l_X11_areWeights_20
      refine jo_iload (pc := 20) 3 rfl dX11_areWeights_20 ?_
      refine jo_bipush (pc := 22) dX11_areWeights_22 (ic_b_6) ?_
      refine jo_icmp_ge (pc := 24) dX11_areWeights_24 (tgt := 68) rfl ?_ ?_
      · refine jo_iconst (pc := 68) dX11_areWeights_68 (ic_i_1) ?_
        exact jo_breturn (pc := 69) (b := true) rfl rfl dX11_areWeights_69
      · refine jo_iload_n (pc := 27) 1 rfl dX11_areWeights_27 rfl ?_
        refine jo_iconst (pc := 28) dX11_areWeights_28 (ic_i_2) ?_
        refine jo_iload (pc := 29) 3 rfl dX11_areWeights_29 ?_
        refine jo_imul (pc := 31) dX11_areWeights_31 ?_
        refine jo_ishr (pc := 32) dX11_areWeights_32 ?_
        refine jo_iconst (pc := 33) dX11_areWeights_33 (ic_i_3) ?_
        refine jo_iand (pc := 34) dX11_areWeights_34 ?_
        refine jo_bd ?_
        refine jo_istore (pc := 35) (lv' := [(5, .int ((x1 >>> ((2 * i3) &&& 31)) &&& 3)), (1, .int x0), (2, .int x1), (3, .int i2), (4, .int i3)]) dX11_areWeights_35 (ltb rfl) rfl ?_
        generalize ((x1 >>> ((2 * i3) &&& 31)) &&& 3) = v4
        refine jo_iload (pc := 37) 4 rfl dX11_areWeights_37 ?_
        refine jo_iload_n (pc := 39) 1 rfl dX11_areWeights_39 rfl ?_
        refine jo_joinS (S := Unit) (fun (z4 : Unit) => σ) (fun (z4 : Unit) => [(5, .int v4), (1, .int x0), (2, .int x1), (4, .int i3)]) (fun (z4 : Unit) => []) 59 ?_ (fun h59_4 => ?_)
        · intro _
          show JO w mu_X11_areWeights vB σ [(5, .int v4), (1, .int x0), (2, .int x1), (4, .int i3)] [] 59 (j_X11_areWeights_59 i3 v4) _
          unfold j_X11_areWeights_59
          refine jo_iload (pc := 59) 0 rfl dX11_areWeights_59 ?_
          refine jo_istore_n (pc := 61) (lv' := [(3, .int v4), (5, .int v4), (1, .int x0), (2, .int x1), (4, .int i3)]) dX11_areWeights_61 rfl (ltb rfl) rfl ?_
          refine jo_iinc (pc := 62) (lv' := [(4, .int (i3 + 1)), (3, .int v4), (5, .int v4), (1, .int x0), (2, .int x1)]) 4 rfl dX11_areWeights_62 (congrArg (fun z => i3 + z) (ic_i_1)) (ltb rfl) rfl ?_
          refine jo_goto (pc := 65) dX11_areWeights_65 (tgt := 20) rfl ?_
          refine jo_lv (lv' := [(1, .int x0), (2, .int x1), (3, .int v4), (4, .int (i3 + 1))]) [3, 4, 1, 0] rfl ?_
          exact jo_leaf (by rfl) (hF20_3 (v4, i3 + 1))
        · refine jo_icmp_ge (pc := 40) dX11_areWeights_40 (tgt := 52) rfl ?_ ?_
          · refine jo_iload (pc := 52) 0 rfl dX11_areWeights_52 ?_
            refine jo_if_le (pc := 54) dX11_areWeights_54 (tgt := 59) rfl ?_ ?_
            · refine jo_lv (lv' := [(5, .int v4), (1, .int x0), (2, .int x1), (4, .int i3)]) [0, 1, 2, 4] rfl ?_
              exact jo_leaf (by rfl) (h59_4 ())
            · refine jo_iconst (pc := 57) dX11_areWeights_57 (ic_i_0) ?_
              exact jo_breturn (pc := 58) (b := false) rfl rfl dX11_areWeights_58
          · refine jo_iload (pc := 43) 0 rfl dX11_areWeights_43 ?_
            refine jo_iload_n (pc := 45) 3 rfl dX11_areWeights_45 rfl ?_
            refine jo_icmp_ge (pc := 46) dX11_areWeights_46 (tgt := 59) rfl ?_ ?_
            · refine jo_lv (lv' := [(5, .int v4), (1, .int x0), (2, .int x1), (4, .int i3)]) [0, 1, 2, 4] rfl ?_
              exact jo_leaf (by rfl) (h59_4 ())
            · refine jo_lv (lv' := []) [] rfl ?_
              exact jo_leaf (by rfl) (h49_1 ())
  · refine jo_iconst (pc := 13) dX11_areWeights_13 (ic_i_0) ?_
    exact jo_breturn (pc := 14) (b := false) rfl rfl dX11_areWeights_14
theorem c_X11_areWeights {w : Wd} (hw : WOK w) (hN : wn w = NT) {σ : Mem} {x0 : Int32} {x1 : Int32} : ∀ r, f_X11_areWeights σ x0 x1 = some r → MC w mu_X11_areWeights (vB r) [.ref (adr w 306), .int x0, .int x1] σ σ := mc_ofP ok_X11_areWeights rfl (Nat.le_of_ble_eq_true rfl) (t_X11_areWeights hw hN)
abbrev mu_X11_group : MD := (yX11_group, cX11_group, 4, some .boolean, 2)
theorem ok_X11_group : MOK mu_X11_group 2 := ⟨gw_1418, gw_171, (by decide +kernel : plainFor yX11_group = true), ⟨(by decide +kernel : yX11_group.cls ≠ "java/lang/invoke/MethodHandle"), (by decide +kernel : yX11_group.cls ≠ "java/lang/invoke/VarHandle"), (by decide +kernel : (parseMethodDescriptor yX11_group.desc).map (fun d => d.parameters.length) = some 2)⟩, Nat.le_of_ble_eq_true rfl⟩
noncomputable def l_X11_group_40 (x0 : Int32) (x1 : Int32) (σ6 : Mem) (i7 : Int32) : Option ((Mem × Int32) ⊕ (Bool × Mem)) :=
  if x0 ≤ i7 then (some (Sum.inr (true, σ6))) else (pI σ6 307 (1 + i7) ((x1 >>> ((2 * i7) &&& 31)) &&& 3) (fun (σ8 : Mem) => some (Sum.inl (σ8, i7 + 1))))
noncomputable def f_X11_group (σ : Mem) (x0 : Int32) (x1 : Int32) : Option (Bool × Mem) :=
  pF σ 306 0 0 (fun (σ1 : Mem) => (f_X11_isIn σ1 (Int32.toInt64 x0) 1 6).bind (fun (b2 : Bool) => if b2 then (f_X11_areWeights σ1 x0 x1).bind (fun (b3 : Bool) => if b3 then (f_X11_keepsAct σ1).bind (fun (σ4 : Mem) => (f_X11_clears σ4 x0).bind (fun (σ5 : Mem) => loopO (fun (z7 : (Mem × Int32)) => l_X11_group_40 x0 x1 z7.1 z7.2) (σ5, 0))) else some (false, σ1)) else some (false, σ1)))
theorem t_X11_group {w : Wd} (hw : WOK w) (hN : wn w = NT) {σ : Mem} {x0 : Int32} {x1 : Int32} : JO w mu_X11_group vB σ [(0, .ref (adr w 306)), (1, .int x0), (2, .int x1)] [] 0 (f_X11_group σ x0 x1) some := by
  unfold f_X11_group
  refine jo_aload_n (pc := 0) 0 rfl dX11_group_0 rfl ?_
  refine jo_iconst (pc := 1) dX11_group_1 (ic_i_0) ?_
  refine jo_putf (pc := 2) ok_11_0 okp_11_0 (ik_306 hw hN) gw_1293 dX11_group_2 (fun σ1 => ?_)
  refine jo_aload_n (pc := 5) 0 rfl dX11_group_5 rfl ?_
  refine jo_iload_n (pc := 6) 1 rfl dX11_group_6 rfl ?_
  refine jo_i2l (pc := 7) dX11_group_7 ?_
  refine jo_lconst (pc := 8) dX11_group_8 (ic_l_1) ?_
  refine jo_ldc2 (pc := 9) dX11_group_9 gw_1419 ?_
  refine jo_cV_Z_p (pc := 12) (μ' := mu_X11_isIn) (fx := f_X11_isIn σ1 (Int32.toInt64 x0) 1 6) (As := [.long (Int32.toInt64 x0), .long 1, .long 6]) (c_X11_isIn hw hN) (ok_X11_isIn) (ltb rfl) (all3 gw_1420 gw_1422 gw_64) (ik_306 hw hN) (by decide) (q := (RX11, TX11, 39)) rfl rfl rfl rfl (Nat.le_of_ble_eq_true rfl) dX11_group_12 (fun b2 => ?_)
  refine jo_ifz_eq (pc := 15) dX11_group_15 (tgt := 27) rfl ?_ ?_
  · refine jo_iconst (pc := 27) dX11_group_27 (ic_i_0) ?_
    exact jo_breturn (pc := 28) (b := false) rfl rfl dX11_group_28
  · refine jo_aload_n (pc := 18) 0 rfl dX11_group_18 rfl ?_
    refine jo_iload_n (pc := 19) 1 rfl dX11_group_19 rfl ?_
    refine jo_iload_n (pc := 20) 2 rfl dX11_group_20 rfl ?_
    refine jo_cV_Z_p (pc := 21) (μ' := mu_X11_areWeights) (fx := f_X11_areWeights σ1 x0 x1) (As := [.int x0, .int x1]) (c_X11_areWeights hw hN) (ok_X11_areWeights) (ltb rfl) (all3 gw_1424 gw_1426 gw_65) (ik_306 hw hN) (by decide) (q := (RX11, TX11, 39)) rfl rfl rfl rfl (Nat.le_of_ble_eq_true rfl) dX11_group_21 (fun b3 => ?_)
    refine jo_ifz_ne (pc := 24) dX11_group_24 (tgt := 29) rfl ?_ ?_
    · refine jo_aload_n (pc := 29) 0 rfl dX11_group_29 rfl ?_
      refine jo_cV_V_i (pc := 30) (μ' := mu_X11_keepsAct) (fx := f_X11_keepsAct σ1) (As := []) (c_X11_keepsAct hw hN) (ok_X11_keepsAct) (ltb rfl) (all3 gw_1429 gw_1431 gw_66) (ik_306 hw hN) (by decide) (q := (RX11, TX11, 39)) rfl rfl rfl rfl (Nat.le_of_ble_eq_true rfl) dX11_group_30 (fun σ4 => ?_)
      refine jo_aload_n (pc := 33) 0 rfl dX11_group_33 rfl ?_
      refine jo_iload_n (pc := 34) 1 rfl dX11_group_34 rfl ?_
      refine jo_cV_V_i (pc := 35) (μ' := mu_X11_clears) (fx := f_X11_clears σ4 x0) (As := [.int x0]) (c_X11_clears hw hN) (ok_X11_clears) (ltb rfl) (all3 gw_1285 gw_1287 gw_62) (ik_306 hw hN) (by decide) (q := (RX11, TX11, 39)) rfl rfl rfl rfl (Nat.le_of_ble_eq_true rfl) dX11_group_35 (fun σ5 => ?_)
      refine jo_iconst (pc := 38) dX11_group_38 (ic_i_0) ?_
      refine jo_istore_n (pc := 39) (lv' := [(3, .int 0), (0, .ref (adr w 306)), (1, .int x0), (2, .int x1)]) dX11_group_39 rfl (ltb rfl) rfl ?_
      refine jo_lv (lv' := [(0, .ref (adr w 306)), (1, .int x0), (2, .int x1), (3, .int 0)]) [1, 2, 3, 0] rfl ?_
      refine jo_loop (X := (Bool × Mem)) (fun (z7 : (Mem × Int32)) => z7.1) (fun (z7 : (Mem × Int32)) => [(0, .ref (adr w 306)), (1, .int x0), (2, .int x1), (3, .int z7.2)]) (body := (fun (z7 : (Mem × Int32)) => l_X11_group_40 x0 x1 z7.1 z7.2)) (fun F40_7 hF40_7 s => ?_) (σ5, 0)
      obtain ⟨σ6, i7⟩ := s
      show JO w mu_X11_group vB σ6 [(0, .ref (adr w 306)), (1, .int x0), (2, .int x1), (3, .int i7)] [] 40 (l_X11_group_40 x0 x1 σ6 i7) _
      unfold l_X11_group_40
      refine jo_iload_n (pc := 40) 3 rfl dX11_group_40 rfl ?_
      refine jo_iload_n (pc := 41) 1 rfl dX11_group_41 rfl ?_
      refine jo_icmp_ge (pc := 42) dX11_group_42 (tgt := 66) rfl ?_ ?_
      · refine jo_iconst (pc := 66) dX11_group_66 (ic_i_1) ?_
        exact jo_breturn (pc := 67) (b := true) rfl rfl dX11_group_67
      · refine jo_aload_n (pc := 45) 0 rfl dX11_group_45 rfl ?_
        refine jo_getrE (pc := 46) ok_11_1 (ik_306 hw hN) rf_306_1 gw_1294 dX11_group_46 ?_
        refine jo_iconst (pc := 49) dX11_group_49 (ic_i_1) ?_
        refine jo_iload_n (pc := 50) 3 rfl dX11_group_50 rfl ?_
        refine jo_iadd (pc := 51) dX11_group_51 ?_
        refine jo_iload_n (pc := 52) 2 rfl dX11_group_52 rfl ?_
        refine jo_iconst (pc := 53) dX11_group_53 (ic_i_2) ?_
        refine jo_iload_n (pc := 54) 3 rfl dX11_group_54 rfl ?_
        refine jo_imul (pc := 55) dX11_group_55 ?_
        refine jo_ishr (pc := 56) dX11_group_56 ?_
        refine jo_iconst (pc := 57) dX11_group_57 (ic_i_3) ?_
        refine jo_iand (pc := 58) dX11_group_58 ?_
        refine jo_iast (pc := 59) (ik_307 hw hN) dX11_group_59 (fun σ8 => ?_)
        refine jo_iinc (pc := 60) (lv' := [(3, .int (i7 + 1)), (0, .ref (adr w 306)), (1, .int x0), (2, .int x1)]) 3 rfl dX11_group_60 (congrArg (fun z => i7 + z) (ic_i_1)) (ltb rfl) rfl ?_
        refine jo_goto (pc := 63) dX11_group_63 (tgt := 40) rfl ?_
        refine jo_lv (lv' := [(0, .ref (adr w 306)), (1, .int x0), (2, .int x1), (3, .int (i7 + 1))]) [1, 2, 3, 0] rfl ?_
        exact jo_leaf (by rfl) (hF40_7 (σ8, i7 + 1))
    · refine jo_iconst (pc := 27) dX11_group_27 (ic_i_0) ?_
      exact jo_breturn (pc := 28) (b := false) rfl rfl dX11_group_28
theorem c_X11_group {w : Wd} (hw : WOK w) (hN : wn w = NT) {σ : Mem} {x0 : Int32} {x1 : Int32} : ∀ r σ', f_X11_group σ x0 x1 = some (r, σ') → MC w mu_X11_group (vB r) [.ref (adr w 306), .int x0, .int x1] σ σ' := mc_of ok_X11_group rfl (Nat.le_of_ble_eq_true rfl) (t_X11_group hw hN)
abbrev mu_X11_isTail : MD := (yX11_isTail, cX11_isTail, 4, some .boolean, 1)
theorem ok_X11_isTail : MOK mu_X11_isTail 3 := ⟨gw_1440, gw_171, (by decide +kernel : plainFor yX11_isTail = true), ⟨(by decide +kernel : yX11_isTail.cls ≠ "java/lang/invoke/MethodHandle"), (by decide +kernel : yX11_isTail.cls ≠ "java/lang/invoke/VarHandle"), (by decide +kernel : (parseMethodDescriptor yX11_isTail.desc).map (fun d => d.parameters.length) = some 3)⟩, Nat.le_of_ble_eq_true rfl⟩
noncomputable def j_X11_isTail_55  : Option Bool :=
  some false
noncomputable def f_X11_isTail (σ : Mem) (x0 : Int32) (x1 : Int32) (x2 : Int32) : Option Bool :=
  (f_X11_n σ).bind (fun (v1 : Int32) => (f_X11_isIn σ (Int32.toInt64 x1) 1 (Int32.toInt64 v1)).bind (fun (b2 : Bool) => (if b2 then (f_X11_n σ).bind (fun (v3 : Int32) => (f_X11_isIn σ (Int32.toInt64 x0) ((Int32.toInt64 x1) + 1) (Int32.toInt64 v3)).bind (fun (b4 : Bool) => if b4 then (f_X11_n σ).bind (fun (v5 : Int32) => (f_X11_isIn σ (Int32.toInt64 x2) ((Int32.toInt64 x0) + 1) (Int32.toInt64 v5)).bind (fun (b6 : Bool) => if b6 then some (Sum.inr true) else some (Sum.inl ()))) else some (Sum.inl ()))) else some (Sum.inl ()) : Option (Unit ⊕ Bool)).bind (Sum.elim (fun (z2 : Unit) => j_X11_isTail_55) some)))
theorem t_X11_isTail {w : Wd} (hw : WOK w) (hN : wn w = NT) {σ : Mem} {x0 : Int32} {x1 : Int32} {x2 : Int32} : JO w mu_X11_isTail vB σ [(0, .ref (adr w 306)), (1, .int x0), (2, .int x1), (3, .int x2)] [] 0 (f_X11_isTail σ x0 x1 x2) (fun z => some (z, σ)) := by
  unfold f_X11_isTail
  refine jo_aload_n (pc := 0) 0 rfl dX11_isTail_0 rfl ?_
  refine jo_iload_n (pc := 1) 2 rfl dX11_isTail_1 rfl ?_
  refine jo_i2l (pc := 2) dX11_isTail_2 ?_
  refine jo_lconst (pc := 3) dX11_isTail_3 (ic_l_1) ?_
  refine jo_aload_n (pc := 4) 0 rfl dX11_isTail_4 rfl ?_
  refine jo_cV_I_p (pc := 5) (μ' := mu_X11_n) (fx := f_X11_n σ) (As := []) (c_X11_n hw hN) (ok_X11_n) (ltb rfl) (all3 gw_1441 gw_1443 gw_68) (ik_306 hw hN) (by decide) (q := (RX11, TX11, 39)) rfl rfl rfl rfl (Nat.le_of_ble_eq_true rfl) dX11_isTail_5 (fun v1 => ?_)
  refine jo_i2l (pc := 8) dX11_isTail_8 ?_
  refine jo_cV_Z_p (pc := 9) (μ' := mu_X11_isIn) (fx := f_X11_isIn σ (Int32.toInt64 x1) 1 (Int32.toInt64 v1)) (As := [.long (Int32.toInt64 x1), .long 1, .long (Int32.toInt64 v1)]) (c_X11_isIn hw hN) (ok_X11_isIn) (ltb rfl) (all3 gw_1420 gw_1422 gw_64) (ik_306 hw hN) (by decide) (q := (RX11, TX11, 39)) rfl rfl rfl rfl (Nat.le_of_ble_eq_true rfl) dX11_isTail_9 (fun b2 => ?_)
  refine jo_joinS (S := Unit) (fun (z2 : Unit) => σ) (fun (z2 : Unit) => []) (fun (z2 : Unit) => []) 55 ?_ (fun h55_2 => ?_)
  · intro _
    show JO w mu_X11_isTail vB σ [] [] 55 (j_X11_isTail_55) _
    unfold j_X11_isTail_55
    refine jo_iconst (pc := 55) dX11_isTail_55 (ic_i_0) ?_
    exact jo_breturn (pc := 56) (b := false) rfl rfl dX11_isTail_56
  · refine jo_ifz_eq (pc := 12) dX11_isTail_12 (tgt := 55) rfl ?_ ?_
    · refine jo_lv (lv' := []) [] rfl ?_
      exact jo_leaf (by rfl) (h55_2 ())
    · refine jo_aload_n (pc := 15) 0 rfl dX11_isTail_15 rfl ?_
      refine jo_iload_n (pc := 16) 1 rfl dX11_isTail_16 rfl ?_
      refine jo_i2l (pc := 17) dX11_isTail_17 ?_
      refine jo_iload_n (pc := 18) 2 rfl dX11_isTail_18 rfl ?_
      refine jo_i2l (pc := 19) dX11_isTail_19 ?_
      refine jo_lconst (pc := 20) dX11_isTail_20 (ic_l_1) ?_
      refine jo_ladd (pc := 21) dX11_isTail_21 ?_
      refine jo_aload_n (pc := 22) 0 rfl dX11_isTail_22 rfl ?_
      refine jo_cV_I_p (pc := 23) (μ' := mu_X11_n) (fx := f_X11_n σ) (As := []) (c_X11_n hw hN) (ok_X11_n) (ltb rfl) (all3 gw_1441 gw_1443 gw_68) (ik_306 hw hN) (by decide) (q := (RX11, TX11, 39)) rfl rfl rfl rfl (Nat.le_of_ble_eq_true rfl) dX11_isTail_23 (fun v3 => ?_)
      refine jo_i2l (pc := 26) dX11_isTail_26 ?_
      refine jo_cV_Z_p (pc := 27) (μ' := mu_X11_isIn) (fx := f_X11_isIn σ (Int32.toInt64 x0) ((Int32.toInt64 x1) + 1) (Int32.toInt64 v3)) (As := [.long (Int32.toInt64 x0), .long ((Int32.toInt64 x1) + 1), .long (Int32.toInt64 v3)]) (c_X11_isIn hw hN) (ok_X11_isIn) (ltb rfl) (all3 gw_1420 gw_1422 gw_64) (ik_306 hw hN) (by decide) (q := (RX11, TX11, 39)) rfl rfl rfl rfl (Nat.le_of_ble_eq_true rfl) dX11_isTail_27 (fun b4 => ?_)
      refine jo_ifz_eq (pc := 30) dX11_isTail_30 (tgt := 55) rfl ?_ ?_
      · refine jo_lv (lv' := []) [] rfl ?_
        exact jo_leaf (by rfl) (h55_2 ())
      · refine jo_aload_n (pc := 33) 0 rfl dX11_isTail_33 rfl ?_
        refine jo_iload_n (pc := 34) 3 rfl dX11_isTail_34 rfl ?_
        refine jo_i2l (pc := 35) dX11_isTail_35 ?_
        refine jo_iload_n (pc := 36) 1 rfl dX11_isTail_36 rfl ?_
        refine jo_i2l (pc := 37) dX11_isTail_37 ?_
        refine jo_lconst (pc := 38) dX11_isTail_38 (ic_l_1) ?_
        refine jo_ladd (pc := 39) dX11_isTail_39 ?_
        refine jo_aload_n (pc := 40) 0 rfl dX11_isTail_40 rfl ?_
        refine jo_cV_I_p (pc := 41) (μ' := mu_X11_n) (fx := f_X11_n σ) (As := []) (c_X11_n hw hN) (ok_X11_n) (ltb rfl) (all3 gw_1441 gw_1443 gw_68) (ik_306 hw hN) (by decide) (q := (RX11, TX11, 39)) rfl rfl rfl rfl (Nat.le_of_ble_eq_true rfl) dX11_isTail_41 (fun v5 => ?_)
        refine jo_i2l (pc := 44) dX11_isTail_44 ?_
        refine jo_cV_Z_p (pc := 45) (μ' := mu_X11_isIn) (fx := f_X11_isIn σ (Int32.toInt64 x2) ((Int32.toInt64 x0) + 1) (Int32.toInt64 v5)) (As := [.long (Int32.toInt64 x2), .long ((Int32.toInt64 x0) + 1), .long (Int32.toInt64 v5)]) (c_X11_isIn hw hN) (ok_X11_isIn) (ltb rfl) (all3 gw_1420 gw_1422 gw_64) (ik_306 hw hN) (by decide) (q := (RX11, TX11, 39)) rfl rfl rfl rfl (Nat.le_of_ble_eq_true rfl) dX11_isTail_45 (fun b6 => ?_)
        refine jo_ifz_eq (pc := 48) dX11_isTail_48 (tgt := 55) rfl ?_ ?_
        · refine jo_lv (lv' := []) [] rfl ?_
          exact jo_leaf (by rfl) (h55_2 ())
        · refine jo_iconst (pc := 51) dX11_isTail_51 (ic_i_1) ?_
          refine jo_goto (pc := 52) dX11_isTail_52 (tgt := 56) rfl ?_
          exact jo_breturn (pc := 56) (b := true) rfl rfl dX11_isTail_56
theorem c_X11_isTail {w : Wd} (hw : WOK w) (hN : wn w = NT) {σ : Mem} {x0 : Int32} {x1 : Int32} {x2 : Int32} : ∀ r, f_X11_isTail σ x0 x1 x2 = some r → MC w mu_X11_isTail (vB r) [.ref (adr w 306), .int x0, .int x1, .int x2] σ σ := mc_ofP ok_X11_isTail rfl (Nat.le_of_ble_eq_true rfl) (t_X11_isTail hw hN)
abbrev mu_X11_onesAll : MD := (yX11_onesAll, cX11_onesAll, 2, none, 0)
theorem ok_X11_onesAll : MOK mu_X11_onesAll 0 := ⟨gw_1453, gw_171, (by decide +kernel : plainFor yX11_onesAll = true), ⟨(by decide +kernel : yX11_onesAll.cls ≠ "java/lang/invoke/MethodHandle"), (by decide +kernel : yX11_onesAll.cls ≠ "java/lang/invoke/VarHandle"), (by decide +kernel : (parseMethodDescriptor yX11_onesAll.desc).map (fun d => d.parameters.length) = some 0)⟩, Nat.le_of_ble_eq_true rfl⟩
noncomputable def l_X11_onesAll_4 (σ1 : Mem) (i2 : Int32) : Option ((Mem × Int32) ⊕ Mem) :=
  if 283 ≤ i2 then (some (Sum.inr σ1)) else (pI σ1 307 i2 0 (fun (σ3 : Mem) => some (Sum.inl (σ3, i2 + 1))))
noncomputable def f_X11_onesAll (σ : Mem) : Option Mem :=
  loopO (fun (z2 : (Mem × Int32)) => l_X11_onesAll_4 z2.1 z2.2) (σ, 223)
theorem t_X11_onesAll {w : Wd} (hw : WOK w) (hN : wn w = NT) {σ : Mem} : JO w mu_X11_onesAll vV σ [(0, .ref (adr w 306))] [] 0 (f_X11_onesAll σ) (fun z => some ((), z)) := by
  unfold f_X11_onesAll
  refine jo_sipush (pc := 0) dX11_onesAll_0 (ic_s_223) ?_
  refine jo_istore_n (pc := 3) (lv' := [(1, .int 223), (0, .ref (adr w 306))]) dX11_onesAll_3 rfl (ltb rfl) rfl ?_
  refine jo_lv (lv' := [(0, .ref (adr w 306)), (1, .int 223)]) [1, 0] rfl ?_
  refine jo_loop (X := Mem) (fun (z2 : (Mem × Int32)) => z2.1) (fun (z2 : (Mem × Int32)) => [(0, .ref (adr w 306)), (1, .int z2.2)]) (body := (fun (z2 : (Mem × Int32)) => l_X11_onesAll_4 z2.1 z2.2)) (fun F4_2 hF4_2 s => ?_) (σ, 223)
  obtain ⟨σ1, i2⟩ := s
  show JO w mu_X11_onesAll vV σ1 [(0, .ref (adr w 306)), (1, .int i2)] [] 4 (l_X11_onesAll_4 σ1 i2) _
  unfold l_X11_onesAll_4
  refine jo_iload_n (pc := 4) 1 rfl dX11_onesAll_4 rfl ?_
  refine jo_sipush (pc := 5) dX11_onesAll_5 (ic_s_283) ?_
  refine jo_icmp_ge (pc := 8) dX11_onesAll_8 (tgt := 24) rfl ?_ ?_
  · exact jo_return (pc := 24) rfl rfl dX11_onesAll_24
  · refine jo_aload_n (pc := 11) 0 rfl dX11_onesAll_11 rfl ?_
    refine jo_getrE (pc := 12) ok_11_1 (ik_306 hw hN) rf_306_1 gw_1294 dX11_onesAll_12 ?_
    refine jo_iload_n (pc := 15) 1 rfl dX11_onesAll_15 rfl ?_
    refine jo_iconst (pc := 16) dX11_onesAll_16 (ic_i_0) ?_
    refine jo_iast (pc := 17) (ik_307 hw hN) dX11_onesAll_17 (fun σ3 => ?_)
    refine jo_iinc (pc := 18) (lv' := [(1, .int (i2 + 1)), (0, .ref (adr w 306))]) 1 rfl dX11_onesAll_18 (congrArg (fun z => i2 + z) (ic_i_1)) (ltb rfl) rfl ?_
    refine jo_goto (pc := 21) dX11_onesAll_21 (tgt := 4) rfl ?_
    refine jo_lv (lv' := [(0, .ref (adr w 306)), (1, .int (i2 + 1))]) [1, 0] rfl ?_
    exact jo_leaf (by rfl) (hF4_2 (σ3, i2 + 1))
theorem c_X11_onesAll {w : Wd} (hw : WOK w) (hN : wn w = NT) {σ : Mem} : ∀ σ', f_X11_onesAll σ = some σ' → MC w mu_X11_onesAll none [.ref (adr w 306)] σ σ' := mc_ofV ok_X11_onesAll rfl (Nat.le_of_ble_eq_true rfl) (t_X11_onesAll hw hN)
abbrev mu_X11_tail_ : MD := (yX11_tail_, cX11_tail_, 5, some .boolean, 2)
theorem ok_X11_tail_ : MOK mu_X11_tail_ 4 := ⟨gw_1436, gw_171, (by decide +kernel : plainFor yX11_tail_ = true), ⟨(by decide +kernel : yX11_tail_.cls ≠ "java/lang/invoke/MethodHandle"), (by decide +kernel : yX11_tail_.cls ≠ "java/lang/invoke/VarHandle"), (by decide +kernel : (parseMethodDescriptor yX11_tail_.desc).map (fun d => d.parameters.length) = some 4)⟩, Nat.le_of_ble_eq_true rfl⟩
noncomputable def j_X11_tail__61 (x0 : Int32) (x1 : Int32) (x2 : Int32) (x3 : Int32) (σ1 : Mem) : Option (Bool × Mem) :=
  (f_X11_keepsAct σ1).bind (fun (σ4 : Mem) => (f_X11_onesAll σ4).bind (fun (σ5 : Mem) => (f_X11_putsTail σ5 (x0 - 1) (x1 - 1) (x2 - 1) x3).bind (fun (σ6 : Mem) => some (true, σ6))))
noncomputable def f_X11_tail_ (σ : Mem) (x0 : Int32) (x1 : Int32) (x2 : Int32) (x3 : Int32) : Option (Bool × Mem) :=
  pF σ 306 0 0 (fun (σ1 : Mem) => (f_X11_isTail σ1 x0 x1 x2).bind (fun (b2 : Bool) => if b2 then (f_X11_isIn σ1 (Int32.toInt64 x3) 0 3).bind (fun (b3 : Bool) => if b3 then (if x3 ≤ 0 then (some (Sum.inl ())) else ((f_X11_weight σ1 (x2 - 1)).bind (fun (v7 : Int32) => (f_X11_weight σ1 (x1 - 1)).bind (fun (v8 : Int32) => (f_X11_weight σ1 (x0 - 1)).bind (fun (v9 : Int32) => if (v8 + v9) ≤ v7 then (some (Sum.inl ())) else (some (Sum.inr (false, σ1))))))) : Option (Unit ⊕ (Bool × Mem))).bind (Sum.elim (fun (z3 : Unit) => j_X11_tail__61 x0 x1 x2 x3 σ1) some) else some (false, σ1)) else some (false, σ1)))
theorem t_X11_tail_ {w : Wd} (hw : WOK w) (hN : wn w = NT) {σ : Mem} {x0 : Int32} {x1 : Int32} {x2 : Int32} {x3 : Int32} : JO w mu_X11_tail_ vB σ [(0, .ref (adr w 306)), (1, .int x0), (2, .int x1), (3, .int x2), (4, .int x3)] [] 0 (f_X11_tail_ σ x0 x1 x2 x3) some := by
  unfold f_X11_tail_
  refine jo_aload_n (pc := 0) 0 rfl dX11_tail__0 rfl ?_
  refine jo_iconst (pc := 1) dX11_tail__1 (ic_i_0) ?_
  refine jo_putf (pc := 2) ok_11_0 okp_11_0 (ik_306 hw hN) gw_1293 dX11_tail__2 (fun σ1 => ?_)
  refine jo_aload_n (pc := 5) 0 rfl dX11_tail__5 rfl ?_
  refine jo_iload_n (pc := 6) 1 rfl dX11_tail__6 rfl ?_
  refine jo_iload_n (pc := 7) 2 rfl dX11_tail__7 rfl ?_
  refine jo_iload_n (pc := 8) 3 rfl dX11_tail__8 rfl ?_
  refine jo_cV_Z_p (pc := 9) (μ' := mu_X11_isTail) (fx := f_X11_isTail σ1 x0 x1 x2) (As := [.int x0, .int x1, .int x2]) (c_X11_isTail hw hN) (ok_X11_isTail) (ltb rfl) (all3 gw_1437 gw_1439 gw_67) (ik_306 hw hN) (by decide) (q := (RX11, TX11, 39)) rfl rfl rfl rfl (Nat.le_of_ble_eq_true rfl) dX11_tail__9 (fun b2 => ?_)
  refine jo_ifz_eq (pc := 12) dX11_tail__12 (tgt := 59) rfl ?_ ?_
  · refine jo_iconst (pc := 59) dX11_tail__59 (ic_i_0) ?_
    exact jo_breturn (pc := 60) (b := false) rfl rfl dX11_tail__60
  · refine jo_aload_n (pc := 15) 0 rfl dX11_tail__15 rfl ?_
    refine jo_iload (pc := 16) 4 rfl dX11_tail__16 ?_
    refine jo_i2l (pc := 18) dX11_tail__18 ?_
    refine jo_lconst (pc := 19) dX11_tail__19 (ic_l_0) ?_
    refine jo_ldc2 (pc := 20) dX11_tail__20 gw_1445 ?_
    refine jo_cV_Z_p (pc := 23) (μ' := mu_X11_isIn) (fx := f_X11_isIn σ1 (Int32.toInt64 x3) 0 3) (As := [.long (Int32.toInt64 x3), .long 0, .long 3]) (c_X11_isIn hw hN) (ok_X11_isIn) (ltb rfl) (all3 gw_1420 gw_1422 gw_64) (ik_306 hw hN) (by decide) (q := (RX11, TX11, 39)) rfl rfl rfl rfl (Nat.le_of_ble_eq_true rfl) dX11_tail__23 (fun b3 => ?_)
    refine jo_ifz_eq (pc := 26) dX11_tail__26 (tgt := 59) rfl ?_ ?_
    · refine jo_iconst (pc := 59) dX11_tail__59 (ic_i_0) ?_
      exact jo_breturn (pc := 60) (b := false) rfl rfl dX11_tail__60
    · refine jo_iload (pc := 29) 4 rfl dX11_tail__29 ?_
      refine jo_joinS (S := Unit) (fun (z3 : Unit) => σ1) (fun (z3 : Unit) => [(0, .ref (adr w 306)), (1, .int x0), (2, .int x1), (3, .int x2), (4, .int x3)]) (fun (z3 : Unit) => []) 61 ?_ (fun h61_3 => ?_)
      · intro _
        show JO w mu_X11_tail_ vB σ1 [(0, .ref (adr w 306)), (1, .int x0), (2, .int x1), (3, .int x2), (4, .int x3)] [] 61 (j_X11_tail__61 x0 x1 x2 x3 σ1) _
        unfold j_X11_tail__61
        refine jo_aload_n (pc := 61) 0 rfl dX11_tail__61 rfl ?_
        refine jo_cV_V_i (pc := 62) (μ' := mu_X11_keepsAct) (fx := f_X11_keepsAct σ1) (As := []) (c_X11_keepsAct hw hN) (ok_X11_keepsAct) (ltb rfl) (all3 gw_1429 gw_1431 gw_66) (ik_306 hw hN) (by decide) (q := (RX11, TX11, 39)) rfl rfl rfl rfl (Nat.le_of_ble_eq_true rfl) dX11_tail__62 (fun σ4 => ?_)
        refine jo_aload_n (pc := 65) 0 rfl dX11_tail__65 rfl ?_
        refine jo_cV_V_i (pc := 66) (μ' := mu_X11_onesAll) (fx := f_X11_onesAll σ4) (As := []) (c_X11_onesAll hw hN) (ok_X11_onesAll) (ltb rfl) (all3 gw_1450 gw_1452 gw_70) (ik_306 hw hN) (by decide) (q := (RX11, TX11, 39)) rfl rfl rfl rfl (Nat.le_of_ble_eq_true rfl) dX11_tail__66 (fun σ5 => ?_)
        refine jo_aload_n (pc := 69) 0 rfl dX11_tail__69 rfl ?_
        refine jo_iload_n (pc := 70) 1 rfl dX11_tail__70 rfl ?_
        refine jo_iconst (pc := 71) dX11_tail__71 (ic_i_1) ?_
        refine jo_isub (pc := 72) dX11_tail__72 ?_
        refine jo_iload_n (pc := 73) 2 rfl dX11_tail__73 rfl ?_
        refine jo_iconst (pc := 74) dX11_tail__74 (ic_i_1) ?_
        refine jo_isub (pc := 75) dX11_tail__75 ?_
        refine jo_iload_n (pc := 76) 3 rfl dX11_tail__76 rfl ?_
        refine jo_iconst (pc := 77) dX11_tail__77 (ic_i_1) ?_
        refine jo_isub (pc := 78) dX11_tail__78 ?_
        refine jo_iload (pc := 79) 4 rfl dX11_tail__79 ?_
        refine jo_cV_V_i (pc := 81) (μ' := mu_X11_putsTail) (fx := f_X11_putsTail σ5 (x0 - 1) (x1 - 1) (x2 - 1) x3) (As := [.int (x0 - 1), .int (x1 - 1), .int (x2 - 1), .int x3]) (c_X11_putsTail hw hN) (ok_X11_putsTail) (ltb rfl) (all3 gw_1289 gw_1291 gw_63) (ik_306 hw hN) (by decide) (q := (RX11, TX11, 39)) rfl rfl rfl rfl (Nat.le_of_ble_eq_true rfl) dX11_tail__81 (fun σ6 => ?_)
        refine jo_iconst (pc := 84) dX11_tail__84 (ic_i_1) ?_
        exact jo_breturn (pc := 85) (b := true) rfl rfl dX11_tail__85
      · refine jo_if_le (pc := 31) dX11_tail__31 (tgt := 61) rfl ?_ ?_
        · exact jo_leaf (by rfl) (h61_3 ())
        · refine jo_aload_n (pc := 34) 0 rfl dX11_tail__34 rfl ?_
          refine jo_iload_n (pc := 35) 3 rfl dX11_tail__35 rfl ?_
          refine jo_iconst (pc := 36) dX11_tail__36 (ic_i_1) ?_
          refine jo_isub (pc := 37) dX11_tail__37 ?_
          refine jo_cV_I_p (pc := 38) (μ' := mu_X11_weight) (fx := f_X11_weight σ1 (x2 - 1)) (As := [.int (x2 - 1)]) (c_X11_weight hw hN) (ok_X11_weight) (ltb rfl) (all3 gw_1446 gw_1448 gw_69) (ik_306 hw hN) (by decide) (q := (RX11, TX11, 39)) rfl rfl rfl rfl (Nat.le_of_ble_eq_true rfl) dX11_tail__38 (fun v7 => ?_)
          refine jo_aload_n (pc := 41) 0 rfl dX11_tail__41 rfl ?_
          refine jo_iload_n (pc := 42) 2 rfl dX11_tail__42 rfl ?_
          refine jo_iconst (pc := 43) dX11_tail__43 (ic_i_1) ?_
          refine jo_isub (pc := 44) dX11_tail__44 ?_
          refine jo_cV_I_p (pc := 45) (μ' := mu_X11_weight) (fx := f_X11_weight σ1 (x1 - 1)) (As := [.int (x1 - 1)]) (c_X11_weight hw hN) (ok_X11_weight) (ltb rfl) (all3 gw_1446 gw_1448 gw_69) (ik_306 hw hN) (by decide) (q := (RX11, TX11, 39)) rfl rfl rfl rfl (Nat.le_of_ble_eq_true rfl) dX11_tail__45 (fun v8 => ?_)
          refine jo_aload_n (pc := 48) 0 rfl dX11_tail__48 rfl ?_
          refine jo_iload_n (pc := 49) 1 rfl dX11_tail__49 rfl ?_
          refine jo_iconst (pc := 50) dX11_tail__50 (ic_i_1) ?_
          refine jo_isub (pc := 51) dX11_tail__51 ?_
          refine jo_cV_I_p (pc := 52) (μ' := mu_X11_weight) (fx := f_X11_weight σ1 (x0 - 1)) (As := [.int (x0 - 1)]) (c_X11_weight hw hN) (ok_X11_weight) (ltb rfl) (all3 gw_1446 gw_1448 gw_69) (ik_306 hw hN) (by decide) (q := (RX11, TX11, 39)) rfl rfl rfl rfl (Nat.le_of_ble_eq_true rfl) dX11_tail__52 (fun v9 => ?_)
          refine jo_iadd (pc := 55) dX11_tail__55 ?_
          refine jo_icmp_ge (pc := 56) dX11_tail__56 (tgt := 61) rfl ?_ ?_
          · exact jo_leaf (by rfl) (h61_3 ())
          · refine jo_iconst (pc := 59) dX11_tail__59 (ic_i_0) ?_
            exact jo_breturn (pc := 60) (b := false) rfl rfl dX11_tail__60
theorem c_X11_tail_ {w : Wd} (hw : WOK w) (hN : wn w = NT) {σ : Mem} {x0 : Int32} {x1 : Int32} {x2 : Int32} {x3 : Int32} : ∀ r σ', f_X11_tail_ σ x0 x1 x2 x3 = some (r, σ') → MC w mu_X11_tail_ (vB r) [.ref (adr w 306), .int x0, .int x1, .int x2, .int x3] σ σ' := mc_of ok_X11_tail_ rfl (Nat.le_of_ble_eq_true rfl) (t_X11_tail_ hw hN)
