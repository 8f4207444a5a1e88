abbrev mu_X1_keepMade : MD := (yX1_keepMade, cX1_keepMade, 2, none, 2)
theorem ok_X1_keepMade : MOK mu_X1_keepMade 0 := ⟨gw_1091, gw_167, (by decide +kernel : plainFor yX1_keepMade = true), ⟨(by decide +kernel : yX1_keepMade.cls ≠ "java/lang/invoke/MethodHandle"), (by decide +kernel : yX1_keepMade.cls ≠ "java/lang/invoke/VarHandle"), (by decide +kernel : (parseMethodDescriptor yX1_keepMade.desc).map (fun d => d.parameters.length) = some 0)⟩, Nat.le_of_ble_eq_true rfl⟩
noncomputable def f_X1_keepMade (σ : Mem) : Option Mem :=
  (f_X1_slotOf σ 134).bind (fun (v1 : Int32) => gI σ 131 v1 (fun (v2 : Int32) => if v2 = 0 then (gF σ 128 6 (fun (v3 : Int32) => if 1000 < v3 then (some σ) else (gF σ 128 6 (fun (v4 : Int32) => cL σ 134 0 130 (v4 * 6) 6 (fun (σ5 : Mem) => gF σ5 128 6 (fun (v6 : Int32) => pF σ5 128 6 (v6 + 1) (fun (σ7 : Mem) => gF σ7 128 6 (fun (v8 : Int32) => pI σ7 131 v1 v8 (fun (σ9 : Mem) => some σ9))))))))) else (some σ)))
theorem t_X1_keepMade {w : Wd} (hw : WOK w) {σ : Mem} : JO w mu_X1_keepMade vV σ [(0, .ref (adr w 128))] [] 0 (f_X1_keepMade σ) (fun z => some ((), z)) := by
  unfold f_X1_keepMade
  refine jo_aload_n (pc := 0) 0 rfl dX1_keepMade_0 rfl ?_
  refine jo_aload_n (pc := 1) 0 rfl dX1_keepMade_1 rfl ?_
  refine jo_getrE (pc := 2) ok_1_9 (ik_128 hw) rf_128_9 gw_440 dX1_keepMade_2 ?_
  refine jo_cV_I_p (pc := 5) (μ' := mu_X1_slotOf) (fx := f_X1_slotOf σ 134) (As := [.ref (adr w 134)]) (c_X1_slotOf hw (ik_134 hw)) (ok_X1_slotOf) (ltb rfl) (all3 gw_1092 gw_1094 gw_40) (ik_128 hw) (by decide) (q := (RX1, TX1, 10)) rfl rfl rfl rfl (Nat.le_of_ble_eq_true rfl) dX1_keepMade_5 (fun v1 => ?_)
  refine jo_istore_n (pc := 8) (lv' := [(1, .int v1), (0, .ref (adr w 128))]) dX1_keepMade_8 rfl (ltb rfl) rfl ?_
  refine jo_aload_n (pc := 9) 1 rfl dX1_keepMade_9 rfl ?_
  refine jo_getrE (pc := 10) ok_1_5 (ik_128 hw) rf_128_5 gw_436 dX1_keepMade_10 ?_
  refine jo_iload_n (pc := 13) 0 rfl dX1_keepMade_13 rfl ?_
  refine jo_iald (pc := 14) (ik_131 hw) dX1_keepMade_14 (fun v2 => ?_)
  refine jo_if_ne (pc := 15) dX1_keepMade_15 (tgt := 69) rfl ?_ ?_
  · exact jo_return (pc := 69) rfl rfl dX1_keepMade_69
  · refine jo_aload_n (pc := 18) 1 rfl dX1_keepMade_18 rfl ?_
    refine jo_getf (pc := 19) ok_1_6 (ik_128 hw) gw_437 dX1_keepMade_19 (fun v3 => ?_)
    refine jo_sipush (pc := 22) dX1_keepMade_22 (ic_s_1000) ?_
    refine jo_icmp_gt (pc := 25) dX1_keepMade_25 (tgt := 69) rfl ?_ ?_
    · exact jo_return (pc := 69) rfl rfl dX1_keepMade_69
    · refine jo_aload_n (pc := 28) 1 rfl dX1_keepMade_28 rfl ?_
      refine jo_getrE (pc := 29) ok_1_9 (ik_128 hw) rf_128_9 gw_440 dX1_keepMade_29 ?_
      refine jo_iconst (pc := 32) dX1_keepMade_32 (ic_i_0) ?_
      refine jo_aload_n (pc := 33) 1 rfl dX1_keepMade_33 rfl ?_
      refine jo_getrE (pc := 34) ok_1_4 (ik_128 hw) rf_128_4 gw_435 dX1_keepMade_34 ?_
      refine jo_aload_n (pc := 37) 1 rfl dX1_keepMade_37 rfl ?_
      refine jo_getf (pc := 38) ok_1_6 (ik_128 hw) gw_437 dX1_keepMade_38 (fun v4 => ?_)
      refine jo_bipush (pc := 41) dX1_keepMade_41 (ic_b_6) ?_
      refine jo_imul (pc := 43) dX1_keepMade_43 ?_
      refine jo_bipush (pc := 44) dX1_keepMade_44 (ic_b_6) ?_
      refine jo_acL (pc := 46) (ik_134 hw) (ik_130 hw) (all4 gw_1101 gw_547 gw_546 gw_170) (ltb rfl) (Nat.le_of_ble_eq_true rfl) dX1_keepMade_46 (fun σ5 => ?_)
      refine jo_aload_n (pc := 49) 1 rfl dX1_keepMade_49 rfl ?_
      refine jo_dup (pc := 50) dX1_keepMade_50 rfl ?_
      refine jo_getf (pc := 51) ok_1_6 (ik_128 hw) gw_437 dX1_keepMade_51 (fun v6 => ?_)
      refine jo_iconst (pc := 54) dX1_keepMade_54 (ic_i_1) ?_
      refine jo_iadd (pc := 55) dX1_keepMade_55 ?_
      refine jo_putf (pc := 56) ok_1_6 okp_1_6 (ik_128 hw) gw_437 dX1_keepMade_56 (fun σ7 => ?_)
      refine jo_aload_n (pc := 59) 1 rfl dX1_keepMade_59 rfl ?_
      refine jo_getrE (pc := 60) ok_1_5 (ik_128 hw) rf_128_5 gw_436 dX1_keepMade_60 ?_
      refine jo_iload_n (pc := 63) 0 rfl dX1_keepMade_63 rfl ?_
      refine jo_aload_n (pc := 64) 1 rfl dX1_keepMade_64 rfl ?_
      refine jo_getf (pc := 65) ok_1_6 (ik_128 hw) gw_437 dX1_keepMade_65 (fun v8 => ?_)
      refine jo_iast (pc := 68) (ik_131 hw) dX1_keepMade_68 (fun σ9 => ?_)
      exact jo_return (pc := 69) rfl rfl dX1_keepMade_69
theorem c_X1_keepMade {w : Wd} (hw : WOK w) {σ : Mem} : ∀ σ', f_X1_keepMade σ = some σ' → MC w mu_X1_keepMade none [.ref (adr w 128)] σ σ' := mc_ofV ok_X1_keepMade rfl (Nat.le_of_ble_eq_true rfl) (t_X1_keepMade hw)
abbrev mu_X1_growBy : MD := (yX1_growBy, cX1_growBy, 3, none, 3)
theorem ok_X1_growBy : MOK mu_X1_growBy 2 := ⟨gw_1109, gw_167, (by decide +kernel : plainFor yX1_growBy = true), ⟨(by decide +kernel : yX1_growBy.cls ≠ "java/lang/invoke/MethodHandle"), (by decide +kernel : yX1_growBy.cls ≠ "java/lang/invoke/VarHandle"), (by decide +kernel : (parseMethodDescriptor yX1_growBy.desc).map (fun d => d.parameters.length) = some 2)⟩, Nat.le_of_ble_eq_true rfl⟩
noncomputable def f_X1_growBy (σ : Mem) (x0 : Int32) (x1 : Int32) : Option Mem :=
  (f_X0_makeGenerator σ 133 x0 (Int32.toInt64 x1)).bind (fun (σ1 : Mem) => (f_X0_product σ1 134 132 133).bind (fun (σ2 : Mem) => (f_X1_keepMade σ2).bind (fun (σ3 : Mem) => some σ3)))
theorem t_X1_growBy {w : Wd} (hw : WOK w) {σ : Mem} {x0 : Int32} {x1 : Int32} : JO w mu_X1_growBy vV σ [(0, .ref (adr w 128)), (1, .int x0), (2, .int x1)] [] 0 (f_X1_growBy σ x0 x1) (fun z => some ((), z)) := by
  unfold f_X1_growBy
  refine jo_aload_n (pc := 0) 0 rfl dX1_growBy_0 rfl ?_
  refine jo_getrE (pc := 1) ok_1_8 (ik_128 hw) rf_128_8 gw_439 dX1_growBy_1 ?_
  refine jo_iload_n (pc := 4) 1 rfl dX1_growBy_4 rfl ?_
  refine jo_iload_n (pc := 5) 2 rfl dX1_growBy_5 rfl ?_
  refine jo_i2l (pc := 6) dX1_growBy_6 ?_
  refine jo_cS_V_i (pc := 7) (μ' := mu_X0_makeGenerator) (fx := f_X0_makeGenerator σ 133 x0 (Int32.toInt64 x1)) (As := [.ref (adr w 133), .int x0, .long (Int32.toInt64 x1)]) (c_X0_makeGenerator hw (ik_133 hw)) (ok_X0_makeGenerator) (ltb rfl) (all2 gw_1110 gw_1010) rfl rfl (Nat.le_of_ble_eq_true rfl) dX1_growBy_7 (fun σ1 => ?_)
  refine jo_aload_n (pc := 10) 0 rfl dX1_growBy_10 rfl ?_
  refine jo_getrE (pc := 11) ok_1_1 (ik_128 hw) rf_128_1 gw_432 dX1_growBy_11 ?_
  refine jo_aload_n (pc := 14) 0 rfl dX1_growBy_14 rfl ?_
  refine jo_getrE (pc := 15) ok_1_9 (ik_128 hw) rf_128_9 gw_440 dX1_growBy_15 ?_
  refine jo_aload_n (pc := 18) 0 rfl dX1_growBy_18 rfl ?_
  refine jo_getrE (pc := 19) ok_1_7 (ik_128 hw) rf_128_7 gw_438 dX1_growBy_19 ?_
  refine jo_aload_n (pc := 22) 0 rfl dX1_growBy_22 rfl ?_
  refine jo_getrE (pc := 23) ok_1_8 (ik_128 hw) rf_128_8 gw_439 dX1_growBy_23 ?_
  refine jo_cV_V_i (pc := 26) (μ' := mu_X0_product) (fx := f_X0_product σ1 134 132 133) (As := [.ref (adr w 134), .ref (adr w 132), .ref (adr w 133)]) (c_X0_product hw (ik_134 hw) (ik_132 hw) (ik_133 hw)) (ok_X0_product) (ltb rfl) (all3 gw_1111 gw_815 gw_816) (ik_72 hw) (by decide) (q := (RX0, TX0, 8)) rfl rfl rfl rfl (Nat.le_of_ble_eq_true rfl) dX1_growBy_26 (fun σ2 => ?_)
  refine jo_aload_n (pc := 29) 0 rfl dX1_growBy_29 rfl ?_
  refine jo_cV_V_i (pc := 30) (μ' := mu_X1_keepMade) (fx := f_X1_keepMade σ2) (As := []) (c_X1_keepMade hw) (ok_X1_keepMade) (ltb rfl) (all3 gw_1088 gw_1090 gw_39) (ik_128 hw) (by decide) (q := (RX1, TX1, 10)) rfl rfl rfl rfl (Nat.le_of_ble_eq_true rfl) dX1_growBy_30 (fun σ3 => ?_)
  exact jo_return (pc := 33) rfl rfl dX1_growBy_33
theorem c_X1_growBy {w : Wd} (hw : WOK w) {σ : Mem} {x0 : Int32} {x1 : Int32} : ∀ σ', f_X1_growBy σ x0 x1 = some σ' → MC w mu_X1_growBy none [.ref (adr w 128), .int x0, .int x1] σ σ' := mc_ofV ok_X1_growBy rfl (Nat.le_of_ble_eq_true rfl) (t_X1_growBy hw)
abbrev mu_X1_grow : MD := (yX1_grow, cX1_grow, 5, none, 4)
theorem ok_X1_grow : MOK mu_X1_grow 2 := ⟨gw_1105, gw_167, (by decide +kernel : plainFor yX1_grow = true), ⟨(by decide +kernel : yX1_grow.cls ≠ "java/lang/invoke/MethodHandle"), (by decide +kernel : yX1_grow.cls ≠ "java/lang/invoke/VarHandle"), (by decide +kernel : (parseMethodDescriptor yX1_grow.desc).map (fun d => d.parameters.length) = some 2)⟩, Nat.le_of_ble_eq_true rfl⟩
noncomputable def j_X1_grow_90 (i2 : Int32) (σ5 : Mem) : Option ((Mem × Int32) ⊕ Mem) :=
  some (Sum.inl (σ5, i2 + 1))
noncomputable def l_X1_grow_38 (σ6 : Mem) (i7 : Int32) : Option ((Mem × Int32) ⊕ Mem) :=
  gF σ6 41 0 (fun (v8 : Int32) => if v8 ≤ i7 then (some (Sum.inr σ6)) else (gI σ6 42 i7 (fun (v9 : Int32) => if v9 = 1 then ((f_X1_growBy σ6 i7 1).bind (fun (σ10 : Mem) => (f_X1_growBy σ10 i7 (-1)).bind (fun (σ11 : Mem) => some (Sum.inl (σ11, i7 + 1))))) else (some (Sum.inr σ6)))))
noncomputable def l_X1_grow_2 (x1 : Int32) (σ1 : Mem) (i2 : Int32) : Option ((Mem × Int32) ⊕ Mem) :=
  if x1 ≤ i2 then (some (Sum.inr σ1)) else (gF σ1 128 6 (fun (v3 : Int32) => if 1000 < v3 then (some (Sum.inr σ1)) else (cL σ1 130 (i2 * 6) 132 0 6 (fun (σ4 : Mem) => (loopO (fun (z7 : (Mem × Int32)) => l_X1_grow_38 z7.1 z7.2) (σ4, 0) : Option Mem).bind (fun (z5 : Mem) => j_X1_grow_90 i2 z5)))))
noncomputable def f_X1_grow (σ : Mem) (x0 : Int32) (x1 : Int32) : Option Mem :=
  loopO (fun (z2 : (Mem × Int32)) => l_X1_grow_2 x1 z2.1 z2.2) (σ, x0)
theorem t_X1_grow {w : Wd} (hw : WOK w) {σ : Mem} {x0 : Int32} {x1 : Int32} : JO w mu_X1_grow vV σ [(0, .ref (adr w 128)), (1, .int x0), (2, .int x1)] [] 0 (f_X1_grow σ x0 x1) (fun z => some ((), z)) := by
  unfold f_X1_grow
  refine jo_iload_n (pc := 0) 1 rfl dX1_grow_0 rfl ?_
  refine jo_istore_n (pc := 1) (lv' := [(3, .int x0), (0, .ref (adr w 128)), (1, .int x0), (2, .int x1)]) dX1_grow_1 rfl (ltb rfl) rfl ?_
  refine jo_lv (lv' := [(0, .ref (adr w 128)), (2, .int x1), (3, .int x0)]) [1, 3, 0] rfl ?_
  refine jo_loop (X := Mem) (fun (z2 : (Mem × Int32)) => z2.1) (fun (z2 : (Mem × Int32)) => [(0, .ref (adr w 128)), (2, .int x1), (3, .int z2.2)]) (body := (fun (z2 : (Mem × Int32)) => l_X1_grow_2 x1 z2.1 z2.2)) (fun F2_2 hF2_2 s => ?_) (σ, x0)
  obtain ⟨σ1, i2⟩ := s
  show JO w mu_X1_grow vV σ1 [(0, .ref (adr w 128)), (2, .int x1), (3, .int i2)] [] 2 (l_X1_grow_2 x1 σ1 i2) _
  unfold l_X1_grow_2
  refine jo_iload_n (pc := 2) 2 rfl dX1_grow_2 rfl ?_
  refine jo_iload_n (pc := 3) 1 rfl dX1_grow_3 rfl ?_
  refine jo_icmp_ge (pc := 4) dX1_grow_4 (tgt := 96) rfl ?_ ?_
  · exact jo_return (pc := 96) rfl rfl dX1_grow_96
  · refine jo_aload_n (pc := 7) 0 rfl dX1_grow_7 rfl ?_
    refine jo_getf (pc := 8) ok_1_6 (ik_128 hw) gw_437 dX1_grow_8 (fun v3 => ?_)
    refine jo_sipush (pc := 11) dX1_grow_11 (ic_s_1000) ?_
    refine jo_icmp_gt (pc := 14) dX1_grow_14 (tgt := 96) rfl ?_ ?_
    · exact jo_return (pc := 96) rfl rfl dX1_grow_96
    · refine jo_aload_n (pc := 17) 0 rfl dX1_grow_17 rfl ?_
      refine jo_getrE (pc := 18) ok_1_4 (ik_128 hw) rf_128_4 gw_435 dX1_grow_18 ?_
      refine jo_iload_n (pc := 21) 2 rfl dX1_grow_21 rfl ?_
      refine jo_bipush (pc := 22) dX1_grow_22 (ic_b_6) ?_
      refine jo_imul (pc := 24) dX1_grow_24 ?_
      refine jo_aload_n (pc := 25) 0 rfl dX1_grow_25 rfl ?_
      refine jo_getrE (pc := 26) ok_1_7 (ik_128 hw) rf_128_7 gw_438 dX1_grow_26 ?_
      refine jo_iconst (pc := 29) dX1_grow_29 (ic_i_0) ?_
      refine jo_bipush (pc := 30) dX1_grow_30 (ic_b_6) ?_
      refine jo_acL (pc := 32) (ik_130 hw) (ik_132 hw) (all4 gw_1101 gw_547 gw_546 gw_170) (ltb rfl) (Nat.le_of_ble_eq_true rfl) dX1_grow_32 (fun σ4 => ?_)
      refine jo_iconst (pc := 35) dX1_grow_35 (ic_i_0) ?_
      refine jo_istore (pc := 36) (lv' := [(4, .int 0), (0, .ref (adr w 128)), (2, .int x1), (3, .int i2)]) dX1_grow_36 (ltb rfl) rfl ?_
      refine jo_join1 (S := Mem) (fun (z5 : Mem) => z5) (fun (z5 : Mem) => [(0, .ref (adr w 128)), (2, .int x1), (3, .int i2)]) (fun (z5 : Mem) => []) 90 ?_ (fun h90_5 => ?_)
      · intro σ5
        show JO w mu_X1_grow vV σ5 [(0, .ref (adr w 128)), (2, .int x1), (3, .int i2)] [] 90 (j_X1_grow_90 i2 σ5) _
        unfold j_X1_grow_90
        refine jo_iinc (pc := 90) (lv' := [(3, .int (i2 + 1)), (0, .ref (adr w 128)), (2, .int x1)]) 2 rfl dX1_grow_90 (congrArg (fun z => i2 + z) (ic_i_1)) (ltb rfl) rfl ?_
        refine jo_goto (pc := 93) dX1_grow_93 (tgt := 2) rfl ?_
        refine jo_lv (lv' := [(0, .ref (adr w 128)), (2, .int x1), (3, .int (i2 + 1))]) [1, 2, 0] rfl ?_
        exact jo_leaf (by rfl) (hF2_2 (σ5, i2 + 1))
      · refine jo_lv (lv' := [(0, .ref (adr w 128)), (2, .int x1), (3, .int i2), (4, .int 0)]) [1, 2, 3, 0] rfl ?_
        refine jo_loop (X := Mem) (fun (z7 : (Mem × Int32)) => z7.1) (fun (z7 : (Mem × Int32)) => [(0, .ref (adr w 128)), (2, .int x1), (3, .int i2), (4, .int z7.2)]) (body := (fun (z7 : (Mem × Int32)) => l_X1_grow_38 z7.1 z7.2)) (fun F38_7 hF38_7 s => ?_) (σ4, 0)
        obtain ⟨σ6, i7⟩ := s
        show JO w mu_X1_grow vV σ6 [(0, .ref (adr w 128)), (2, .int x1), (3, .int i2), (4, .int i7)] [] 38 (l_X1_grow_38 σ6 i7) _
        unfold l_X1_grow_38
        refine jo_iload (pc := 38) 3 rfl dX1_grow_38 ?_
        refine jo_aload_n (pc := 40) 0 rfl dX1_grow_40 rfl ?_
        refine jo_getrE (pc := 41) ok_1_0 (ik_128 hw) rf_128_0 gw_431 dX1_grow_41 ?_
        refine jo_getrE (pc := 44) ok_4_0 (ik_40 hw) rf_40_0 gw_301 dX1_grow_44 ?_
        refine jo_getf (pc := 47) ok_6_0 (ik_41 hw) gw_197 dX1_grow_47 (fun v8 => ?_)
        refine jo_icmp_ge (pc := 50) dX1_grow_50 (tgt := 90) rfl ?_ ?_
        · refine jo_lv (lv' := [(0, .ref (adr w 128)), (2, .int x1), (3, .int i2)]) [0, 1, 2] rfl ?_
          exact jo_leaf (by rfl) (h90_5 σ6)
        · refine jo_aload_n (pc := 53) 0 rfl dX1_grow_53 rfl ?_
          refine jo_getrE (pc := 54) ok_1_0 (ik_128 hw) rf_128_0 gw_431 dX1_grow_54 ?_
          refine jo_getrE (pc := 57) ok_4_0 (ik_40 hw) rf_40_0 gw_301 dX1_grow_57 ?_
          refine jo_getrE (pc := 60) ok_6_1 (ik_41 hw) rf_41_1 gw_202 dX1_grow_60 ?_
          refine jo_iload (pc := 63) 3 rfl dX1_grow_63 ?_
          refine jo_iald (pc := 65) (ik_42 hw) dX1_grow_65 (fun v9 => ?_)
          refine jo_iconst (pc := 66) dX1_grow_66 (ic_i_1) ?_
          refine jo_icmp_ne (pc := 67) dX1_grow_67 (tgt := 90) rfl ?_ ?_
          · refine jo_lv (lv' := [(0, .ref (adr w 128)), (2, .int x1), (3, .int i2)]) [0, 1, 2] rfl ?_
            exact jo_leaf (by rfl) (h90_5 σ6)
          · refine jo_aload_n (pc := 70) 0 rfl dX1_grow_70 rfl ?_
            refine jo_iload (pc := 71) 3 rfl dX1_grow_71 ?_
            refine jo_iconst (pc := 73) dX1_grow_73 (ic_i_1) ?_
            refine jo_cV_V_i (pc := 74) (μ' := mu_X1_growBy) (fx := f_X1_growBy σ6 i7 1) (As := [.int i7, .int 1]) (c_X1_growBy hw) (ok_X1_growBy) (ltb rfl) (all3 gw_1106 gw_1108 gw_43) (ik_128 hw) (by decide) (q := (RX1, TX1, 10)) rfl rfl rfl rfl (Nat.le_of_ble_eq_true rfl) dX1_grow_74 (fun σ10 => ?_)
            refine jo_aload_n (pc := 77) 0 rfl dX1_grow_77 rfl ?_
            refine jo_iload (pc := 78) 3 rfl dX1_grow_78 ?_
            refine jo_iconst (pc := 80) dX1_grow_80 (ic_i_m1) ?_
            refine jo_cV_V_i (pc := 81) (μ' := mu_X1_growBy) (fx := f_X1_growBy σ10 i7 (-1)) (As := [.int i7, .int (-1)]) (c_X1_growBy hw) (ok_X1_growBy) (ltb rfl) (all3 gw_1106 gw_1108 gw_43) (ik_128 hw) (by decide) (q := (RX1, TX1, 10)) rfl rfl rfl rfl (Nat.le_of_ble_eq_true rfl) dX1_grow_81 (fun σ11 => ?_)
            refine jo_iinc (pc := 84) (lv' := [(4, .int (i7 + 1)), (0, .ref (adr w 128)), (2, .int x1), (3, .int i2)]) 3 rfl dX1_grow_84 (congrArg (fun z => i7 + z) (ic_i_1)) (ltb rfl) rfl ?_
            refine jo_goto (pc := 87) dX1_grow_87 (tgt := 38) rfl ?_
            refine jo_lv (lv' := [(0, .ref (adr w 128)), (2, .int x1), (3, .int i2), (4, .int (i7 + 1))]) [1, 2, 3, 0] rfl ?_
            exact jo_leaf (by rfl) (hF38_7 (σ11, i7 + 1))
theorem c_X1_grow {w : Wd} (hw : WOK w) {σ : Mem} {x0 : Int32} {x1 : Int32} : ∀ σ', f_X1_grow σ x0 x1 = some σ' → MC w mu_X1_grow none [.ref (adr w 128), .int x0, .int x1] σ σ' := mc_ofV ok_X1_grow rfl (Nat.le_of_ble_eq_true rfl) (t_X1_grow hw)
abbrev mu_X1_find : MD := (yX1_find, cX1_find, 4, none, 5)
theorem ok_X1_find : MOK mu_X1_find 0 := ⟨gw_1085, gw_167, (by decide +kernel : plainFor yX1_find = true), ⟨(by decide +kernel : yX1_find.cls ≠ "java/lang/invoke/MethodHandle"), (by decide +kernel : yX1_find.cls ≠ "java/lang/invoke/VarHandle"), (by decide +kernel : (parseMethodDescriptor yX1_find.desc).map (fun d => d.parameters.length) = some 0)⟩, Nat.le_of_ble_eq_true rfl⟩
noncomputable def j_X1_find_104 (i13 : Int32) (v14 : Int32) (σ15 : Mem) (i17 : Int32) : Option ((Mem × Int32 × Int32) ⊕ Mem) :=
  pI σ15 129 i13 i17 (fun (σ18 : Mem) => some (Sum.inl (σ18, v14, i13 + 1)))
noncomputable def l_X1_find_65 (σ11 : Mem) (i12 : Int32) (i13 : Int32) : Option ((Mem × Int32 × Int32) ⊕ Mem) :=
  if 4 < i13 then (some (Sum.inr σ11)) else (gF σ11 128 6 (fun (v14 : Int32) => (f_X1_grow σ11 i12 v14).bind (fun (σ15 : Mem) => gF σ15 128 6 (fun (v16 : Int32) => (if v16 ≤ 1000 then (gF σ15 128 6 (fun (v19 : Int32) => some v19)) else (some (-1)) : Option Int32).bind (fun (z17 : Int32) => j_X1_find_104 i13 v14 σ15 z17)))))
noncomputable def f_X1_find (σ : Mem) : Option Mem :=
  gF σ 128 2 (fun (v1 : Int32) => gF σ 40 4 (fun (v2 : Int32) => if v1 = v2 then (some σ) else (gF σ 40 4 (fun (v3 : Int32) => pF σ 128 2 v3 (fun (σ4 : Mem) => (f_J7_fill_53178 σ4 131 0).bind (fun (σ5 : Mem) => pF σ5 128 6 0 (fun (σ6 : Mem) => (f_J7_fill_d0a16 σ6 134 0).bind (fun (σ7 : Mem) => (f_X1_keepMade σ7).bind (fun (σ8 : Mem) => gF σ8 128 6 (fun (v9 : Int32) => pI σ8 129 0 v9 (fun (σ10 : Mem) => loopO (fun (z13 : (Mem × Int32 × Int32)) => l_X1_find_65 z13.1 z13.2.1 z13.2.2) (σ10, 0, 1))))))))))))
theorem t_X1_find {w : Wd} (hw : WOK w) {σ : Mem} : JO w mu_X1_find vV σ [(0, .ref (adr w 128))] [] 0 (f_X1_find σ) (fun z => some ((), z)) := by
  unfold f_X1_find
  refine jo_aload_n (pc := 0) 0 rfl dX1_find_0 rfl ?_
  refine jo_getf (pc := 1) ok_1_2 (ik_128 hw) gw_433 dX1_find_1 (fun v1 => ?_)
  refine jo_aload_n (pc := 4) 0 rfl dX1_find_4 rfl ?_
  refine jo_getrE (pc := 5) ok_1_0 (ik_128 hw) rf_128_0 gw_431 dX1_find_5 ?_
  refine jo_getf (pc := 8) ok_4_4 (ik_40 hw) gw_310 dX1_find_8 (fun v2 => ?_)
  refine jo_icmp_ne (pc := 11) dX1_find_11 (tgt := 15) rfl ?_ ?_
  · refine jo_aload_n (pc := 15) 0 rfl dX1_find_15 rfl ?_
    refine jo_aload_n (pc := 16) 0 rfl dX1_find_16 rfl ?_
    refine jo_getrE (pc := 17) ok_1_0 (ik_128 hw) rf_128_0 gw_431 dX1_find_17 ?_
    refine jo_getf (pc := 20) ok_4_4 (ik_40 hw) gw_310 dX1_find_20 (fun v3 => ?_)
    refine jo_putf (pc := 23) ok_1_2 okp_1_2 (ik_128 hw) gw_433 dX1_find_23 (fun σ4 => ?_)
    refine jo_aload_n (pc := 26) 0 rfl dX1_find_26 rfl ?_
    refine jo_getrE (pc := 27) ok_1_5 (ik_128 hw) rf_128_5 gw_436 dX1_find_27 ?_
    refine jo_iconst (pc := 30) dX1_find_30 (ic_i_0) ?_
    refine jo_cS_V_i (pc := 31) (μ' := mu_J7_fill_53178) (fx := f_J7_fill_53178 σ4 131 0) (As := [.ref (adr w 131), .int 0]) (c_J7_fill_53178 hw (ik_131 hw)) (ok_J7_fill_53178) (ltb rfl) (all2 gw_1086 gw_521) rfl rfl (Nat.le_of_ble_eq_true rfl) dX1_find_31 (fun σ5 => ?_)
    refine jo_aload_n (pc := 34) 0 rfl dX1_find_34 rfl ?_
    refine jo_iconst (pc := 35) dX1_find_35 (ic_i_0) ?_
    refine jo_putf (pc := 36) ok_1_6 okp_1_6 (ik_128 hw) gw_437 dX1_find_36 (fun σ6 => ?_)
    refine jo_aload_n (pc := 39) 0 rfl dX1_find_39 rfl ?_
    refine jo_getrE (pc := 40) ok_1_9 (ik_128 hw) rf_128_9 gw_440 dX1_find_40 ?_
    refine jo_lconst (pc := 43) dX1_find_43 (ic_l_0) ?_
    refine jo_cS_V_i (pc := 44) (μ' := mu_J7_fill_d0a16) (fx := f_J7_fill_d0a16 σ6 134 0) (As := [.ref (adr w 134), .long 0]) (c_J7_fill_d0a16 hw (ik_134 hw)) (ok_J7_fill_d0a16) (ltb rfl) (all2 gw_1087 gw_715) rfl rfl (Nat.le_of_ble_eq_true rfl) dX1_find_44 (fun σ7 => ?_)
    refine jo_aload_n (pc := 47) 0 rfl dX1_find_47 rfl ?_
    refine jo_cV_V_i (pc := 48) (μ' := mu_X1_keepMade) (fx := f_X1_keepMade σ7) (As := []) (c_X1_keepMade hw) (ok_X1_keepMade) (ltb rfl) (all3 gw_1088 gw_1090 gw_39) (ik_128 hw) (by decide) (q := (RX1, TX1, 10)) rfl rfl rfl rfl (Nat.le_of_ble_eq_true rfl) dX1_find_48 (fun σ8 => ?_)
    refine jo_aload_n (pc := 51) 0 rfl dX1_find_51 rfl ?_
    refine jo_getrE (pc := 52) ok_1_3 (ik_128 hw) rf_128_3 gw_434 dX1_find_52 ?_
    refine jo_iconst (pc := 55) dX1_find_55 (ic_i_0) ?_
    refine jo_aload_n (pc := 56) 0 rfl dX1_find_56 rfl ?_
    refine jo_getf (pc := 57) ok_1_6 (ik_128 hw) gw_437 dX1_find_57 (fun v9 => ?_)
    refine jo_iast (pc := 60) (ik_129 hw) dX1_find_60 (fun σ10 => ?_)
    refine jo_iconst (pc := 61) dX1_find_61 (ic_i_0) ?_
    refine jo_istore_n (pc := 62) (lv' := [(1, .int 0), (0, .ref (adr w 128))]) dX1_find_62 rfl (ltb rfl) rfl ?_
    refine jo_iconst (pc := 63) dX1_find_63 (ic_i_1) ?_
    refine jo_istore_n (pc := 64) (lv' := [(2, .int 1), (1, .int 0), (0, .ref (adr w 128))]) dX1_find_64 rfl (ltb rfl) rfl ?_
    refine jo_lv (lv' := [(0, .ref (adr w 128)), (1, .int 0), (2, .int 1)]) [2, 1, 0] rfl ?_
    refine jo_loop (X := Mem) (fun (z13 : (Mem × Int32 × Int32)) => z13.1) (fun (z13 : (Mem × Int32 × Int32)) => [(0, .ref (adr w 128)), (1, .int z13.2.1), (2, .int z13.2.2)]) (body := (fun (z13 : (Mem × Int32 × Int32)) => l_X1_find_65 z13.1 z13.2.1 z13.2.2)) (fun F65_13 hF65_13 s => ?_) (σ10, 0, 1)
    obtain ⟨σ11, i12, i13⟩ := s
    show JO w mu_X1_find vV σ11 [(0, .ref (adr w 128)), (1, .int i12), (2, .int i13)] [] 65 (l_X1_find_65 σ11 i12 i13) _
    unfold l_X1_find_65
    refine jo_iload_n (pc := 65) 2 rfl dX1_find_65 rfl ?_
    refine jo_iconst (pc := 66) dX1_find_66 (ic_i_4) ?_
    refine jo_icmp_gt (pc := 67) dX1_find_67 (tgt := 113) rfl ?_ ?_
    · exact jo_return (pc := 113) rfl rfl dX1_find_113
    · refine jo_aload_n (pc := 70) 0 rfl dX1_find_70 rfl ?_
      refine jo_getf (pc := 71) ok_1_6 (ik_128 hw) gw_437 dX1_find_71 (fun v14 => ?_)
      refine jo_istore_n (pc := 74) (lv' := [(3, .int v14), (0, .ref (adr w 128)), (1, .int i12), (2, .int i13)]) dX1_find_74 rfl (ltb rfl) rfl ?_
      refine jo_aload_n (pc := 75) 1 rfl dX1_find_75 rfl ?_
      refine jo_iload_n (pc := 76) 2 rfl dX1_find_76 rfl ?_
      refine jo_iload_n (pc := 77) 0 rfl dX1_find_77 rfl ?_
      refine jo_cV_V_i (pc := 78) (μ' := mu_X1_grow) (fx := f_X1_grow σ11 i12 v14) (As := [.int i12, .int v14]) (c_X1_grow hw) (ok_X1_grow) (ltb rfl) (all3 gw_1102 gw_1104 gw_42) (ik_128 hw) (by decide) (q := (RX1, TX1, 10)) rfl rfl rfl rfl (Nat.le_of_ble_eq_true rfl) dX1_find_78 (fun σ15 => ?_)
      refine jo_aload_n (pc := 81) 1 rfl dX1_find_81 rfl ?_
      refine jo_getrE (pc := 82) ok_1_3 (ik_128 hw) rf_128_3 gw_434 dX1_find_82 ?_
      refine jo_iload_n (pc := 85) 3 rfl dX1_find_85 rfl ?_
      refine jo_aload_n (pc := 86) 1 rfl dX1_find_86 rfl ?_
      refine jo_getf (pc := 87) ok_1_6 (ik_128 hw) gw_437 dX1_find_87 (fun v16 => ?_)
      refine jo_sipush (pc := 90) dX1_find_90 (ic_s_1000) ?_
      refine jo_join1 (S := Int32) (fun (z17 : Int32) => σ15) (fun (z17 : Int32) => [(3, .int v14), (0, .ref (adr w 128)), (2, .int i13)]) (fun (z17 : Int32) => [.int z17, .int i13, .ref (adr w 129)]) 104 ?_ (fun h104_17 => ?_)
      · intro i17
        show JO w mu_X1_find vV σ15 [(3, .int v14), (0, .ref (adr w 128)), (2, .int i13)] [.int i17, .int i13, .ref (adr w 129)] 104 (j_X1_find_104 i13 v14 σ15 i17) _
        unfold j_X1_find_104
        refine jo_iast (pc := 104) (ik_129 hw) dX1_find_104 (fun σ18 => ?_)
        refine jo_iload_n (pc := 105) 0 rfl dX1_find_105 rfl ?_
        refine jo_istore_n (pc := 106) (lv' := [(1, .int v14), (3, .int v14), (0, .ref (adr w 128)), (2, .int i13)]) dX1_find_106 rfl (ltb rfl) rfl ?_
        refine jo_iinc (pc := 107) (lv' := [(2, .int (i13 + 1)), (1, .int v14), (3, .int v14), (0, .ref (adr w 128))]) 3 rfl dX1_find_107 (congrArg (fun z => i13 + z) (ic_i_1)) (ltb rfl) rfl ?_
        refine jo_goto (pc := 110) dX1_find_110 (tgt := 65) rfl ?_
        refine jo_lv (lv' := [(0, .ref (adr w 128)), (1, .int v14), (2, .int (i13 + 1))]) [3, 1, 0] rfl ?_
        exact jo_leaf (by rfl) (hF65_13 (σ18, v14, i13 + 1))
      · refine jo_icmp_le (pc := 93) dX1_find_93 (tgt := 100) rfl ?_ ?_
        · refine jo_aload_n (pc := 100) 1 rfl dX1_find_100 rfl ?_
          refine jo_getf (pc := 101) ok_1_6 (ik_128 hw) gw_437 dX1_find_101 (fun v19 => ?_)
          refine jo_lv (lv' := [(3, .int v14), (0, .ref (adr w 128)), (2, .int i13)]) [0, 1, 3] rfl ?_
          exact jo_leaf (by rfl) (h104_17 v19)
        · refine jo_iconst (pc := 96) dX1_find_96 (ic_i_m1) ?_
          refine jo_goto (pc := 97) dX1_find_97 (tgt := 104) rfl ?_
          refine jo_lv (lv' := [(3, .int v14), (0, .ref (adr w 128)), (2, .int i13)]) [0, 1, 3] rfl ?_
          exact jo_leaf (by rfl) (h104_17 (-1))
  · exact jo_return (pc := 14) rfl rfl dX1_find_14
theorem c_X1_find {w : Wd} (hw : WOK w) {σ : Mem} : ∀ σ', f_X1_find σ = some σ' → MC w mu_X1_find none [.ref (adr w 128)] σ σ' := mc_ofV ok_X1_find rfl (Nat.le_of_ble_eq_true rfl) (t_X1_find hw)
abbrev mu_X1_sizeOf : MD := (yX1_sizeOf, cX1_sizeOf, 2, some .int, 6)
theorem ok_X1_sizeOf : MOK mu_X1_sizeOf 1 := ⟨gw_1239, gw_167, (by decide +kernel : plainFor yX1_sizeOf = true), ⟨(by decide +kernel : yX1_sizeOf.cls ≠ "java/lang/invoke/MethodHandle"), (by decide +kernel : yX1_sizeOf.cls ≠ "java/lang/invoke/VarHandle"), (by decide +kernel : (parseMethodDescriptor yX1_sizeOf.desc).map (fun d => d.parameters.length) = some 1)⟩, Nat.le_of_ble_eq_true rfl⟩
noncomputable def j_X1_sizeOf_22 (σ1 : Mem) : Option (Int32 × Mem) :=
  some ((-1), σ1)
noncomputable def f_X1_sizeOf (σ : Mem) (x0 : Int32) : Option (Int32 × Mem) :=
  (f_X1_find σ).bind (fun (σ1 : Mem) => (if x0 < 0 then (some (Sum.inl ())) else (if 4 < x0 then (some (Sum.inl ())) else (gI σ1 129 x0 (fun (v2 : Int32) => some (Sum.inr (v2, σ1))))) : Option (Unit ⊕ (Int32 × Mem))).bind (Sum.elim (fun (z1 : Unit) => j_X1_sizeOf_22 σ1) some))
theorem t_X1_sizeOf {w : Wd} (hw : WOK w) {σ : Mem} {x0 : Int32} : JO w mu_X1_sizeOf vI σ [(0, .ref (adr w 128)), (1, .int x0)] [] 0 (f_X1_sizeOf σ x0) some := by
  unfold f_X1_sizeOf
  refine jo_aload_n (pc := 0) 0 rfl dX1_sizeOf_0 rfl ?_
  refine jo_cV_V_i (pc := 1) (μ' := mu_X1_find) (fx := f_X1_find σ) (As := []) (c_X1_find hw) (ok_X1_find) (ltb rfl) (all3 gw_1082 gw_1084 gw_38) (ik_128 hw) (by decide) (q := (RX1, TX1, 10)) rfl rfl rfl rfl (Nat.le_of_ble_eq_true rfl) dX1_sizeOf_1 (fun σ1 => ?_)
  refine jo_iload_n (pc := 4) 1 rfl dX1_sizeOf_4 rfl ?_
  refine jo_joinS (S := Unit) (fun (z1 : Unit) => σ1) (fun (z1 : Unit) => []) (fun (z1 : Unit) => []) 22 ?_ (fun h22_1 => ?_)
  · intro _
    show JO w mu_X1_sizeOf vI σ1 [] [] 22 (j_X1_sizeOf_22 σ1) _
    unfold j_X1_sizeOf_22
    refine jo_iconst (pc := 22) dX1_sizeOf_22 (ic_i_m1) ?_
    exact jo_ireturn (pc := 23) rfl rfl dX1_sizeOf_23
  · refine jo_if_lt (pc := 5) dX1_sizeOf_5 (tgt := 22) rfl ?_ ?_
    · refine jo_lv (lv' := []) [] rfl ?_
      exact jo_leaf (by rfl) (h22_1 ())
    · refine jo_iload_n (pc := 8) 1 rfl dX1_sizeOf_8 rfl ?_
      refine jo_iconst (pc := 9) dX1_sizeOf_9 (ic_i_4) ?_
      refine jo_icmp_gt (pc := 10) dX1_sizeOf_10 (tgt := 22) rfl ?_ ?_
      · refine jo_lv (lv' := []) [] rfl ?_
        exact jo_leaf (by rfl) (h22_1 ())
      · refine jo_aload_n (pc := 13) 0 rfl dX1_sizeOf_13 rfl ?_
        refine jo_getrE (pc := 14) ok_1_3 (ik_128 hw) rf_128_3 gw_434 dX1_sizeOf_14 ?_
        refine jo_iload_n (pc := 17) 1 rfl dX1_sizeOf_17 rfl ?_
        refine jo_iald (pc := 18) (ik_129 hw) dX1_sizeOf_18 (fun v2 => ?_)
        refine jo_goto (pc := 19) dX1_sizeOf_19 (tgt := 23) rfl ?_
        exact jo_ireturn (pc := 23) rfl rfl dX1_sizeOf_23
theorem c_X1_sizeOf {w : Wd} (hw : WOK w) {σ : Mem} {x0 : Int32} : ∀ r σ', f_X1_sizeOf σ x0 = some (r, σ') → MC w mu_X1_sizeOf (vI r) [.ref (adr w 128), .int x0] σ σ' := mc_of ok_X1_sizeOf rfl (Nat.le_of_ble_eq_true rfl) (t_X1_sizeOf hw)
abbrev mu_X1_levelOf : MD := (yX1_levelOf, cX1_levelOf, 4, some .int, 6)
theorem ok_X1_levelOf : MOK mu_X1_levelOf 1 := ⟨gw_1081, gw_167, (by decide +kernel : plainFor yX1_levelOf = true), ⟨(by decide +kernel : yX1_levelOf.cls ≠ "java/lang/invoke/MethodHandle"), (by decide +kernel : yX1_levelOf.cls ≠ "java/lang/invoke/VarHandle"), (by decide +kernel : (parseMethodDescriptor yX1_levelOf.desc).map (fun d => d.parameters.length) = some 1)⟩, Nat.le_of_ble_eq_true rfl⟩
noncomputable def l_X1_levelOf_19 (σ1 : Mem) (v4 : Int32) (i5 : Int32) : Option (Int32 ⊕ (Int32 × Mem)) :=
  if 4 < i5 then (some (Sum.inr ((-1), σ1))) else (if v4 < 0 then (some (Sum.inr ((-1), σ1))) else (gI σ1 129 i5 (fun (v6 : Int32) => if v6 = (-1) then (some (Sum.inr ((-1), σ1))) else (gI σ1 129 i5 (fun (v7 : Int32) => if v7 ≤ v4 then (some (Sum.inl (i5 + 1))) else (some (Sum.inr (i5, σ1))))))))
noncomputable def f_X1_levelOf (σ : Mem) (x0 : Nat) : Option (Int32 × Mem) :=
  (f_X1_find σ).bind (fun (σ1 : Mem) => (f_X1_slotOf σ1 x0).bind (fun (v2 : Int32) => gI σ1 131 v2 (fun (v3 : Int32) => bd (v3 - 1) (fun (v4 : Int32) => loopO (fun (z5 : Int32) => l_X1_levelOf_19 σ1 v4 z5) 0))))
theorem t_X1_levelOf {w : Wd} (hw : WOK w) {σ : Mem} {x0 : Nat} (hx0 : isk w x0 13) : JO w mu_X1_levelOf vI σ [(0, .ref (adr w 128)), (1, .ref (adr w x0))] [] 0 (f_X1_levelOf σ x0) some := by
  unfold f_X1_levelOf
  refine jo_aload_n (pc := 0) 0 rfl dX1_levelOf_0 rfl ?_
  refine jo_cV_V_i (pc := 1) (μ' := mu_X1_find) (fx := f_X1_find σ) (As := []) (c_X1_find hw) (ok_X1_find) (ltb rfl) (all3 gw_1082 gw_1084 gw_38) (ik_128 hw) (by decide) (q := (RX1, TX1, 10)) rfl rfl rfl rfl (Nat.le_of_ble_eq_true rfl) dX1_levelOf_1 (fun σ1 => ?_)
  refine jo_aload_n (pc := 4) 0 rfl dX1_levelOf_4 rfl ?_
  refine jo_getrE (pc := 5) ok_1_5 (ik_128 hw) rf_128_5 gw_436 dX1_levelOf_5 ?_
  refine jo_aload_n (pc := 8) 0 rfl dX1_levelOf_8 rfl ?_
  refine jo_aload_n (pc := 9) 1 rfl dX1_levelOf_9 rfl ?_
  refine jo_cV_I_p (pc := 10) (μ' := mu_X1_slotOf) (fx := f_X1_slotOf σ1 x0) (As := [.ref (adr w x0)]) (c_X1_slotOf hw (hx0)) (ok_X1_slotOf) (ltb rfl) (all3 gw_1092 gw_1094 gw_40) (ik_128 hw) (by decide) (q := (RX1, TX1, 10)) rfl rfl rfl rfl (Nat.le_of_ble_eq_true rfl) dX1_levelOf_10 (fun v2 => ?_)
  refine jo_iald (pc := 13) (ik_131 hw) dX1_levelOf_13 (fun v3 => ?_)
  refine jo_iconst (pc := 14) dX1_levelOf_14 (ic_i_1) ?_
  refine jo_isub (pc := 15) dX1_levelOf_15 ?_
  refine jo_bd ?_
  refine jo_istore_n (pc := 16) (lv' := [(2, .int (v3 - 1)), (0, .ref (adr w 128)), (1, .ref (adr w x0))]) dX1_levelOf_16 rfl (ltb rfl) rfl ?_
  generalize (v3 - 1) = v4
  refine jo_iconst (pc := 17) dX1_levelOf_17 (ic_i_0) ?_
  refine jo_istore_n (pc := 18) (lv' := [(3, .int 0), (2, .int v4), (0, .ref (adr w 128)), (1, .ref (adr w x0))]) dX1_levelOf_18 rfl (ltb rfl) rfl ?_
  refine jo_lv (lv' := [(2, .int v4), (0, .ref (adr w 128)), (3, .int 0)]) [1, 2, 0] rfl ?_
  refine jo_loop (X := (Int32 × Mem)) (fun (z5 : Int32) => σ1) (fun (z5 : Int32) => [(2, .int v4), (0, .ref (adr w 128)), (3, .int z5)]) (body := (fun (z5 : Int32) => l_X1_levelOf_19 σ1 v4 z5)) (fun F19_5 hF19_5 s => ?_) 0
  revert s; intro i5
  show JO w mu_X1_levelOf vI σ1 [(2, .int v4), (0, .ref (adr w 128)), (3, .int i5)] [] 19 (l_X1_levelOf_19 σ1 v4 i5) _
  unfold l_X1_levelOf_19
  refine jo_iload_n (pc := 19) 2 rfl dX1_levelOf_19 rfl ?_
  refine jo_iconst (pc := 20) dX1_levelOf_20 (ic_i_4) ?_
  refine jo_icmp_gt (pc := 21) dX1_levelOf_21 (tgt := 56) rfl ?_ ?_
  · refine jo_iconst (pc := 56) dX1_levelOf_56 (ic_i_m1) ?_
    exact jo_ireturn (pc := 57) rfl rfl dX1_levelOf_57
  · refine jo_iload_n (pc := 24) 0 rfl dX1_levelOf_24 rfl ?_
    refine jo_if_lt (pc := 25) dX1_levelOf_25 (tgt := 56) rfl ?_ ?_
    · refine jo_iconst (pc := 56) dX1_levelOf_56 (ic_i_m1) ?_
      exact jo_ireturn (pc := 57) rfl rfl dX1_levelOf_57
    · refine jo_aload_n (pc := 28) 1 rfl dX1_levelOf_28 rfl ?_
      refine jo_getrE (pc := 29) ok_1_3 (ik_128 hw) rf_128_3 gw_434 dX1_levelOf_29 ?_
      refine jo_iload_n (pc := 32) 2 rfl dX1_levelOf_32 rfl ?_
      refine jo_iald (pc := 33) (ik_129 hw) dX1_levelOf_33 (fun v6 => ?_)
      refine jo_iconst (pc := 34) dX1_levelOf_34 (ic_i_m1) ?_
      refine jo_icmp_eq (pc := 35) dX1_levelOf_35 (tgt := 56) rfl ?_ ?_
      · refine jo_iconst (pc := 56) dX1_levelOf_56 (ic_i_m1) ?_
        exact jo_ireturn (pc := 57) rfl rfl dX1_levelOf_57
      · refine jo_iload_n (pc := 38) 0 rfl dX1_levelOf_38 rfl ?_
        refine jo_aload_n (pc := 39) 1 rfl dX1_levelOf_39 rfl ?_
        refine jo_getrE (pc := 40) ok_1_3 (ik_128 hw) rf_128_3 gw_434 dX1_levelOf_40 ?_
        refine jo_iload_n (pc := 43) 2 rfl dX1_levelOf_43 rfl ?_
        refine jo_iald (pc := 44) (ik_129 hw) dX1_levelOf_44 (fun v7 => ?_)
        refine jo_icmp_ge (pc := 45) dX1_levelOf_45 (tgt := 50) rfl ?_ ?_
        · refine jo_iinc (pc := 50) (lv' := [(3, .int (i5 + 1)), (2, .int v4), (0, .ref (adr w 128))]) 2 rfl dX1_levelOf_50 (congrArg (fun z => i5 + z) (ic_i_1)) (ltb rfl) rfl ?_
          refine jo_goto (pc := 53) dX1_levelOf_53 (tgt := 19) rfl ?_
          refine jo_lv (lv' := [(2, .int v4), (0, .ref (adr w 128)), (3, .int (i5 + 1))]) [1, 2, 0] rfl ?_
          exact jo_leaf (by rfl) (hF19_5 (i5 + 1))
        · refine jo_iload_n (pc := 48) 2 rfl dX1_levelOf_48 rfl ?_
          exact jo_ireturn (pc := 49) rfl rfl dX1_levelOf_49
theorem c_X1_levelOf {w : Wd} (hw : WOK w) {σ : Mem} {x0 : Nat} (hx0 : isk w x0 13) : ∀ r σ', f_X1_levelOf σ x0 = some (r, σ') → MC w mu_X1_levelOf (vI r) [.ref (adr w 128), .ref (adr w x0)] σ σ' := mc_of ok_X1_levelOf rfl (Nat.le_of_ble_eq_true rfl) (t_X1_levelOf hw hx0)
abbrev mu_X2_begin : MD := (yX2_begin, cX2_begin, 1, none, 0)
theorem ok_X2_begin : MOK mu_X2_begin 0 := ⟨gw_559, gw_161, (by decide +kernel : plainFor yX2_begin = true), ⟨(by decide +kernel : yX2_begin.cls ≠ "java/lang/invoke/MethodHandle"), (by decide +kernel : yX2_begin.cls ≠ "java/lang/invoke/VarHandle"), (by decide +kernel : (parseMethodDescriptor yX2_begin.desc).map (fun d => d.parameters.length) = some 0)⟩, Nat.le_of_ble_eq_true rfl⟩
noncomputable def f_X2_begin (σ : Mem) : Option Mem :=
  pF σ 35 1 0 (fun (σ1 : Mem) => some σ1)
theorem t_X2_begin {w : Wd} (hw : WOK w) {σ : Mem} : JO w mu_X2_begin vV σ [(0, .ref (adr w 35))] [] 0 (f_X2_begin σ) (fun z => some ((), z)) := by
  unfold f_X2_begin
  refine jo_aload_n (pc := 0) 0 rfl dX2_begin_0 rfl ?_
  refine jo_iconst (pc := 1) dX2_begin_1 (ic_i_0) ?_
  refine jo_putf (pc := 2) ok_2_1 okp_2_1 (ik_35 hw) gw_241 dX2_begin_2 (fun σ1 => ?_)
  exact jo_return (pc := 5) rfl rfl dX2_begin_5
theorem c_X2_begin {w : Wd} (hw : WOK w) {σ : Mem} : ∀ σ', f_X2_begin σ = some σ' → MC w mu_X2_begin none [.ref (adr w 35)] σ σ' := mc_ofV ok_X2_begin rfl (Nat.le_of_ble_eq_true rfl) (t_X2_begin hw)
abbrev mu_X2_add : MD := (yX2_add, cX2_add, 2, none, 0)
theorem ok_X2_add : MOK mu_X2_add 1 := ⟨gw_563, gw_161, (by decide +kernel : plainFor yX2_add = true), ⟨(by decide +kernel : yX2_add.cls ≠ "java/lang/invoke/MethodHandle"), (by decide +kernel : yX2_add.cls ≠ "java/lang/invoke/VarHandle"), (by decide +kernel : (parseMethodDescriptor yX2_add.desc).map (fun d => d.parameters.length) = some 1)⟩, Nat.le_of_ble_eq_true rfl⟩
noncomputable def f_X2_add (σ : Mem) (x0 : Int32) : Option Mem :=
  gF σ 35 1 (fun (v1 : Int32) => if 64 ≤ v1 then (some σ) else (if x0 < 0 then (some σ) else (if 6 ≤ x0 then (some σ) else (gF σ 35 1 (fun (v2 : Int32) => pI σ 36 v2 x0 (fun (σ3 : Mem) => gF σ3 35 1 (fun (v4 : Int32) => pF σ3 35 1 (v4 + 1) (fun (σ5 : Mem) => some σ5))))))))
theorem t_X2_add {w : Wd} (hw : WOK w) {σ : Mem} {x0 : Int32} : JO w mu_X2_add vV σ [(0, .ref (adr w 35)), (1, .int x0)] [] 0 (f_X2_add σ x0) (fun z => some ((), z)) := by
  unfold f_X2_add
  refine jo_aload_n (pc := 0) 0 rfl dX2_add_0 rfl ?_
  refine jo_getf (pc := 1) ok_2_1 (ik_35 hw) gw_241 dX2_add_1 (fun v1 => ?_)
  refine jo_bipush (pc := 4) dX2_add_4 (ic_b_64) ?_
  refine jo_icmp_ge (pc := 6) dX2_add_6 (tgt := 39) rfl ?_ ?_
  · exact jo_return (pc := 39) rfl rfl dX2_add_39
  · refine jo_iload_n (pc := 9) 1 rfl dX2_add_9 rfl ?_
    refine jo_if_lt (pc := 10) dX2_add_10 (tgt := 39) rfl ?_ ?_
    · exact jo_return (pc := 39) rfl rfl dX2_add_39
    · refine jo_iload_n (pc := 13) 1 rfl dX2_add_13 rfl ?_
      refine jo_bipush (pc := 14) dX2_add_14 (ic_b_6) ?_
      refine jo_icmp_ge (pc := 16) dX2_add_16 (tgt := 39) rfl ?_ ?_
      · exact jo_return (pc := 39) rfl rfl dX2_add_39
      · refine jo_aload_n (pc := 19) 0 rfl dX2_add_19 rfl ?_
        refine jo_getrE (pc := 20) ok_2_0 (ik_35 hw) rf_35_0 gw_240 dX2_add_20 ?_
        refine jo_aload_n (pc := 23) 0 rfl dX2_add_23 rfl ?_
        refine jo_getf (pc := 24) ok_2_1 (ik_35 hw) gw_241 dX2_add_24 (fun v2 => ?_)
        refine jo_iload_n (pc := 27) 1 rfl dX2_add_27 rfl ?_
        refine jo_iast (pc := 28) (ik_36 hw) dX2_add_28 (fun σ3 => ?_)
        refine jo_aload_n (pc := 29) 0 rfl dX2_add_29 rfl ?_
        refine jo_dup (pc := 30) dX2_add_30 rfl ?_
        refine jo_getf (pc := 31) ok_2_1 (ik_35 hw) gw_241 dX2_add_31 (fun v4 => ?_)
        refine jo_iconst (pc := 34) dX2_add_34 (ic_i_1) ?_
        refine jo_iadd (pc := 35) dX2_add_35 ?_
        refine jo_putf (pc := 36) ok_2_1 okp_2_1 (ik_35 hw) gw_241 dX2_add_36 (fun σ5 => ?_)
        exact jo_return (pc := 39) rfl rfl dX2_add_39
theorem c_X2_add {w : Wd} (hw : WOK w) {σ : Mem} {x0 : Int32} : ∀ σ', f_X2_add σ x0 = some σ' → MC w mu_X2_add none [.ref (adr w 35), .int x0] σ σ' := mc_ofV ok_X2_add rfl (Nat.le_of_ble_eq_true rfl) (t_X2_add hw)
abbrev mu_X6_isTail : MD := (yX6_isTail, cX6_isTail, 4, some .boolean, 0)
theorem ok_X6_isTail : MOK mu_X6_isTail 3 := ⟨gw_532, gw_160, (by decide +kernel : plainFor yX6_isTail = true), ⟨(by decide +kernel : yX6_isTail.cls ≠ "java/lang/invoke/MethodHandle"), (by decide +kernel : yX6_isTail.cls ≠ "java/lang/invoke/VarHandle"), (by decide +kernel : (parseMethodDescriptor yX6_isTail.desc).map (fun d => d.parameters.length) = some 3)⟩, Nat.le_of_ble_eq_true rfl⟩
noncomputable def j_X6_isTail_26  : Option Bool :=
  some false
noncomputable def f_X6_isTail (σ : Mem) (a : Nat) (x0 : Int32) (x1 : Int32) (x2 : Int32) : Option Bool :=
  (if x1 < 0 then (some (Sum.inl ())) else (if x0 ≤ x1 then (some (Sum.inl ())) else (if x2 ≤ x0 then (some (Sum.inl ())) else (gF σ a 0 (fun (v1 : Int32) => if v1 ≤ x2 then (some (Sum.inl ())) else (some (Sum.inr true)))))) : Option (Unit ⊕ Bool)).bind (Sum.elim (fun (z0 : Unit) => j_X6_isTail_26) some)
theorem t_X6_isTail {w : Wd} (hw : WOK w) {σ : Mem} {a : Nat} {x0 : Int32} {x1 : Int32} {x2 : Int32} (ha : isk w a 6) : JO w mu_X6_isTail vB σ [(0, .ref (adr w a)), (1, .int x0), (2, .int x1), (3, .int x2)] [] 0 (f_X6_isTail σ a x0 x1 x2) (fun z => some (z, σ)) := by
  unfold f_X6_isTail
  refine jo_iload_n (pc := 0) 2 rfl dX6_isTail_0 rfl ?_
  refine jo_joinS (S := Unit) (fun (z0 : Unit) => σ) (fun (z0 : Unit) => []) (fun (z0 : Unit) => []) 26 ?_ (fun h26_0 => ?_)
  · intro _
    show JO w mu_X6_isTail vB σ [] [] 26 (j_X6_isTail_26) _
    unfold j_X6_isTail_26
    refine jo_iconst (pc := 26) dX6_isTail_26 (ic_i_0) ?_
    exact jo_breturn (pc := 27) (b := false) rfl rfl dX6_isTail_27
  · refine jo_if_lt (pc := 1) dX6_isTail_1 (tgt := 26) rfl ?_ ?_
    · refine jo_lv (lv' := []) [] rfl ?_
      exact jo_leaf (by rfl) (h26_0 ())
    · refine jo_iload_n (pc := 4) 1 rfl dX6_isTail_4 rfl ?_
      refine jo_iload_n (pc := 5) 2 rfl dX6_isTail_5 rfl ?_
      refine jo_icmp_le (pc := 6) dX6_isTail_6 (tgt := 26) rfl ?_ ?_
      · refine jo_lv (lv' := []) [] rfl ?_
        exact jo_leaf (by rfl) (h26_0 ())
      · refine jo_iload_n (pc := 9) 3 rfl dX6_isTail_9 rfl ?_
        refine jo_iload_n (pc := 10) 1 rfl dX6_isTail_10 rfl ?_
        refine jo_icmp_le (pc := 11) dX6_isTail_11 (tgt := 26) rfl ?_ ?_
        · refine jo_lv (lv' := []) [] rfl ?_
          exact jo_leaf (by rfl) (h26_0 ())
        · refine jo_iload_n (pc := 14) 3 rfl dX6_isTail_14 rfl ?_
          refine jo_aload_n (pc := 15) 0 rfl dX6_isTail_15 rfl ?_
          refine jo_getf (pc := 16) ok_6_0 (ha) gw_193 dX6_isTail_16 (fun v1 => ?_)
          refine jo_icmp_ge (pc := 19) dX6_isTail_19 (tgt := 26) rfl ?_ ?_
          · refine jo_lv (lv' := []) [] rfl ?_
            exact jo_leaf (by rfl) (h26_0 ())
          · refine jo_iconst (pc := 22) dX6_isTail_22 (ic_i_1) ?_
            refine jo_goto (pc := 23) dX6_isTail_23 (tgt := 27) rfl ?_
            exact jo_breturn (pc := 27) (b := true) rfl rfl dX6_isTail_27
theorem c_X6_isTail {w : Wd} (hw : WOK w) {σ : Mem} {a : Nat} {x0 : Int32} {x1 : Int32} {x2 : Int32} (ha : isk w a 6) : ∀ r, f_X6_isTail σ a x0 x1 x2 = some r → MC w mu_X6_isTail (vB r) [.ref (adr w a), .int x0, .int x1, .int x2] σ σ := mc_ofP ok_X6_isTail rfl (Nat.le_of_ble_eq_true rfl) (t_X6_isTail hw ha)
abbrev mu_X6_read : MD := (yX6_read, cX6_read, 4, some .int, 1)
theorem ok_X6_read : MOK mu_X6_read 3 := ⟨gw_571, gw_160, (by decide +kernel : plainFor yX6_read = true), ⟨(by decide +kernel : yX6_read.cls ≠ "java/lang/invoke/MethodHandle"), (by decide +kernel : yX6_read.cls ≠ "java/lang/invoke/VarHandle"), (by decide +kernel : (parseMethodDescriptor yX6_read.desc).map (fun d => d.parameters.length) = some 3)⟩, Nat.le_of_ble_eq_true rfl⟩
noncomputable def f_X6_read (σ : Mem) (a : Nat) (x0 : Int32) (x1 : Int32) (x2 : Int32) : Option Int32 :=
  (f_X6_isTail σ a x0 x1 x2).bind (fun (b1 : Bool) => if b1 then gI σ (rf a 2) ((((x0 * 6) + x1) * 6) + x2) (fun (v2 : Int32) => some v2) else some 0)
theorem t_X6_read {w : Wd} (hw : WOK w) {σ : Mem} {a : Nat} {x0 : Int32} {x1 : Int32} {x2 : Int32} (ha : isk w a 6) : JO w mu_X6_read vI σ [(0, .ref (adr w a)), (1, .int x0), (2, .int x1), (3, .int x2)] [] 0 (f_X6_read σ a x0 x1 x2) (fun z => some (z, σ)) := by
  unfold f_X6_read
  refine jo_aload_n (pc := 0) 0 rfl dX6_read_0 rfl ?_
  refine jo_iload_n (pc := 1) 1 rfl dX6_read_1 rfl ?_
  refine jo_iload_n (pc := 2) 2 rfl dX6_read_2 rfl ?_
  refine jo_iload_n (pc := 3) 3 rfl dX6_read_3 rfl ?_
  refine jo_cV_Z_p (pc := 4) (μ' := mu_X6_isTail) (fx := f_X6_isTail σ a x0 x1 x2) (As := [.int x0, .int x1, .int x2]) (c_X6_isTail hw (ha)) (ok_X6_isTail) (ltb rfl) (all3 gw_529 gw_530 gw_531) (ha) (by decide) (q := (RX6, TX6, 3)) rfl rfl rfl rfl (Nat.le_of_ble_eq_true rfl) dX6_read_4 (fun b1 => ?_)
  refine jo_ifz_eq (pc := 7) dX6_read_7 (tgt := 29) rfl ?_ ?_
  · refine jo_iconst (pc := 29) dX6_read_29 (ic_i_0) ?_
    exact jo_ireturn (pc := 30) rfl rfl dX6_read_30
  · refine jo_aload_n (pc := 10) 0 rfl dX6_read_10 rfl ?_
    refine jo_getr (pc := 11) ok_6_2 (ha) gw_206 dX6_read_11 ?_
    refine jo_iload_n (pc := 14) 1 rfl dX6_read_14 rfl ?_
    refine jo_bipush (pc := 15) dX6_read_15 (ic_b_6) ?_
    refine jo_imul (pc := 17) dX6_read_17 ?_
    refine jo_iload_n (pc := 18) 2 rfl dX6_read_18 rfl ?_
    refine jo_iadd (pc := 19) dX6_read_19 ?_
    refine jo_bipush (pc := 20) dX6_read_20 (ic_b_6) ?_
    refine jo_imul (pc := 22) dX6_read_22 ?_
    refine jo_iload_n (pc := 23) 3 rfl dX6_read_23 rfl ?_
    refine jo_iadd (pc := 24) dX6_read_24 ?_
    refine jo_iald (pc := 25) (wf_6_2 hw (ha)) dX6_read_25 (fun v2 => ?_)
    refine jo_goto (pc := 26) dX6_read_26 (tgt := 30) rfl ?_
    exact jo_ireturn (pc := 30) rfl rfl dX6_read_30
theorem c_X6_read {w : Wd} (hw : WOK w) {σ : Mem} {a : Nat} {x0 : Int32} {x1 : Int32} {x2 : Int32} (ha : isk w a 6) : ∀ r, f_X6_read σ a x0 x1 x2 = some r → MC w mu_X6_read (vI r) [.ref (adr w a), .int x0, .int x1, .int x2] σ σ := mc_ofP ok_X6_read rfl (Nat.le_of_ble_eq_true rfl) (t_X6_read hw ha)
abbrev mu_X2_addTails : MD := (yX2_addTails, cX2_addTails, 6, none, 2)
theorem ok_X2_addTails : MOK mu_X2_addTails 3 := ⟨gw_567, gw_161, (by decide +kernel : plainFor yX2_addTails = true), ⟨(by decide +kernel : yX2_addTails.cls ≠ "java/lang/invoke/MethodHandle"), (by decide +kernel : yX2_addTails.cls ≠ "java/lang/invoke/VarHandle"), (by decide +kernel : (parseMethodDescriptor yX2_addTails.desc).map (fun d => d.parameters.length) = some 3)⟩, Nat.le_of_ble_eq_true rfl⟩
noncomputable def j_X2_addTails_41 (i3 : Int32) (σ6 : Mem) : Option ((Mem × Int32) ⊕ Mem) :=
  some (Sum.inl (σ6, i3 + 1))
noncomputable def l_X2_addTails_24 (i3 : Int32) (σ7 : Mem) (i8 : Int32) : Option ((Mem × Int32) ⊕ Mem) :=
  if i8 ≤ 0 then (some (Sum.inr σ7)) else ((f_X2_add σ7 i3).bind (fun (σ9 : Mem) => some (Sum.inl (σ9, i8 + (-1)))))
noncomputable def l_X2_addTails_5 (x0 : Nat) (x1 : Int32) (x2 : Int32) (σ2 : Mem) (i3 : Int32) : Option ((Mem × Int32) ⊕ Mem) :=
  gF σ2 x0 0 (fun (v4 : Int32) => if v4 ≤ i3 then (some (Sum.inr σ2)) else ((f_X6_read σ2 x0 x1 x2 i3).bind (fun (v5 : Int32) => (loopO (fun (z8 : (Mem × Int32)) => l_X2_addTails_24 i3 z8.1 z8.2) (σ2, v5) : Option Mem).bind (fun (z6 : Mem) => j_X2_addTails_41 i3 z6))))
noncomputable def f_X2_addTails (σ : Mem) (x0 : Nat) (x1 : Int32) (x2 : Int32) : Option Mem :=
  bd (x1 + 1) (fun (v1 : Int32) => loopO (fun (z3 : (Mem × Int32)) => l_X2_addTails_5 x0 x1 x2 z3.1 z3.2) (σ, v1))
theorem t_X2_addTails {w : Wd} (hw : WOK w) {σ : Mem} {x0 : Nat} {x1 : Int32} {x2 : Int32} (hx0 : isk w x0 6) : JO w mu_X2_addTails vV σ [(0, .ref (adr w 35)), (1, .ref (adr w x0)), (2, .int x1), (3, .int x2)] [] 0 (f_X2_addTails σ x0 x1 x2) (fun z => some ((), z)) := by
  unfold f_X2_addTails
  refine jo_iload_n (pc := 0) 2 rfl dX2_addTails_0 rfl ?_
  refine jo_iconst (pc := 1) dX2_addTails_1 (ic_i_1) ?_
  refine jo_iadd (pc := 2) dX2_addTails_2 ?_
  refine jo_bd ?_
  refine jo_istore (pc := 3) (lv' := [(4, .int (x1 + 1)), (0, .ref (adr w 35)), (1, .ref (adr w x0)), (2, .int x1), (3, .int x2)]) dX2_addTails_3 (ltb rfl) rfl ?_
  generalize (x1 + 1) = v1
  refine jo_lv (lv' := [(0, .ref (adr w 35)), (1, .ref (adr w x0)), (2, .int x1), (3, .int x2), (4, .int v1)]) [1, 2, 3, 4, 0] rfl ?_
  refine jo_loop (X := Mem) (fun (z3 : (Mem × Int32)) => z3.1) (fun (z3 : (Mem × Int32)) => [(0, .ref (adr w 35)), (1, .ref (adr w x0)), (2, .int x1), (3, .int x2), (4, .int z3.2)]) (body := (fun (z3 : (Mem × Int32)) => l_X2_addTails_5 x0 x1 x2 z3.1 z3.2)) (fun F5_3 hF5_3 s => ?_) (σ, v1)
  obtain ⟨σ2, i3⟩ := s
  show JO w mu_X2_addTails vV σ2 [(0, .ref (adr w 35)), (1, .ref (adr w x0)), (2, .int x1), (3, .int x2), (4, .int i3)] [] 5 (l_X2_addTails_5 x0 x1 x2 σ2 i3) _
  unfold l_X2_addTails_5
  refine jo_iload (pc := 5) 4 rfl dX2_addTails_5 ?_
  refine jo_aload_n (pc := 7) 1 rfl dX2_addTails_7 rfl ?_
  refine jo_getf (pc := 8) ok_6_0 (hx0) gw_194 dX2_addTails_8 (fun v4 => ?_)
  refine jo_icmp_ge (pc := 11) dX2_addTails_11 (tgt := 47) rfl ?_ ?_
  · exact jo_return (pc := 47) rfl rfl dX2_addTails_47
  · refine jo_aload_n (pc := 14) 1 rfl dX2_addTails_14 rfl ?_
    refine jo_iload_n (pc := 15) 2 rfl dX2_addTails_15 rfl ?_
    refine jo_iload_n (pc := 16) 3 rfl dX2_addTails_16 rfl ?_
    refine jo_iload (pc := 17) 4 rfl dX2_addTails_17 ?_
    refine jo_cV_I_p (pc := 19) (μ' := mu_X6_read) (fx := f_X6_read σ2 x0 x1 x2 i3) (As := [.int x1, .int x2, .int i3]) (c_X6_read hw (hx0)) (ok_X6_read) (ltb rfl) (all3 gw_568 gw_569 gw_570) (hx0) (by decide) (q := (RX6, TX6, 3)) rfl rfl rfl rfl (Nat.le_of_ble_eq_true rfl) dX2_addTails_19 (fun v5 => ?_)
    refine jo_istore (pc := 22) (lv' := [(5, .int v5), (0, .ref (adr w 35)), (1, .ref (adr w x0)), (2, .int x1), (3, .int x2), (4, .int i3)]) dX2_addTails_22 (ltb rfl) rfl ?_
    refine jo_join1 (S := Mem) (fun (z6 : Mem) => z6) (fun (z6 : Mem) => [(0, .ref (adr w 35)), (1, .ref (adr w x0)), (2, .int x1), (3, .int x2), (4, .int i3)]) (fun (z6 : Mem) => []) 41 ?_ (fun h41_6 => ?_)
    · intro σ6
      show JO w mu_X2_addTails vV σ6 [(0, .ref (adr w 35)), (1, .ref (adr w x0)), (2, .int x1), (3, .int x2), (4, .int i3)] [] 41 (j_X2_addTails_41 i3 σ6) _
      unfold j_X2_addTails_41
      refine jo_iinc (pc := 41) (lv' := [(4, .int (i3 + 1)), (0, .ref (adr w 35)), (1, .ref (adr w x0)), (2, .int x1), (3, .int x2)]) 4 rfl dX2_addTails_41 (congrArg (fun z => i3 + z) (ic_i_1)) (ltb rfl) rfl ?_
      refine jo_goto (pc := 44) dX2_addTails_44 (tgt := 5) rfl ?_
      refine jo_lv (lv' := [(0, .ref (adr w 35)), (1, .ref (adr w x0)), (2, .int x1), (3, .int x2), (4, .int (i3 + 1))]) [1, 2, 3, 4, 0] rfl ?_
      exact jo_leaf (by rfl) (hF5_3 (σ6, i3 + 1))
    · refine jo_lv (lv' := [(0, .ref (adr w 35)), (1, .ref (adr w x0)), (2, .int x1), (3, .int x2), (4, .int i3), (5, .int v5)]) [1, 2, 3, 4, 5, 0] rfl ?_
      refine jo_loop (X := Mem) (fun (z8 : (Mem × Int32)) => z8.1) (fun (z8 : (Mem × Int32)) => [(0, .ref (adr w 35)), (1, .ref (adr w x0)), (2, .int x1), (3, .int x2), (4, .int i3), (5, .int z8.2)]) (body := (fun (z8 : (Mem × Int32)) => l_X2_addTails_24 i3 z8.1 z8.2)) (fun F24_8 hF24_8 s => ?_) (σ2, v5)
      obtain ⟨σ7, i8⟩ := s
      show JO w mu_X2_addTails vV σ7 [(0, .ref (adr w 35)), (1, .ref (adr w x0)), (2, .int x1), (3, .int x2), (4, .int i3), (5, .int i8)] [] 24 (l_X2_addTails_24 i3 σ7 i8) _
      unfold l_X2_addTails_24
      refine jo_iload (pc := 24) 5 rfl dX2_addTails_24 ?_
      refine jo_if_le (pc := 26) dX2_addTails_26 (tgt := 41) rfl ?_ ?_
      · refine jo_lv (lv' := [(0, .ref (adr w 35)), (1, .ref (adr w x0)), (2, .int x1), (3, .int x2), (4, .int i3)]) [0, 1, 2, 3, 4] rfl ?_
        exact jo_leaf (by rfl) (h41_6 σ7)
      · refine jo_aload_n (pc := 29) 0 rfl dX2_addTails_29 rfl ?_
        refine jo_iload (pc := 30) 4 rfl dX2_addTails_30 ?_
        refine jo_cV_V_i (pc := 32) (μ' := mu_X2_add) (fx := f_X2_add σ7 i3) (As := [.int i3]) (c_X2_add hw) (ok_X2_add) (ltb rfl) (all3 gw_572 gw_561 gw_562) (ik_35 hw) (by decide) (q := (RX2, TX2, 7)) rfl rfl rfl rfl (Nat.le_of_ble_eq_true rfl) dX2_addTails_32 (fun σ9 => ?_)
        refine jo_iinc (pc := 35) (lv' := [(5, .int (i8 + (-1))), (0, .ref (adr w 35)), (1, .ref (adr w x0)), (2, .int x1), (3, .int x2), (4, .int i3)]) 5 rfl dX2_addTails_35 (congrArg (fun z => i8 + z) (ic_i_m1)) (ltb rfl) rfl ?_
        refine jo_goto (pc := 38) dX2_addTails_38 (tgt := 24) rfl ?_
        refine jo_lv (lv' := [(0, .ref (adr w 35)), (1, .ref (adr w x0)), (2, .int x1), (3, .int x2), (4, .int i3), (5, .int (i8 + (-1)))]) [1, 2, 3, 4, 5, 0] rfl ?_
        exact jo_leaf (by rfl) (hF24_8 (σ9, i8 + (-1)))
theorem c_X2_addTails {w : Wd} (hw : WOK w) {σ : Mem} {x0 : Nat} {x1 : Int32} {x2 : Int32} (hx0 : isk w x0 6) : ∀ σ', f_X2_addTails σ x0 x1 x2 = some σ' → MC w mu_X2_addTails none [.ref (adr w 35), .ref (adr w x0), .int x1, .int x2] σ σ' := mc_ofV ok_X2_addTails rfl (Nat.le_of_ble_eq_true rfl) (t_X2_addTails hw hx0)
abbrev mu_X2_putAhead : MD := (yX2_putAhead, cX2_putAhead, 2, none, 0)
theorem ok_X2_putAhead : MOK mu_X2_putAhead 1 := ⟨gw_580, gw_161, (by decide +kernel : plainFor yX2_putAhead = true), ⟨(by decide +kernel : yX2_putAhead.cls ≠ "java/lang/invoke/MethodHandle"), (by decide +kernel : yX2_putAhead.cls ≠ "java/lang/invoke/VarHandle"), (by decide +kernel : (parseMethodDescriptor yX2_putAhead.desc).map (fun d => d.parameters.length) = some 1)⟩, Nat.le_of_ble_eq_true rfl⟩
noncomputable def f_X2_putAhead (σ : Mem) (x0 : Int32) : Option Mem :=
  gF σ 35 5 (fun (v1 : Int32) => if 12076 ≤ v1 then (some σ) else (gF σ 35 5 (fun (v2 : Int32) => pI σ 38 v2 x0 (fun (σ3 : Mem) => gF σ3 35 5 (fun (v4 : Int32) => pF σ3 35 5 (v4 + 1) (fun (σ5 : Mem) => some σ5))))))
theorem t_X2_putAhead {w : Wd} (hw : WOK w) {σ : Mem} {x0 : Int32} : JO w mu_X2_putAhead vV σ [(0, .ref (adr w 35)), (1, .int x0)] [] 0 (f_X2_putAhead σ x0) (fun z => some ((), z)) := by
  unfold f_X2_putAhead
  refine jo_aload_n (pc := 0) 0 rfl dX2_putAhead_0 rfl ?_
  refine jo_getf (pc := 1) ok_2_5 (ik_35 hw) gw_245 dX2_putAhead_1 (fun v1 => ?_)
  refine jo_sipush (pc := 4) dX2_putAhead_4 (ic_s_12076) ?_
  refine jo_icmp_ge (pc := 7) dX2_putAhead_7 (tgt := 30) rfl ?_ ?_
  · exact jo_return (pc := 30) rfl rfl dX2_putAhead_30
  · refine jo_aload_n (pc := 10) 0 rfl dX2_putAhead_10 rfl ?_
    refine jo_getrE (pc := 11) ok_2_4 (ik_35 hw) rf_35_4 gw_244 dX2_putAhead_11 ?_
    refine jo_aload_n (pc := 14) 0 rfl dX2_putAhead_14 rfl ?_
    refine jo_getf (pc := 15) ok_2_5 (ik_35 hw) gw_245 dX2_putAhead_15 (fun v2 => ?_)
    refine jo_iload_n (pc := 18) 1 rfl dX2_putAhead_18 rfl ?_
    refine jo_iast (pc := 19) (ik_38 hw) dX2_putAhead_19 (fun σ3 => ?_)
    refine jo_aload_n (pc := 20) 0 rfl dX2_putAhead_20 rfl ?_
    refine jo_dup (pc := 21) dX2_putAhead_21 rfl ?_
    refine jo_getf (pc := 22) ok_2_5 (ik_35 hw) gw_245 dX2_putAhead_22 (fun v4 => ?_)
    refine jo_iconst (pc := 25) dX2_putAhead_25 (ic_i_1) ?_
    refine jo_iadd (pc := 26) dX2_putAhead_26 ?_
    refine jo_putf (pc := 27) ok_2_5 okp_2_5 (ik_35 hw) gw_245 dX2_putAhead_27 (fun σ5 => ?_)
    exact jo_return (pc := 30) rfl rfl dX2_putAhead_30
theorem c_X2_putAhead {w : Wd} (hw : WOK w) {σ : Mem} {x0 : Int32} : ∀ σ', f_X2_putAhead σ x0 = some σ' → MC w mu_X2_putAhead none [.ref (adr w 35), .int x0] σ σ' := mc_ofV ok_X2_putAhead rfl (Nat.le_of_ble_eq_true rfl) (t_X2_putAhead hw)
abbrev mu_X2_moveOn : MD := (yX2_moveOn, cX2_moveOn, 2, none, 0)
theorem ok_X2_moveOn : MOK mu_X2_moveOn 1 := ⟨gw_585, gw_161, (by decide +kernel : plainFor yX2_moveOn = true), ⟨(by decide +kernel : yX2_moveOn.cls ≠ "java/lang/invoke/MethodHandle"), (by decide +kernel : yX2_moveOn.cls ≠ "java/lang/invoke/VarHandle"), (by decide +kernel : (parseMethodDescriptor yX2_moveOn.desc).map (fun d => d.parameters.length) = some 1)⟩, Nat.le_of_ble_eq_true rfl⟩
noncomputable def f_X2_moveOn (σ : Mem) (x0 : Int32) : Option Mem :=
  gF σ 35 5 (fun (v1 : Int32) => pF σ 35 5 (v1 - 1) (fun (σ2 : Mem) => gF σ2 35 3 (fun (v3 : Int32) => if 12076 ≤ v3 then (some σ2) else (gF σ2 35 3 (fun (v4 : Int32) => pI σ2 37 v4 x0 (fun (σ5 : Mem) => gF σ5 35 3 (fun (v6 : Int32) => pF σ5 35 3 (v6 + 1) (fun (σ7 : Mem) => some σ7))))))))
theorem t_X2_moveOn {w : Wd} (hw : WOK w) {σ : Mem} {x0 : Int32} : JO w mu_X2_moveOn vV σ [(0, .ref (adr w 35)), (1, .int x0)] [] 0 (f_X2_moveOn σ x0) (fun z => some ((), z)) := by
  unfold f_X2_moveOn
  refine jo_aload_n (pc := 0) 0 rfl dX2_moveOn_0 rfl ?_
  refine jo_dup (pc := 1) dX2_moveOn_1 rfl ?_
  refine jo_getf (pc := 2) ok_2_5 (ik_35 hw) gw_245 dX2_moveOn_2 (fun v1 => ?_)
  refine jo_iconst (pc := 5) dX2_moveOn_5 (ic_i_1) ?_
  refine jo_isub (pc := 6) dX2_moveOn_6 ?_
  refine jo_putf (pc := 7) ok_2_5 okp_2_5 (ik_35 hw) gw_245 dX2_moveOn_7 (fun σ2 => ?_)
  refine jo_aload_n (pc := 10) 0 rfl dX2_moveOn_10 rfl ?_
  refine jo_getf (pc := 11) ok_2_3 (ik_35 hw) gw_243 dX2_moveOn_11 (fun v3 => ?_)
  refine jo_sipush (pc := 14) dX2_moveOn_14 (ic_s_12076) ?_
  refine jo_icmp_ge (pc := 17) dX2_moveOn_17 (tgt := 40) rfl ?_ ?_
  · exact jo_return (pc := 40) rfl rfl dX2_moveOn_40
  · refine jo_aload_n (pc := 20) 0 rfl dX2_moveOn_20 rfl ?_
    refine jo_getrE (pc := 21) ok_2_2 (ik_35 hw) rf_35_2 gw_242 dX2_moveOn_21 ?_
    refine jo_aload_n (pc := 24) 0 rfl dX2_moveOn_24 rfl ?_
    refine jo_getf (pc := 25) ok_2_3 (ik_35 hw) gw_243 dX2_moveOn_25 (fun v4 => ?_)
    refine jo_iload_n (pc := 28) 1 rfl dX2_moveOn_28 rfl ?_
    refine jo_iast (pc := 29) (ik_37 hw) dX2_moveOn_29 (fun σ5 => ?_)
    refine jo_aload_n (pc := 30) 0 rfl dX2_moveOn_30 rfl ?_
    refine jo_dup (pc := 31) dX2_moveOn_31 rfl ?_
    refine jo_getf (pc := 32) ok_2_3 (ik_35 hw) gw_243 dX2_moveOn_32 (fun v6 => ?_)
    refine jo_iconst (pc := 35) dX2_moveOn_35 (ic_i_1) ?_
    refine jo_iadd (pc := 36) dX2_moveOn_36 ?_
    refine jo_putf (pc := 37) ok_2_3 okp_2_3 (ik_35 hw) gw_243 dX2_moveOn_37 (fun σ7 => ?_)
    exact jo_return (pc := 40) rfl rfl dX2_moveOn_40
theorem c_X2_moveOn {w : Wd} (hw : WOK w) {σ : Mem} {x0 : Int32} : ∀ σ', f_X2_moveOn σ x0 = some σ' → MC w mu_X2_moveOn none [.ref (adr w 35), .int x0] σ σ' := mc_ofV ok_X2_moveOn rfl (Nat.le_of_ble_eq_true rfl) (t_X2_moveOn hw)
abbrev mu_X2_exchange : MD := (yX2_exchange, cX2_exchange, 6, none, 2)
theorem ok_X2_exchange : MOK mu_X2_exchange 3 := ⟨gw_589, gw_161, (by decide +kernel : plainFor yX2_exchange = true), ⟨(by decide +kernel : yX2_exchange.cls ≠ "java/lang/invoke/MethodHandle"), (by decide +kernel : yX2_exchange.cls ≠ "java/lang/invoke/VarHandle"), (by decide +kernel : (parseMethodDescriptor yX2_exchange.desc).map (fun d => d.parameters.length) = some 3)⟩, Nat.le_of_ble_eq_true rfl⟩
noncomputable def j_X2_exchange_67 (x1 : Int32) (x2 : Int32) (σ7 : Mem) : Option Mem :=
  (f_X2_putAhead σ7 x1).bind (fun (σ8 : Mem) => (f_X2_putAhead σ8 x2).bind (fun (σ9 : Mem) => some σ9))
noncomputable def j_X2_exchange_61 (i11 : Int32) (σ13 : Mem) : Option ((Mem × Int32) ⊕ Mem) :=
  some (Sum.inl (σ13, i11 + (-1)))
noncomputable def l_X2_exchange_44 (i11 : Int32) (σ14 : Mem) (i15 : Int32) : Option ((Mem × Int32) ⊕ Mem) :=
  if i15 ≤ 0 then (some (Sum.inr σ14)) else ((f_X2_putAhead σ14 i11).bind (fun (σ16 : Mem) => some (Sum.inl (σ16, i15 + (-1)))))
noncomputable def l_X2_exchange_28 (x0 : Nat) (x1 : Int32) (x2 : Int32) (σ10 : Mem) (i11 : Int32) : Option ((Mem × Int32) ⊕ Mem) :=
  if i11 ≤ x1 then (some (Sum.inr σ10)) else ((f_X6_read σ10 x0 x1 x2 i11).bind (fun (v12 : Int32) => (loopO (fun (z15 : (Mem × Int32)) => l_X2_exchange_44 i11 z15.1 z15.2) (σ10, v12) : Option Mem).bind (fun (z13 : Mem) => j_X2_exchange_61 i11 z13)))
noncomputable def f_X2_exchange (σ : Mem) (x0 : Nat) (x1 : Int32) (x2 : Int32) : Option Mem :=
  gF σ 35 3 (fun (v1 : Int32) => pF σ 35 3 (v1 - 1) (fun (σ2 : Mem) => gF σ2 35 5 (fun (v3 : Int32) => pF σ2 35 5 (v3 - 1) (fun (σ4 : Mem) => gF σ4 x0 0 (fun (v5 : Int32) => bd (v5 - 1) (fun (v6 : Int32) => (loopO (fun (z11 : (Mem × Int32)) => l_X2_exchange_28 x0 x1 x2 z11.1 z11.2) (σ4, v6) : Option Mem).bind (fun (z7 : Mem) => j_X2_exchange_67 x1 x2 z7)))))))
theorem t_X2_exchange {w : Wd} (hw : WOK w) {σ : Mem} {x0 : Nat} {x1 : Int32} {x2 : Int32} (hx0 : isk w x0 6) : JO w mu_X2_exchange vV σ [(0, .ref (adr w 35)), (1, .ref (adr w x0)), (2, .int x1), (3, .int x2)] [] 0 (f_X2_exchange σ x0 x1 x2) (fun z => some ((), z)) := by
  unfold f_X2_exchange
  refine jo_aload_n (pc := 0) 0 rfl dX2_exchange_0 rfl ?_
  refine jo_dup (pc := 1) dX2_exchange_1 rfl ?_
  refine jo_getf (pc := 2) ok_2_3 (ik_35 hw) gw_243 dX2_exchange_2 (fun v1 => ?_)
  refine jo_iconst (pc := 5) dX2_exchange_5 (ic_i_1) ?_
  refine jo_isub (pc := 6) dX2_exchange_6 ?_
  refine jo_putf (pc := 7) ok_2_3 okp_2_3 (ik_35 hw) gw_243 dX2_exchange_7 (fun σ2 => ?_)
  refine jo_aload_n (pc := 10) 0 rfl dX2_exchange_10 rfl ?_
  refine jo_dup (pc := 11) dX2_exchange_11 rfl ?_
  refine jo_getf (pc := 12) ok_2_5 (ik_35 hw) gw_245 dX2_exchange_12 (fun v3 => ?_)
  refine jo_iconst (pc := 15) dX2_exchange_15 (ic_i_1) ?_
  refine jo_isub (pc := 16) dX2_exchange_16 ?_
  refine jo_putf (pc := 17) ok_2_5 okp_2_5 (ik_35 hw) gw_245 dX2_exchange_17 (fun σ4 => ?_)
  refine jo_aload_n (pc := 20) 1 rfl dX2_exchange_20 rfl ?_
  refine jo_getf (pc := 21) ok_6_0 (hx0) gw_194 dX2_exchange_21 (fun v5 => ?_)
  refine jo_iconst (pc := 24) dX2_exchange_24 (ic_i_1) ?_
  refine jo_isub (pc := 25) dX2_exchange_25 ?_
  refine jo_bd ?_
  refine jo_istore (pc := 26) (lv' := [(4, .int (v5 - 1)), (0, .ref (adr w 35)), (1, .ref (adr w x0)), (2, .int x1), (3, .int x2)]) dX2_exchange_26 (ltb rfl) rfl ?_
  generalize (v5 - 1) = v6
  refine jo_join1 (S := Mem) (fun (z7 : Mem) => z7) (fun (z7 : Mem) => [(0, .ref (adr w 35)), (2, .int x1), (3, .int x2)]) (fun (z7 : Mem) => []) 67 ?_ (fun h67_7 => ?_)
  · intro σ7
    show JO w mu_X2_exchange vV σ7 [(0, .ref (adr w 35)), (2, .int x1), (3, .int x2)] [] 67 (j_X2_exchange_67 x1 x2 σ7) _
    unfold j_X2_exchange_67
    refine jo_aload_n (pc := 67) 0 rfl dX2_exchange_67 rfl ?_
    refine jo_iload_n (pc := 68) 1 rfl dX2_exchange_68 rfl ?_
    refine jo_cV_V_i (pc := 69) (μ' := mu_X2_putAhead) (fx := f_X2_putAhead σ7 x1) (As := [.int x1]) (c_X2_putAhead hw) (ok_X2_putAhead) (ltb rfl) (all3 gw_577 gw_579 gw_2) (ik_35 hw) (by decide) (q := (RX2, TX2, 7)) rfl rfl rfl rfl (Nat.le_of_ble_eq_true rfl) dX2_exchange_69 (fun σ8 => ?_)
    refine jo_aload_n (pc := 72) 0 rfl dX2_exchange_72 rfl ?_
    refine jo_iload_n (pc := 73) 2 rfl dX2_exchange_73 rfl ?_
    refine jo_cV_V_i (pc := 74) (μ' := mu_X2_putAhead) (fx := f_X2_putAhead σ8 x2) (As := [.int x2]) (c_X2_putAhead hw) (ok_X2_putAhead) (ltb rfl) (all3 gw_577 gw_579 gw_2) (ik_35 hw) (by decide) (q := (RX2, TX2, 7)) rfl rfl rfl rfl (Nat.le_of_ble_eq_true rfl) dX2_exchange_74 (fun σ9 => ?_)
    exact jo_return (pc := 77) rfl rfl dX2_exchange_77
  · refine jo_lv (lv' := [(0, .ref (adr w 35)), (1, .ref (adr w x0)), (2, .int x1), (3, .int x2), (4, .int v6)]) [1, 2, 3, 4, 0] rfl ?_
    refine jo_loop (X := Mem) (fun (z11 : (Mem × Int32)) => z11.1) (fun (z11 : (Mem × Int32)) => [(0, .ref (adr w 35)), (1, .ref (adr w x0)), (2, .int x1), (3, .int x2), (4, .int z11.2)]) (body := (fun (z11 : (Mem × Int32)) => l_X2_exchange_28 x0 x1 x2 z11.1 z11.2)) (fun F28_11 hF28_11 s => ?_) (σ4, v6)
    obtain ⟨σ10, i11⟩ := s
    show JO w mu_X2_exchange vV σ10 [(0, .ref (adr w 35)), (1, .ref (adr w x0)), (2, .int x1), (3, .int x2), (4, .int i11)] [] 28 (l_X2_exchange_28 x0 x1 x2 σ10 i11) _
    unfold l_X2_exchange_28
    refine jo_iload (pc := 28) 4 rfl dX2_exchange_28 ?_
    refine jo_iload_n (pc := 30) 2 rfl dX2_exchange_30 rfl ?_
    refine jo_icmp_le (pc := 31) dX2_exchange_31 (tgt := 67) rfl ?_ ?_
    · refine jo_lv (lv' := [(0, .ref (adr w 35)), (2, .int x1), (3, .int x2)]) [0, 2, 3] rfl ?_
      exact jo_leaf (by rfl) (h67_7 σ10)
    · refine jo_aload_n (pc := 34) 1 rfl dX2_exchange_34 rfl ?_
      refine jo_iload_n (pc := 35) 2 rfl dX2_exchange_35 rfl ?_
      refine jo_iload_n (pc := 36) 3 rfl dX2_exchange_36 rfl ?_
      refine jo_iload (pc := 37) 4 rfl dX2_exchange_37 ?_
      refine jo_cV_I_p (pc := 39) (μ' := mu_X6_read) (fx := f_X6_read σ10 x0 x1 x2 i11) (As := [.int x1, .int x2, .int i11]) (c_X6_read hw (hx0)) (ok_X6_read) (ltb rfl) (all3 gw_568 gw_569 gw_570) (hx0) (by decide) (q := (RX6, TX6, 3)) rfl rfl rfl rfl (Nat.le_of_ble_eq_true rfl) dX2_exchange_39 (fun v12 => ?_)
      refine jo_istore (pc := 42) (lv' := [(5, .int v12), (0, .ref (adr w 35)), (1, .ref (adr w x0)), (2, .int x1), (3, .int x2), (4, .int i11)]) dX2_exchange_42 (ltb rfl) rfl ?_
      refine jo_join1 (S := Mem) (fun (z13 : Mem) => z13) (fun (z13 : Mem) => [(0, .ref (adr w 35)), (1, .ref (adr w x0)), (2, .int x1), (3, .int x2), (4, .int i11)]) (fun (z13 : Mem) => []) 61 ?_ (fun h61_13 => ?_)
      · intro σ13
        show JO w mu_X2_exchange vV σ13 [(0, .ref (adr w 35)), (1, .ref (adr w x0)), (2, .int x1), (3, .int x2), (4, .int i11)] [] 61 (j_X2_exchange_61 i11 σ13) _
        unfold j_X2_exchange_61
        refine jo_iinc (pc := 61) (lv' := [(4, .int (i11 + (-1))), (0, .ref (adr w 35)), (1, .ref (adr w x0)), (2, .int x1), (3, .int x2)]) 4 rfl dX2_exchange_61 (congrArg (fun z => i11 + z) (ic_i_m1)) (ltb rfl) rfl ?_
        refine jo_goto (pc := 64) dX2_exchange_64 (tgt := 28) rfl ?_
        refine jo_lv (lv' := [(0, .ref (adr w 35)), (1, .ref (adr w x0)), (2, .int x1), (3, .int x2), (4, .int (i11 + (-1)))]) [1, 2, 3, 4, 0] rfl ?_
        exact jo_leaf (by rfl) (hF28_11 (σ13, i11 + (-1)))
      · refine jo_lv (lv' := [(0, .ref (adr w 35)), (1, .ref (adr w x0)), (2, .int x1), (3, .int x2), (4, .int i11), (5, .int v12)]) [1, 2, 3, 4, 5, 0] rfl ?_
        refine jo_loop (X := Mem) (fun (z15 : (Mem × Int32)) => z15.1) (fun (z15 : (Mem × Int32)) => [(0, .ref (adr w 35)), (1, .ref (adr w x0)), (2, .int x1), (3, .int x2), (4, .int i11), (5, .int z15.2)]) (body := (fun (z15 : (Mem × Int32)) => l_X2_exchange_44 i11 z15.1 z15.2)) (fun F44_15 hF44_15 s => ?_) (σ10, v12)
        obtain ⟨σ14, i15⟩ := s
        show JO w mu_X2_exchange vV σ14 [(0, .ref (adr w 35)), (1, .ref (adr w x0)), (2, .int x1), (3, .int x2), (4, .int i11), (5, .int i15)] [] 44 (l_X2_exchange_44 i11 σ14 i15) _
        unfold l_X2_exchange_44
        refine jo_iload (pc := 44) 5 rfl dX2_exchange_44 ?_
        refine jo_if_le (pc := 46) dX2_exchange_46 (tgt := 61) rfl ?_ ?_
        · refine jo_lv (lv' := [(0, .ref (adr w 35)), (1, .ref (adr w x0)), (2, .int x1), (3, .int x2), (4, .int i11)]) [0, 1, 2, 3, 4] rfl ?_
          exact jo_leaf (by rfl) (h61_13 σ14)
        · refine jo_aload_n (pc := 49) 0 rfl dX2_exchange_49 rfl ?_
          refine jo_iload (pc := 50) 4 rfl dX2_exchange_50 ?_
          refine jo_cV_V_i (pc := 52) (μ' := mu_X2_putAhead) (fx := f_X2_putAhead σ14 i11) (As := [.int i11]) (c_X2_putAhead hw) (ok_X2_putAhead) (ltb rfl) (all3 gw_577 gw_579 gw_2) (ik_35 hw) (by decide) (q := (RX2, TX2, 7)) rfl rfl rfl rfl (Nat.le_of_ble_eq_true rfl) dX2_exchange_52 (fun σ16 => ?_)
          refine jo_iinc (pc := 55) (lv' := [(5, .int (i15 + (-1))), (0, .ref (adr w 35)), (1, .ref (adr w x0)), (2, .int x1), (3, .int x2), (4, .int i11)]) 5 rfl dX2_exchange_55 (congrArg (fun z => i15 + z) (ic_i_m1)) (ltb rfl) rfl ?_
          refine jo_goto (pc := 58) dX2_exchange_58 (tgt := 44) rfl ?_
          refine jo_lv (lv' := [(0, .ref (adr w 35)), (1, .ref (adr w x0)), (2, .int x1), (3, .int x2), (4, .int i11), (5, .int (i15 + (-1)))]) [1, 2, 3, 4, 5, 0] rfl ?_
          exact jo_leaf (by rfl) (hF44_15 (σ16, i15 + (-1)))
theorem c_X2_exchange {w : Wd} (hw : WOK w) {σ : Mem} {x0 : Nat} {x1 : Int32} {x2 : Int32} (hx0 : isk w x0 6) : ∀ σ', f_X2_exchange σ x0 x1 x2 = some σ' → MC w mu_X2_exchange none [.ref (adr w 35), .ref (adr w x0), .int x1, .int x2] σ σ' := mc_ofV ok_X2_exchange rfl (Nat.le_of_ble_eq_true rfl) (t_X2_exchange hw hx0)
abbrev mu_X2_countLetters : MD := (yX2_countLetters, cX2_countLetters, 2, none, 1)
theorem ok_X2_countLetters : MOK mu_X2_countLetters 0 := ⟨gw_593, gw_161, (by decide +kernel : plainFor yX2_countLetters = true), ⟨(by decide +kernel : yX2_countLetters.cls ≠ "java/lang/invoke/MethodHandle"), (by decide +kernel : yX2_countLetters.cls ≠ "java/lang/invoke/VarHandle"), (by decide +kernel : (parseMethodDescriptor yX2_countLetters.desc).map (fun d => d.parameters.length) = some 0)⟩, Nat.le_of_ble_eq_true rfl⟩
noncomputable def l_X2_countLetters_10 (σ2 : Mem) (i3 : Int32) : Option ((Mem × Int32) ⊕ Mem) :=
  gF σ2 35 3 (fun (v4 : Int32) => if v4 ≤ i3 then (some (Sum.inr σ2)) else (gI σ2 37 i3 (fun (v5 : Int32) => gI σ2 39 v5 (fun (v6 : Int32) => pI σ2 39 v5 (v6 + 1) (fun (σ7 : Mem) => some (Sum.inl (σ7, i3 + 1)))))))
noncomputable def f_X2_countLetters (σ : Mem) : Option Mem :=
  (f_J7_fill_53178 σ 39 0).bind (fun (σ1 : Mem) => loopO (fun (z3 : (Mem × Int32)) => l_X2_countLetters_10 z3.1 z3.2) (σ1, 0))
theorem t_X2_countLetters {w : Wd} (hw : WOK w) {σ : Mem} : JO w mu_X2_countLetters vV σ [(0, .ref (adr w 35))] [] 0 (f_X2_countLetters σ) (fun z => some ((), z)) := by
  unfold f_X2_countLetters
  refine jo_aload_n (pc := 0) 0 rfl dX2_countLetters_0 rfl ?_
  refine jo_getrE (pc := 1) ok_2_6 (ik_35 hw) rf_35_6 gw_246 dX2_countLetters_1 ?_
  refine jo_iconst (pc := 4) dX2_countLetters_4 (ic_i_0) ?_
  refine jo_cS_V_i (pc := 5) (μ' := mu_J7_fill_53178) (fx := f_J7_fill_53178 σ 39 0) (As := [.ref (adr w 39), .int 0]) (c_J7_fill_53178 hw (ik_39 hw)) (ok_J7_fill_53178) (ltb rfl) (all2 gw_594 gw_521) rfl rfl (Nat.le_of_ble_eq_true rfl) dX2_countLetters_5 (fun σ1 => ?_)
  refine jo_iconst (pc := 8) dX2_countLetters_8 (ic_i_0) ?_
  refine jo_istore_n (pc := 9) (lv' := [(1, .int 0), (0, .ref (adr w 35))]) dX2_countLetters_9 rfl (ltb rfl) rfl ?_
  refine jo_lv (lv' := [(0, .ref (adr w 35)), (1, .int 0)]) [1, 0] rfl ?_
  refine jo_loop (X := Mem) (fun (z3 : (Mem × Int32)) => z3.1) (fun (z3 : (Mem × Int32)) => [(0, .ref (adr w 35)), (1, .int z3.2)]) (body := (fun (z3 : (Mem × Int32)) => l_X2_countLetters_10 z3.1 z3.2)) (fun F10_3 hF10_3 s => ?_) (σ1, 0)
  obtain ⟨σ2, i3⟩ := s
  show JO w mu_X2_countLetters vV σ2 [(0, .ref (adr w 35)), (1, .int i3)] [] 10 (l_X2_countLetters_10 σ2 i3) _
  unfold l_X2_countLetters_10
  refine jo_iload_n (pc := 10) 1 rfl dX2_countLetters_10 rfl ?_
  refine jo_aload_n (pc := 11) 0 rfl dX2_countLetters_11 rfl ?_
  refine jo_getf (pc := 12) ok_2_3 (ik_35 hw) gw_243 dX2_countLetters_12 (fun v4 => ?_)
  refine jo_icmp_ge (pc := 15) dX2_countLetters_15 (tgt := 39) rfl ?_ ?_
  · exact jo_return (pc := 39) rfl rfl dX2_countLetters_39
  · refine jo_aload_n (pc := 18) 0 rfl dX2_countLetters_18 rfl ?_
    refine jo_getrE (pc := 19) ok_2_6 (ik_35 hw) rf_35_6 gw_246 dX2_countLetters_19 ?_
    refine jo_aload_n (pc := 22) 0 rfl dX2_countLetters_22 rfl ?_
    refine jo_getrE (pc := 23) ok_2_2 (ik_35 hw) rf_35_2 gw_242 dX2_countLetters_23 ?_
    refine jo_iload_n (pc := 26) 1 rfl dX2_countLetters_26 rfl ?_
    refine jo_iald (pc := 27) (ik_37 hw) dX2_countLetters_27 (fun v5 => ?_)
    refine jo_dup2 (pc := 28) dX2_countLetters_28 rfl rfl ?_
    refine jo_iald (pc := 29) (ik_39 hw) dX2_countLetters_29 (fun v6 => ?_)
    refine jo_iconst (pc := 30) dX2_countLetters_30 (ic_i_1) ?_
    refine jo_iadd (pc := 31) dX2_countLetters_31 ?_
    refine jo_iast (pc := 32) (ik_39 hw) dX2_countLetters_32 (fun σ7 => ?_)
    refine jo_iinc (pc := 33) (lv' := [(1, .int (i3 + 1)), (0, .ref (adr w 35))]) 1 rfl dX2_countLetters_33 (congrArg (fun z => i3 + z) (ic_i_1)) (ltb rfl) rfl ?_
    refine jo_goto (pc := 36) dX2_countLetters_36 (tgt := 10) rfl ?_
    refine jo_lv (lv' := [(0, .ref (adr w 35)), (1, .int (i3 + 1))]) [1, 0] rfl ?_
    exact jo_leaf (by rfl) (hF10_3 (σ7, i3 + 1))
theorem c_X2_countLetters {w : Wd} (hw : WOK w) {σ : Mem} : ∀ σ', f_X2_countLetters σ = some σ' → MC w mu_X2_countLetters none [.ref (adr w 35)] σ σ' := mc_ofV ok_X2_countLetters rfl (Nat.le_of_ble_eq_true rfl) (t_X2_countLetters hw)
abbrev mu_X2_run : MD := (yX2_run, cX2_run, 6, some .int, 3)
theorem ok_X2_run : MOK mu_X2_run 2 := ⟨gw_576, gw_161, (by decide +kernel : plainFor yX2_run = true), ⟨(by decide +kernel : yX2_run.cls ≠ "java/lang/invoke/MethodHandle"), (by decide +kernel : yX2_run.cls ≠ "java/lang/invoke/VarHandle"), (by decide +kernel : (parseMethodDescriptor yX2_run.desc).map (fun d => d.parameters.length) = some 2)⟩, Nat.le_of_ble_eq_true rfl⟩
noncomputable def j_X2_run_135 (σ6 : Mem) (i7 : Int32) : Option (Int32 × Mem) :=
  (f_X2_countLetters σ6).bind (fun (σ8 : Mem) => some (i7, σ8))
noncomputable def j_X2_run_129 (i11 : Int32) (σ16 : Mem) (i17 : Int32) : Option ((Mem × Int32 × Int32) ⊕ ((Mem × Int32) ⊕ (Int32 × Mem))) :=
  some (Sum.inl (σ16, i17, i11 + 1))
noncomputable def j_X2_run_92 (σ9 : Mem) (i10 : Int32) (v14 : Int32) : Option ((Mem × Int32) ⊕ ((Mem × Int32 × Int32) ⊕ ((Mem × Int32) ⊕ (Int32 × Mem)))) :=
  (f_X2_moveOn σ9 v14).bind (fun (σ18 : Mem) => some (Sum.inl (σ18, i10)))
noncomputable def l_X2_run_42 (x0 : Nat) (x1 : Int32) (σ9 : Mem) (i10 : Int32) (i11 : Int32) : Option ((Mem × Int32 × Int32) ⊕ ((Mem × Int32) ⊕ (Int32 × Mem))) :=
  if 1000000 ≤ i11 then (some (Sum.inr (Sum.inl (σ9, i10)))) else (gF σ9 35 5 (fun (v12 : Int32) => if v12 ≤ 0 then (some (Sum.inr (Sum.inl (σ9, i10)))) else (gF σ9 35 5 (fun (v13 : Int32) => gI σ9 38 (v13 - 1) (fun (v14 : Int32) => gF σ9 35 3 (fun (v15 : Int32) => ((if v15 = 0 then (some (Sum.inl ())) else (gF σ9 35 3 (fun (v19 : Int32) => gI σ9 37 (v19 - 1) (fun (v20 : Int32) => if v14 < v20 then (if i10 = x1 then (some (Sum.inr (Sum.inr (Sum.inr (Sum.inr ((-1), σ9)))))) else (gF σ9 35 3 (fun (v21 : Int32) => gI σ9 37 (v21 - 1) (fun (v22 : Int32) => (f_X2_exchange σ9 x0 v22 v14).bind (fun (σ23 : Mem) => some (Sum.inr (Sum.inl (σ23, i10 + 1)))))))) else (some (Sum.inl ()))))) : Option (Unit ⊕ ((Mem × Int32) ⊕ ((Mem × Int32 × Int32) ⊕ ((Mem × Int32) ⊕ (Int32 × Mem)))))).bind (Sum.elim (fun (z17 : Unit) => j_X2_run_92 σ9 i10 v14) some) : Option ((Mem × Int32) ⊕ ((Mem × Int32 × Int32) ⊕ ((Mem × Int32) ⊕ (Int32 × Mem))))).bind (Sum.elim (fun (z17 : (Mem × Int32)) => j_X2_run_129 i11 z17.1 z17.2) some)))))))
noncomputable def j_X2_run_37 (x0 : Nat) (x1 : Int32) (σ5 : Mem) : Option (Int32 × Mem) :=
  (loopO (fun (z11 : (Mem × Int32 × Int32)) => l_X2_run_42 x0 x1 z11.1 z11.2.1 z11.2.2) (σ5, 0, 0) : Option ((Mem × Int32) ⊕ (Int32 × Mem))).bind (Sum.elim (fun (z7 : (Mem × Int32)) => j_X2_run_135 z7.1 z7.2) some)
noncomputable def l_X2_run_17 (σ24 : Mem) (i25 : Int32) : Option ((Mem × Int32) ⊕ Mem) :=
  if i25 < 0 then (some (Sum.inr σ24)) else (gI σ24 36 i25 (fun (v26 : Int32) => (f_X2_putAhead σ24 v26).bind (fun (σ27 : Mem) => some (Sum.inl (σ27, i25 + (-1))))))
noncomputable def f_X2_run (σ : Mem) (x0 : Nat) (x1 : Int32) : Option (Int32 × Mem) :=
  pF σ 35 3 0 (fun (σ1 : Mem) => pF σ1 35 5 0 (fun (σ2 : Mem) => gF σ2 35 1 (fun (v3 : Int32) => bd (v3 - 1) (fun (v4 : Int32) => (loopO (fun (z25 : (Mem × Int32)) => l_X2_run_17 z25.1 z25.2) (σ2, v4) : Option Mem).bind (fun (z5 : Mem) => j_X2_run_37 x0 x1 z5)))))
theorem t_X2_run {w : Wd} (hw : WOK w) {σ : Mem} {x0 : Nat} {x1 : Int32} (hx0 : isk w x0 6) : JO w mu_X2_run vI σ [(0, .ref (adr w 35)), (1, .ref (adr w x0)), (2, .int x1)] [] 0 (f_X2_run σ x0 x1) some := by
  unfold f_X2_run
  refine jo_aload_n (pc := 0) 0 rfl dX2_run_0 rfl ?_
  refine jo_iconst (pc := 1) dX2_run_1 (ic_i_0) ?_
  refine jo_putf (pc := 2) ok_2_3 okp_2_3 (ik_35 hw) gw_243 dX2_run_2 (fun σ1 => ?_)
  refine jo_aload_n (pc := 5) 0 rfl dX2_run_5 rfl ?_
  refine jo_iconst (pc := 6) dX2_run_6 (ic_i_0) ?_
  refine jo_putf (pc := 7) ok_2_5 okp_2_5 (ik_35 hw) gw_245 dX2_run_7 (fun σ2 => ?_)
  refine jo_aload_n (pc := 10) 0 rfl dX2_run_10 rfl ?_
  refine jo_getf (pc := 11) ok_2_1 (ik_35 hw) gw_241 dX2_run_11 (fun v3 => ?_)
  refine jo_iconst (pc := 14) dX2_run_14 (ic_i_1) ?_
  refine jo_isub (pc := 15) dX2_run_15 ?_
  refine jo_bd ?_
  refine jo_istore_n (pc := 16) (lv' := [(3, .int (v3 - 1)), (0, .ref (adr w 35)), (1, .ref (adr w x0)), (2, .int x1)]) dX2_run_16 rfl (ltb rfl) rfl ?_
  generalize (v3 - 1) = v4
  refine jo_join1 (S := Mem) (fun (z5 : Mem) => z5) (fun (z5 : Mem) => [(0, .ref (adr w 35)), (1, .ref (adr w x0)), (2, .int x1)]) (fun (z5 : Mem) => []) 37 ?_ (fun h37_5 => ?_)
  · intro σ5
    show JO w mu_X2_run vI σ5 [(0, .ref (adr w 35)), (1, .ref (adr w x0)), (2, .int x1)] [] 37 (j_X2_run_37 x0 x1 σ5) _
    unfold j_X2_run_37
    refine jo_iconst (pc := 37) dX2_run_37 (ic_i_0) ?_
    refine jo_istore_n (pc := 38) (lv' := [(3, .int 0), (0, .ref (adr w 35)), (1, .ref (adr w x0)), (2, .int x1)]) dX2_run_38 rfl (ltb rfl) rfl ?_
    refine jo_iconst (pc := 39) dX2_run_39 (ic_i_0) ?_
    refine jo_istore (pc := 40) (lv' := [(4, .int 0), (3, .int 0), (0, .ref (adr w 35)), (1, .ref (adr w x0)), (2, .int x1)]) dX2_run_40 (ltb rfl) rfl ?_
    refine jo_joinS (S := (Mem × Int32)) (fun (z7 : (Mem × Int32)) => z7.1) (fun (z7 : (Mem × Int32)) => [(0, .ref (adr w 35)), (3, .int z7.2)]) (fun (z7 : (Mem × Int32)) => []) 135 ?_ (fun h135_7 => ?_)
    · intro s
      obtain ⟨σ6, i7⟩ := s
      show JO w mu_X2_run vI σ6 [(0, .ref (adr w 35)), (3, .int i7)] [] 135 (j_X2_run_135 σ6 i7) _
      unfold j_X2_run_135
      refine jo_aload_n (pc := 135) 0 rfl dX2_run_135 rfl ?_
      refine jo_cV_V_i (pc := 136) (μ' := mu_X2_countLetters) (fx := f_X2_countLetters σ6) (As := []) (c_X2_countLetters hw) (ok_X2_countLetters) (ltb rfl) (all3 gw_590 gw_592 gw_5) (ik_35 hw) (by decide) (q := (RX2, TX2, 7)) rfl rfl rfl rfl (Nat.le_of_ble_eq_true rfl) dX2_run_136 (fun σ8 => ?_)
      refine jo_iload_n (pc := 139) 1 rfl dX2_run_139 rfl ?_
      exact jo_ireturn (pc := 140) rfl rfl dX2_run_140
    · refine jo_lv (lv' := [(0, .ref (adr w 35)), (1, .ref (adr w x0)), (2, .int x1), (3, .int 0), (4, .int 0)]) [2, 3, 4, 1, 0] rfl ?_
      refine jo_loop (X := (Mem × Int32) ⊕ (Int32 × Mem)) (fun (z11 : (Mem × Int32 × Int32)) => z11.1) (fun (z11 : (Mem × Int32 × Int32)) => [(0, .ref (adr w 35)), (1, .ref (adr w x0)), (2, .int x1), (3, .int z11.2.1), (4, .int z11.2.2)]) (body := (fun (z11 : (Mem × Int32 × Int32)) => l_X2_run_42 x0 x1 z11.1 z11.2.1 z11.2.2)) (fun F42_11 hF42_11 s => ?_) (σ5, 0, 0)
      obtain ⟨σ9, i10, i11⟩ := s
      show JO w mu_X2_run vI σ9 [(0, .ref (adr w 35)), (1, .ref (adr w x0)), (2, .int x1), (3, .int i10), (4, .int i11)] [] 42 (l_X2_run_42 x0 x1 σ9 i10 i11) _
      unfold l_X2_run_42
      refine jo_iload (pc := 42) 4 rfl dX2_run_42 ?_
      refine jo_ldc (pc := 44) dX2_run_44 gw_581 ?_
      refine jo_icmp_ge (pc := 46) dX2_run_46 (tgt := 135) rfl ?_ ?_
      · refine jo_lv (lv' := [(0, .ref (adr w 35)), (3, .int i10)]) [0, 3] rfl ?_
        exact jo_leaf (by rfl) (h135_7 (σ9, i10))
      · refine jo_aload_n (pc := 49) 0 rfl dX2_run_49 rfl ?_
        refine jo_getf (pc := 50) ok_2_5 (ik_35 hw) gw_245 dX2_run_50 (fun v12 => ?_)
        refine jo_if_le (pc := 53) dX2_run_53 (tgt := 135) rfl ?_ ?_
        · refine jo_lv (lv' := [(0, .ref (adr w 35)), (3, .int i10)]) [0, 3] rfl ?_
          exact jo_leaf (by rfl) (h135_7 (σ9, i10))
        · refine jo_aload_n (pc := 56) 0 rfl dX2_run_56 rfl ?_
          refine jo_getrE (pc := 57) ok_2_4 (ik_35 hw) rf_35_4 gw_244 dX2_run_57 ?_
          refine jo_aload_n (pc := 60) 0 rfl dX2_run_60 rfl ?_
          refine jo_getf (pc := 61) ok_2_5 (ik_35 hw) gw_245 dX2_run_61 (fun v13 => ?_)
          refine jo_iconst (pc := 64) dX2_run_64 (ic_i_1) ?_
          refine jo_isub (pc := 65) dX2_run_65 ?_
          refine jo_iald (pc := 66) (ik_38 hw) dX2_run_66 (fun v14 => ?_)
          refine jo_istore (pc := 67) (lv' := [(5, .int v14), (0, .ref (adr w 35)), (1, .ref (adr w x0)), (2, .int x1), (3, .int i10), (4, .int i11)]) dX2_run_67 (ltb rfl) rfl ?_
          refine jo_aload_n (pc := 69) 1 rfl dX2_run_69 rfl ?_
          refine jo_getf (pc := 70) ok_2_3 (ik_35 hw) gw_243 dX2_run_70 (fun v15 => ?_)
          refine jo_joinS (S := (Mem × Int32)) (fun (z17 : (Mem × Int32)) => z17.1) (fun (z17 : (Mem × Int32)) => [(0, .ref (adr w 35)), (1, .ref (adr w x0)), (2, .int x1), (4, .int i11), (3, .int z17.2)]) (fun (z17 : (Mem × Int32)) => []) 129 ?_ (fun h129_17 => ?_)
          · intro s
            obtain ⟨σ16, i17⟩ := s
            show JO w mu_X2_run vI σ16 [(0, .ref (adr w 35)), (1, .ref (adr w x0)), (2, .int x1), (4, .int i11), (3, .int i17)] [] 129 (j_X2_run_129 i11 σ16 i17) _
            unfold j_X2_run_129
            refine jo_iinc (pc := 129) (lv' := [(4, .int (i11 + 1)), (0, .ref (adr w 35)), (1, .ref (adr w x0)), (2, .int x1), (3, .int i17)]) 3 rfl dX2_run_129 (congrArg (fun z => i11 + z) (ic_i_1)) (ltb rfl) rfl ?_
            refine jo_goto (pc := 132) dX2_run_132 (tgt := 42) rfl ?_
            refine jo_lv (lv' := [(0, .ref (adr w 35)), (1, .ref (adr w x0)), (2, .int x1), (3, .int i17), (4, .int (i11 + 1))]) [1, 2, 3, 4, 0] rfl ?_
            exact jo_leaf (by rfl) (hF42_11 (σ16, i17, i11 + 1))
          · refine jo_joinS (S := Unit) (fun (z17 : Unit) => σ9) (fun (z17 : Unit) => [(5, .int v14), (0, .ref (adr w 35)), (1, .ref (adr w x0)), (2, .int x1), (3, .int i10), (4, .int i11)]) (fun (z17 : Unit) => []) 92 ?_ (fun h92_17 => ?_)
            · intro _
              show JO w mu_X2_run vI σ9 [(5, .int v14), (0, .ref (adr w 35)), (1, .ref (adr w x0)), (2, .int x1), (3, .int i10), (4, .int i11)] [] 92 (j_X2_run_92 σ9 i10 v14) _
              unfold j_X2_run_92
              refine jo_aload_n (pc := 92) 1 rfl dX2_run_92 rfl ?_
              refine jo_iload (pc := 93) 0 rfl dX2_run_93 ?_
              refine jo_cV_V_i (pc := 95) (μ' := mu_X2_moveOn) (fx := f_X2_moveOn σ9 v14) (As := [.int v14]) (c_X2_moveOn hw) (ok_X2_moveOn) (ltb rfl) (all3 gw_582 gw_584 gw_3) (ik_35 hw) (by decide) (q := (RX2, TX2, 7)) rfl rfl rfl rfl (Nat.le_of_ble_eq_true rfl) dX2_run_95 (fun σ18 => ?_)
              refine jo_goto (pc := 98) dX2_run_98 (tgt := 129) rfl ?_
              refine jo_lv (lv' := [(0, .ref (adr w 35)), (1, .ref (adr w x0)), (2, .int x1), (4, .int i11), (3, .int i10)]) [1, 2, 3, 5, 4] rfl ?_
              exact jo_leaf (by rfl) (h129_17 (σ18, i10))
            · refine jo_if_eq (pc := 73) dX2_run_73 (tgt := 92) rfl ?_ ?_
              · exact jo_leaf (by rfl) (h92_17 ())
              · refine jo_aload_n (pc := 76) 1 rfl dX2_run_76 rfl ?_
                refine jo_getrE (pc := 77) ok_2_2 (ik_35 hw) rf_35_2 gw_242 dX2_run_77 ?_
                refine jo_aload_n (pc := 80) 1 rfl dX2_run_80 rfl ?_
                refine jo_getf (pc := 81) ok_2_3 (ik_35 hw) gw_243 dX2_run_81 (fun v19 => ?_)
                refine jo_iconst (pc := 84) dX2_run_84 (ic_i_1) ?_
                refine jo_isub (pc := 85) dX2_run_85 ?_
                refine jo_iald (pc := 86) (ik_37 hw) dX2_run_86 (fun v20 => ?_)
                refine jo_iload (pc := 87) 0 rfl dX2_run_87 ?_
                refine jo_icmp_gt (pc := 89) dX2_run_89 (tgt := 101) rfl ?_ ?_
                · refine jo_iload_n (pc := 101) 4 rfl dX2_run_101 rfl ?_
                  refine jo_iload_n (pc := 102) 3 rfl dX2_run_102 rfl ?_
                  refine jo_icmp_ne (pc := 103) dX2_run_103 (tgt := 108) rfl ?_ ?_
                  · refine jo_iinc (pc := 108) (lv' := [(3, .int (i10 + 1)), (5, .int v14), (0, .ref (adr w 35)), (1, .ref (adr w x0)), (2, .int x1), (4, .int i11)]) 4 rfl dX2_run_108 (congrArg (fun z => i10 + z) (ic_i_1)) (ltb rfl) rfl ?_
                    refine jo_aload_n (pc := 111) 2 rfl dX2_run_111 rfl ?_
                    refine jo_aload_n (pc := 112) 3 rfl dX2_run_112 rfl ?_
                    refine jo_aload_n (pc := 113) 2 rfl dX2_run_113 rfl ?_
                    refine jo_getrE (pc := 114) ok_2_2 (ik_35 hw) rf_35_2 gw_242 dX2_run_114 ?_
                    refine jo_aload_n (pc := 117) 2 rfl dX2_run_117 rfl ?_
                    refine jo_getf (pc := 118) ok_2_3 (ik_35 hw) gw_243 dX2_run_118 (fun v21 => ?_)
                    refine jo_iconst (pc := 121) dX2_run_121 (ic_i_1) ?_
                    refine jo_isub (pc := 122) dX2_run_122 ?_
                    refine jo_iald (pc := 123) (ik_37 hw) dX2_run_123 (fun v22 => ?_)
                    refine jo_iload (pc := 124) 1 rfl dX2_run_124 ?_
                    refine jo_cV_V_i (pc := 126) (μ' := mu_X2_exchange) (fx := f_X2_exchange σ9 x0 v22 v14) (As := [.ref (adr w x0), .int v22, .int v14]) (c_X2_exchange hw (hx0)) (ok_X2_exchange) (ltb rfl) (all3 gw_586 gw_588 gw_4) (ik_35 hw) (by decide) (q := (RX2, TX2, 7)) rfl rfl rfl rfl (Nat.le_of_ble_eq_true rfl) dX2_run_126 (fun σ23 => ?_)
                    refine jo_lv (lv' := [(0, .ref (adr w 35)), (1, .ref (adr w x0)), (2, .int x1), (4, .int i11), (3, .int (i10 + 1))]) [2, 3, 4, 5, 0] rfl ?_
                    exact jo_leaf (by rfl) (h129_17 (σ23, i10 + 1))
                  · refine jo_iconst (pc := 106) dX2_run_106 (ic_i_m1) ?_
                    exact jo_ireturn (pc := 107) rfl rfl dX2_run_107
                · exact jo_leaf (by rfl) (h92_17 ())
  · refine jo_lv (lv' := [(0, .ref (adr w 35)), (1, .ref (adr w x0)), (2, .int x1), (3, .int v4)]) [1, 2, 3, 0] rfl ?_
    refine jo_loop (X := Mem) (fun (z25 : (Mem × Int32)) => z25.1) (fun (z25 : (Mem × Int32)) => [(0, .ref (adr w 35)), (1, .ref (adr w x0)), (2, .int x1), (3, .int z25.2)]) (body := (fun (z25 : (Mem × Int32)) => l_X2_run_17 z25.1 z25.2)) (fun F17_25 hF17_25 s => ?_) (σ2, v4)
    obtain ⟨σ24, i25⟩ := s
    show JO w mu_X2_run vI σ24 [(0, .ref (adr w 35)), (1, .ref (adr w x0)), (2, .int x1), (3, .int i25)] [] 17 (l_X2_run_17 σ24 i25) _
    unfold l_X2_run_17
    refine jo_iload_n (pc := 17) 3 rfl dX2_run_17 rfl ?_
    refine jo_if_lt (pc := 18) dX2_run_18 (tgt := 37) rfl ?_ ?_
    · refine jo_lv (lv' := [(0, .ref (adr w 35)), (1, .ref (adr w x0)), (2, .int x1)]) [0, 1, 2] rfl ?_
      exact jo_leaf (by rfl) (h37_5 σ24)
    · refine jo_aload_n (pc := 21) 0 rfl dX2_run_21 rfl ?_
      refine jo_aload_n (pc := 22) 0 rfl dX2_run_22 rfl ?_
      refine jo_getrE (pc := 23) ok_2_0 (ik_35 hw) rf_35_0 gw_240 dX2_run_23 ?_
      refine jo_iload_n (pc := 26) 3 rfl dX2_run_26 rfl ?_
      refine jo_iald (pc := 27) (ik_36 hw) dX2_run_27 (fun v26 => ?_)
      refine jo_cV_V_i (pc := 28) (μ' := mu_X2_putAhead) (fx := f_X2_putAhead σ24 v26) (As := [.int v26]) (c_X2_putAhead hw) (ok_X2_putAhead) (ltb rfl) (all3 gw_577 gw_579 gw_2) (ik_35 hw) (by decide) (q := (RX2, TX2, 7)) rfl rfl rfl rfl (Nat.le_of_ble_eq_true rfl) dX2_run_28 (fun σ27 => ?_)
      refine jo_iinc (pc := 31) (lv' := [(3, .int (i25 + (-1))), (0, .ref (adr w 35)), (1, .ref (adr w x0)), (2, .int x1)]) 3 rfl dX2_run_31 (congrArg (fun z => i25 + z) (ic_i_m1)) (ltb rfl) rfl ?_
      refine jo_goto (pc := 34) dX2_run_34 (tgt := 17) rfl ?_
      refine jo_lv (lv' := [(0, .ref (adr w 35)), (1, .ref (adr w x0)), (2, .int x1), (3, .int (i25 + (-1)))]) [1, 2, 3, 0] rfl ?_
      exact jo_leaf (by rfl) (hF17_25 (σ27, i25 + (-1)))
theorem c_X2_run {w : Wd} (hw : WOK w) {σ : Mem} {x0 : Nat} {x1 : Int32} (hx0 : isk w x0 6) : ∀ r σ', f_X2_run σ x0 x1 = some (r, σ') → MC w mu_X2_run (vI r) [.ref (adr w 35), .ref (adr w x0), .int x1] σ σ' := mc_of ok_X2_run rfl (Nat.le_of_ble_eq_true rfl) (t_X2_run hw hx0)
abbrev mu_J9_min_7cf53 : MD := (yJ9_min_7cf53, cJ9_min_7cf53, 2, some .int, 0)
theorem ok_J9_min_7cf53 : MOK mu_J9_min_7cf53 2 := ⟨gw_709, gw_172, (by decide +kernel : plainFor yJ9_min_7cf53 = true), ⟨(by decide +kernel : yJ9_min_7cf53.cls ≠ "java/lang/invoke/MethodHandle"), (by decide +kernel : yJ9_min_7cf53.cls ≠ "java/lang/invoke/VarHandle"), (by decide +kernel : (parseMethodDescriptor yJ9_min_7cf53.desc).map (fun d => d.parameters.length) = some 2)⟩, Nat.le_of_ble_eq_true rfl⟩
noncomputable def f_J9_min_7cf53 (σ : Mem) (x0 : Int32) (x1 : Int32) : Option Int32 :=
  if x1 < x0 then (some x1) else (some x0)
theorem t_J9_min_7cf53 {w : Wd} (hw : WOK w) {σ : Mem} {x0 : Int32} {x1 : Int32} : JO w mu_J9_min_7cf53 vI σ [(0, .int x0), (1, .int x1)] [] 0 (f_J9_min_7cf53 σ x0 x1) (fun z => some (z, σ)) := by
  unfold f_J9_min_7cf53
  refine jo_iload_n (pc := 0) 0 rfl dJ9_min_7cf53_0 rfl ?_
  refine jo_iload_n (pc := 1) 1 rfl dJ9_min_7cf53_1 rfl ?_
  refine jo_icmp_gt (pc := 2) dJ9_min_7cf53_2 (tgt := 9) rfl ?_ ?_
  · refine jo_iload_n (pc := 9) 1 rfl dJ9_min_7cf53_9 rfl ?_
    exact jo_ireturn (pc := 10) rfl rfl dJ9_min_7cf53_10
  · refine jo_iload_n (pc := 5) 0 rfl dJ9_min_7cf53_5 rfl ?_
    refine jo_goto (pc := 6) dJ9_min_7cf53_6 (tgt := 10) rfl ?_
    exact jo_ireturn (pc := 10) rfl rfl dJ9_min_7cf53_10
theorem c_J9_min_7cf53 {w : Wd} (hw : WOK w) {σ : Mem} {x0 : Int32} {x1 : Int32} : ∀ r, f_J9_min_7cf53 σ x0 x1 = some r → MC w mu_J9_min_7cf53 (vI r) [.int x0, .int x1] σ σ := mc_ofP ok_J9_min_7cf53 rfl (Nat.le_of_ble_eq_true rfl) (t_J9_min_7cf53 hw)
abbrev mu_J9_max_7cf53 : MD := (yJ9_max_7cf53, cJ9_max_7cf53, 2, some .int, 0)
theorem ok_J9_max_7cf53 : MOK mu_J9_max_7cf53 2 := ⟨gw_753, gw_172, (by decide +kernel : plainFor yJ9_max_7cf53 = true), ⟨(by decide +kernel : yJ9_max_7cf53.cls ≠ "java/lang/invoke/MethodHandle"), (by decide +kernel : yJ9_max_7cf53.cls ≠ "java/lang/invoke/VarHandle"), (by decide +kernel : (parseMethodDescriptor yJ9_max_7cf53.desc).map (fun d => d.parameters.length) = some 2)⟩, Nat.le_of_ble_eq_true rfl⟩
noncomputable def f_J9_max_7cf53 (σ : Mem) (x0 : Int32) (x1 : Int32) : Option Int32 :=
  if x0 < x1 then (some x1) else (some x0)
theorem t_J9_max_7cf53 {w : Wd} (hw : WOK w) {σ : Mem} {x0 : Int32} {x1 : Int32} : JO w mu_J9_max_7cf53 vI σ [(0, .int x0), (1, .int x1)] [] 0 (f_J9_max_7cf53 σ x0 x1) (fun z => some (z, σ)) := by
  unfold f_J9_max_7cf53
  refine jo_iload_n (pc := 0) 0 rfl dJ9_max_7cf53_0 rfl ?_
  refine jo_iload_n (pc := 1) 1 rfl dJ9_max_7cf53_1 rfl ?_
  refine jo_icmp_lt (pc := 2) dJ9_max_7cf53_2 (tgt := 9) rfl ?_ ?_
  · refine jo_iload_n (pc := 9) 1 rfl dJ9_max_7cf53_9 rfl ?_
    exact jo_ireturn (pc := 10) rfl rfl dJ9_max_7cf53_10
  · refine jo_iload_n (pc := 5) 0 rfl dJ9_max_7cf53_5 rfl ?_
    refine jo_goto (pc := 6) dJ9_max_7cf53_6 (tgt := 10) rfl ?_
    exact jo_ireturn (pc := 10) rfl rfl dJ9_max_7cf53_10
theorem c_J9_max_7cf53 {w : Wd} (hw : WOK w) {σ : Mem} {x0 : Int32} {x1 : Int32} : ∀ r, f_J9_max_7cf53 σ x0 x1 = some r → MC w mu_J9_max_7cf53 (vI r) [.int x0, .int x1] σ σ := mc_ofP ok_J9_max_7cf53 rfl (Nat.le_of_ble_eq_true rfl) (t_J9_max_7cf53 hw)
abbrev mu_X3_clear : MD := (yX3_clear, cX3_clear, 3, none, 1)
theorem ok_X3_clear : MOK mu_X3_clear 1 := ⟨gw_1128, gw_166, (by decide +kernel : plainFor yX3_clear = true), ⟨(by decide +kernel : yX3_clear.cls ≠ "java/lang/invoke/MethodHandle"), (by decide +kernel : yX3_clear.cls ≠ "java/lang/invoke/VarHandle"), (by decide +kernel : (parseMethodDescriptor yX3_clear.desc).map (fun d => d.parameters.length) = some 1)⟩, Nat.le_of_ble_eq_true rfl⟩
noncomputable def l_X3_clear_16 (a : Nat) (σ4 : Mem) (i5 : Int32) : Option ((Mem × Int32) ⊕ Mem) :=
  if 6 ≤ i5 then (some (Sum.inr σ4)) else (gR (rf a 1) i5 (fun (p6 : Nat) => (f_J7_fill_d0a16 σ4 p6 0).bind (fun (σ7 : Mem) => some (Sum.inl (σ7, i5 + 1)))))
noncomputable def f_X3_clear (σ : Mem) (a : Nat) (x0 : Int32) : Option Mem :=
  (f_J9_min_7cf53 σ x0 6).bind (fun (v1 : Int32) => (f_J9_max_7cf53 σ 0 v1).bind (fun (v2 : Int32) => pF σ a 0 v2 (fun (σ3 : Mem) => loopO (fun (z5 : (Mem × Int32)) => l_X3_clear_16 a z5.1 z5.2) (σ3, 0))))
theorem t_X3_clear {w : Wd} (hw : WOK w) {σ : Mem} {a : Nat} {x0 : Int32} (ha : isk w a 3) : JO w mu_X3_clear vV σ [(0, .ref (adr w a)), (1, .int x0)] [] 0 (f_X3_clear σ a x0) (fun z => some ((), z)) := by
  unfold f_X3_clear
  refine jo_aload_n (pc := 0) 0 rfl dX3_clear_0 rfl ?_
  refine jo_iconst (pc := 1) dX3_clear_1 (ic_i_0) ?_
  refine jo_iload_n (pc := 2) 1 rfl dX3_clear_2 rfl ?_
  refine jo_bipush (pc := 3) dX3_clear_3 (ic_b_6) ?_
  refine jo_cS_I_p (pc := 5) (μ' := mu_J9_min_7cf53) (fx := f_J9_min_7cf53 σ x0 6) (As := [.int x0, .int 6]) (c_J9_min_7cf53 hw) (ok_J9_min_7cf53) (ltb rfl) (all2 gw_1129 gw_708) rfl rfl (Nat.le_of_ble_eq_true rfl) dX3_clear_5 (fun v1 => ?_)
  refine jo_cS_I_p (pc := 8) (μ' := mu_J9_max_7cf53) (fx := f_J9_max_7cf53 σ 0 v1) (As := [.int 0, .int v1]) (c_J9_max_7cf53 hw) (ok_J9_max_7cf53) (ltb rfl) (all2 gw_1130 gw_752) rfl rfl (Nat.le_of_ble_eq_true rfl) dX3_clear_8 (fun v2 => ?_)
  refine jo_putf (pc := 11) ok_3_0 okp_3_0 (ha) gw_378 dX3_clear_11 (fun σ3 => ?_)
  refine jo_iconst (pc := 14) dX3_clear_14 (ic_i_0) ?_
  refine jo_istore_n (pc := 15) (lv' := [(2, .int 0), (0, .ref (adr w a)), (1, .int x0)]) dX3_clear_15 rfl (ltb rfl) rfl ?_
  refine jo_lv (lv' := [(0, .ref (adr w a)), (2, .int 0)]) [1, 0] rfl ?_
  refine jo_loop (X := Mem) (fun (z5 : (Mem × Int32)) => z5.1) (fun (z5 : (Mem × Int32)) => [(0, .ref (adr w a)), (2, .int z5.2)]) (body := (fun (z5 : (Mem × Int32)) => l_X3_clear_16 a z5.1 z5.2)) (fun F16_5 hF16_5 s => ?_) (σ3, 0)
  obtain ⟨σ4, i5⟩ := s
  show JO w mu_X3_clear vV σ4 [(0, .ref (adr w a)), (2, .int i5)] [] 16 (l_X3_clear_16 a σ4 i5) _
  unfold l_X3_clear_16
  refine jo_iload_n (pc := 16) 1 rfl dX3_clear_16 rfl ?_
  refine jo_bipush (pc := 17) dX3_clear_17 (ic_b_6) ?_
  refine jo_icmp_ge (pc := 19) dX3_clear_19 (tgt := 38) rfl ?_ ?_
  · exact jo_return (pc := 38) rfl rfl dX3_clear_38
  · refine jo_aload_n (pc := 22) 0 rfl dX3_clear_22 rfl ?_
    refine jo_getr (pc := 23) ok_3_1 (ha) gw_379 dX3_clear_23 ?_
    refine jo_iload_n (pc := 26) 1 rfl dX3_clear_26 rfl ?_
    refine jo_aaldG (pc := 27) (z := 13) hw (wf_3_1 hw (ha)) (by decide) (t := 4) rfl rfl (by decide) dX3_clear_27 (fun p6 hp6 => ?_)
    refine jo_lconst (pc := 28) dX3_clear_28 (ic_l_0) ?_
    refine jo_cS_V_i (pc := 29) (μ' := mu_J7_fill_d0a16) (fx := f_J7_fill_d0a16 σ4 p6 0) (As := [.ref (adr w p6), .long 0]) (c_J7_fill_d0a16 hw (hp6)) (ok_J7_fill_d0a16) (ltb rfl) (all2 gw_1131 gw_715) rfl rfl (Nat.le_of_ble_eq_true rfl) dX3_clear_29 (fun σ7 => ?_)
    refine jo_iinc (pc := 32) (lv' := [(2, .int (i5 + 1)), (0, .ref (adr w a))]) 1 rfl dX3_clear_32 (congrArg (fun z => i5 + z) (ic_i_1)) (ltb rfl) rfl ?_
    refine jo_goto (pc := 35) dX3_clear_35 (tgt := 16) rfl ?_
    refine jo_lv (lv' := [(0, .ref (adr w a)), (2, .int (i5 + 1))]) [1, 0] rfl ?_
    exact jo_leaf (by rfl) (hF16_5 (σ7, i5 + 1))
theorem c_X3_clear {w : Wd} (hw : WOK w) {σ : Mem} {a : Nat} {x0 : Int32} (ha : isk w a 3) : ∀ σ', f_X3_clear σ a x0 = some σ' → MC w mu_X3_clear none [.ref (adr w a), .int x0] σ σ' := mc_ofV ok_X3_clear rfl (Nat.le_of_ble_eq_true rfl) (t_X3_clear hw ha)
abbrev mu_X3_hasStep : MD := (yX3_hasStep, cX3_hasStep, 2, some .boolean, 0)
theorem ok_X3_hasStep : MOK mu_X3_hasStep 1 := ⟨gw_1216, gw_166, (by decide +kernel : plainFor yX3_hasStep = true), ⟨(by decide +kernel : yX3_hasStep.cls ≠ "java/lang/invoke/MethodHandle"), (by decide +kernel : yX3_hasStep.cls ≠ "java/lang/invoke/VarHandle"), (by decide +kernel : (parseMethodDescriptor yX3_hasStep.desc).map (fun d => d.parameters.length) = some 1)⟩, Nat.le_of_ble_eq_true rfl⟩
noncomputable def j_X3_hasStep_29  : Option Bool :=
  some false
noncomputable def f_X3_hasStep (σ : Mem) (a : Nat) (x0 : Int32) : Option Bool :=
  (if x0 < 0 then (some (Sum.inl ())) else (gF σ a 0 (fun (v1 : Int32) => if v1 ≤ x0 then (some (Sum.inl ())) else (gR (rf a 1) x0 (fun (p2 : Nat) => gL σ p2 x0 (fun (v3 : Int64) => if v3 = 0 then (some (Sum.inl ())) else (some (Sum.inr true))))))) : Option (Unit ⊕ Bool)).bind (Sum.elim (fun (z0 : Unit) => j_X3_hasStep_29) some)
theorem t_X3_hasStep {w : Wd} (hw : WOK w) {σ : Mem} {a : Nat} {x0 : Int32} (ha : isk w a 3) : JO w mu_X3_hasStep vB σ [(0, .ref (adr w a)), (1, .int x0)] [] 0 (f_X3_hasStep σ a x0) (fun z => some (z, σ)) := by
  unfold f_X3_hasStep
  refine jo_iload_n (pc := 0) 1 rfl dX3_hasStep_0 rfl ?_
  refine jo_joinS (S := Unit) (fun (z0 : Unit) => σ) (fun (z0 : Unit) => []) (fun (z0 : Unit) => []) 29 ?_ (fun h29_0 => ?_)
  · intro _
    show JO w mu_X3_hasStep vB σ [] [] 29 (j_X3_hasStep_29) _
    unfold j_X3_hasStep_29
    refine jo_iconst (pc := 29) dX3_hasStep_29 (ic_i_0) ?_
    exact jo_breturn (pc := 30) (b := false) rfl rfl dX3_hasStep_30
  · refine jo_if_lt (pc := 1) dX3_hasStep_1 (tgt := 29) rfl ?_ ?_
    · refine jo_lv (lv' := []) [] rfl ?_
      exact jo_leaf (by rfl) (h29_0 ())
    · refine jo_iload_n (pc := 4) 1 rfl dX3_hasStep_4 rfl ?_
      refine jo_aload_n (pc := 5) 0 rfl dX3_hasStep_5 rfl ?_
      refine jo_getf (pc := 6) ok_3_0 (ha) gw_378 dX3_hasStep_6 (fun v1 => ?_)
      refine jo_icmp_ge (pc := 9) dX3_hasStep_9 (tgt := 29) rfl ?_ ?_
      · refine jo_lv (lv' := []) [] rfl ?_
        exact jo_leaf (by rfl) (h29_0 ())
      · refine jo_aload_n (pc := 12) 0 rfl dX3_hasStep_12 rfl ?_
        refine jo_getr (pc := 13) ok_3_1 (ha) gw_379 dX3_hasStep_13 ?_
        refine jo_iload_n (pc := 16) 1 rfl dX3_hasStep_16 rfl ?_
        refine jo_aaldG (pc := 17) (z := 13) hw (wf_3_1 hw (ha)) (by decide) (t := 4) rfl rfl (by decide) dX3_hasStep_17 (fun p2 hp2 => ?_)
        refine jo_iload_n (pc := 18) 1 rfl dX3_hasStep_18 rfl ?_
        refine jo_lald (pc := 19) (hp2) dX3_hasStep_19 (fun v3 => ?_)
        refine jo_lconst (pc := 20) dX3_hasStep_20 (ic_l_0) ?_
        refine jo_lcmp_eq (pc := 21) dX3_hasStep_21 dX3_hasStep_22 (tgt := 29) rfl ?_ ?_
        · refine jo_lv (lv' := []) [] rfl ?_
          exact jo_leaf (by rfl) (h29_0 ())
        · refine jo_iconst (pc := 25) dX3_hasStep_25 (ic_i_1) ?_
          refine jo_goto (pc := 26) dX3_hasStep_26 (tgt := 30) rfl ?_
          exact jo_breturn (pc := 30) (b := true) rfl rfl dX3_hasStep_30
theorem c_X3_hasStep {w : Wd} (hw : WOK w) {σ : Mem} {a : Nat} {x0 : Int32} (ha : isk w a 3) : ∀ r, f_X3_hasStep σ a x0 = some r → MC w mu_X3_hasStep (vB r) [.ref (adr w a), .int x0] σ σ := mc_ofP ok_X3_hasStep rfl (Nat.le_of_ble_eq_true rfl) (t_X3_hasStep hw ha)
abbrev mu_J9_floorDiv_f86c9 : MD := (yJ9_floorDiv_f86c9, cJ9_floorDiv_f86c9, 6, some .long, 0)
theorem ok_J9_floorDiv_f86c9 : MOK mu_J9_floorDiv_f86c9 2 := ⟨gw_1147, gw_172, (by decide +kernel : plainFor yJ9_floorDiv_f86c9 = true), ⟨(by decide +kernel : yJ9_floorDiv_f86c9.cls ≠ "java/lang/invoke/MethodHandle"), (by decide +kernel : yJ9_floorDiv_f86c9.cls ≠ "java/lang/invoke/VarHandle"), (by decide +kernel : (parseMethodDescriptor yJ9_floorDiv_f86c9.desc).map (fun d => d.parameters.length) = some 2)⟩, Nat.le_of_ble_eq_true rfl⟩
noncomputable def f_J9_floorDiv_f86c9 (σ : Mem) (x0 : Int64) (x1 : Int64) : Option Int64 :=
  nzL x1 (bd (x0 / x1) (fun (v1 : Int64) => if 0 ≤ (x0 ^^^ x1) then (some v1) else (if (v1 * x1) = x0 then (some v1) else (some (v1 - 1)))))
theorem t_J9_floorDiv_f86c9 {w : Wd} (hw : WOK w) {σ : Mem} {x0 : Int64} {x1 : Int64} : JO w mu_J9_floorDiv_f86c9 vL σ [(0, .long x0), (2, .long x1)] [] 0 (f_J9_floorDiv_f86c9 σ x0 x1) (fun z => some (z, σ)) := by
  unfold f_J9_floorDiv_f86c9
  refine jo_lload_n (pc := 0) 0 rfl dJ9_floorDiv_f86c9_0 rfl ?_
  refine jo_lload_n (pc := 1) 1 rfl dJ9_floorDiv_f86c9_1 rfl ?_
  refine jo_ldiv (pc := 2) dJ9_floorDiv_f86c9_2 ?_
  refine jo_bd ?_
  refine jo_lstore (pc := 3) (lv' := [(4, .long (x0 / x1)), (0, .long x0), (2, .long x1)]) dJ9_floorDiv_f86c9_3 (ltb rfl) rfl ?_
  generalize (x0 / x1) = v1
  refine jo_lload_n (pc := 5) 1 rfl dJ9_floorDiv_f86c9_5 rfl ?_
  refine jo_lload_n (pc := 6) 2 rfl dJ9_floorDiv_f86c9_6 rfl ?_
  refine jo_lxor (pc := 7) dJ9_floorDiv_f86c9_7 ?_
  refine jo_lconst (pc := 8) dJ9_floorDiv_f86c9_8 (ic_l_0) ?_
  refine jo_lcmp_ge (pc := 9) dJ9_floorDiv_f86c9_9 dJ9_floorDiv_f86c9_10 (tgt := 27) rfl ?_ ?_
  · refine jo_lload (pc := 27) 0 rfl dJ9_floorDiv_f86c9_27 ?_
    exact jo_lreturn (pc := 29) rfl rfl dJ9_floorDiv_f86c9_29
  · refine jo_lload (pc := 13) 0 rfl dJ9_floorDiv_f86c9_13 ?_
    refine jo_lload_n (pc := 15) 2 rfl dJ9_floorDiv_f86c9_15 rfl ?_
    refine jo_lmul (pc := 16) dJ9_floorDiv_f86c9_16 ?_
    refine jo_lload_n (pc := 17) 1 rfl dJ9_floorDiv_f86c9_17 rfl ?_
    refine jo_lcmp_eq (pc := 18) dJ9_floorDiv_f86c9_18 dJ9_floorDiv_f86c9_19 (tgt := 27) rfl ?_ ?_
    · refine jo_lload (pc := 27) 0 rfl dJ9_floorDiv_f86c9_27 ?_
      exact jo_lreturn (pc := 29) rfl rfl dJ9_floorDiv_f86c9_29
    · refine jo_lload (pc := 22) 0 rfl dJ9_floorDiv_f86c9_22 ?_
      refine jo_lconst (pc := 24) dJ9_floorDiv_f86c9_24 (ic_l_1) ?_
      refine jo_lsub (pc := 25) dJ9_floorDiv_f86c9_25 ?_
      exact jo_lreturn (pc := 26) rfl rfl dJ9_floorDiv_f86c9_26
theorem c_J9_floorDiv_f86c9 {w : Wd} (hw : WOK w) {σ : Mem} {x0 : Int64} {x1 : Int64} : ∀ r, f_J9_floorDiv_f86c9 σ x0 x1 = some r → MC w mu_J9_floorDiv_f86c9 (vL r) [.long x0, .long x1] σ σ := mc_ofP ok_J9_floorDiv_f86c9 rfl (Nat.le_of_ble_eq_true rfl) (t_J9_floorDiv_f86c9 hw)
abbrev mu_X3_subtract : MD := (yX3_subtract, cX3_subtract, 6, none, 0)
theorem ok_X3_subtract : MOK mu_X3_subtract 3 := ⟨gw_1151, gw_166, (by decide +kernel : plainFor yX3_subtract = true), ⟨(by decide +kernel : yX3_subtract.cls ≠ "java/lang/invoke/MethodHandle"), (by decide +kernel : yX3_subtract.cls ≠ "java/lang/invoke/VarHandle"), (by decide +kernel : (parseMethodDescriptor yX3_subtract.desc).map (fun d => d.parameters.length) = some 3)⟩, Nat.le_of_ble_eq_true rfl⟩
noncomputable def l_X3_subtract_3 (a : Nat) (x0 : Nat) (x1 : Nat) (x2 : Int64) (σ1 : Mem) (i2 : Int32) : Option ((Mem × Int32) ⊕ Mem) :=
  gF σ1 a 0 (fun (v3 : Int32) => if v3 ≤ i2 then (some (Sum.inr σ1)) else (gL σ1 x0 i2 (fun (v4 : Int64) => gL σ1 x1 i2 (fun (v5 : Int64) => pL σ1 x0 i2 (v4 - (x2 * v5)) (fun (σ6 : Mem) => some (Sum.inl (σ6, i2 + 1)))))))
noncomputable def f_X3_subtract (σ : Mem) (a : Nat) (x0 : Nat) (x1 : Nat) (x2 : Int64) : Option Mem :=
  loopO (fun (z2 : (Mem × Int32)) => l_X3_subtract_3 a x0 x1 x2 z2.1 z2.2) (σ, 0)
theorem t_X3_subtract {w : Wd} (hw : WOK w) {σ : Mem} {a : Nat} {x0 : Nat} {x1 : Nat} {x2 : Int64} (ha : isk w a 3) (hx0 : isk w x0 13) (hx1 : isk w x1 13) : JO w mu_X3_subtract vV σ [(0, .ref (adr w a)), (1, .ref (adr w x0)), (2, .ref (adr w x1)), (3, .long x2)] [] 0 (f_X3_subtract σ a x0 x1 x2) (fun z => some ((), z)) := by
  unfold f_X3_subtract
  refine jo_iconst (pc := 0) dX3_subtract_0 (ic_i_0) ?_
  refine jo_istore (pc := 1) (lv' := [(5, .int 0), (0, .ref (adr w a)), (1, .ref (adr w x0)), (2, .ref (adr w x1)), (3, .long x2)]) dX3_subtract_1 (ltb rfl) rfl ?_
  refine jo_lv (lv' := [(0, .ref (adr w a)), (1, .ref (adr w x0)), (2, .ref (adr w x1)), (3, .long x2), (5, .int 0)]) [1, 2, 3, 4, 0] rfl ?_
  refine jo_loop (X := Mem) (fun (z2 : (Mem × Int32)) => z2.1) (fun (z2 : (Mem × Int32)) => [(0, .ref (adr w a)), (1, .ref (adr w x0)), (2, .ref (adr w x1)), (3, .long x2), (5, .int z2.2)]) (body := (fun (z2 : (Mem × Int32)) => l_X3_subtract_3 a x0 x1 x2 z2.1 z2.2)) (fun F3_2 hF3_2 s => ?_) (σ, 0)
  obtain ⟨σ1, i2⟩ := s
  show JO w mu_X3_subtract vV σ1 [(0, .ref (adr w a)), (1, .ref (adr w x0)), (2, .ref (adr w x1)), (3, .long x2), (5, .int i2)] [] 3 (l_X3_subtract_3 a x0 x1 x2 σ1 i2) _
  unfold l_X3_subtract_3
  refine jo_iload (pc := 3) 4 rfl dX3_subtract_3 ?_
  refine jo_aload_n (pc := 5) 0 rfl dX3_subtract_5 rfl ?_
  refine jo_getf (pc := 6) ok_3_0 (ha) gw_378 dX3_subtract_6 (fun v3 => ?_)
  refine jo_icmp_ge (pc := 9) dX3_subtract_9 (tgt := 31) rfl ?_ ?_
  · exact jo_return (pc := 31) rfl rfl dX3_subtract_31
  · refine jo_aload_n (pc := 12) 1 rfl dX3_subtract_12 rfl ?_
    refine jo_iload (pc := 13) 4 rfl dX3_subtract_13 ?_
    refine jo_dup2 (pc := 15) dX3_subtract_15 rfl rfl ?_
    refine jo_lald (pc := 16) (hx0) dX3_subtract_16 (fun v4 => ?_)
    refine jo_lload_n (pc := 17) 3 rfl dX3_subtract_17 rfl ?_
    refine jo_aload_n (pc := 18) 2 rfl dX3_subtract_18 rfl ?_
    refine jo_iload (pc := 19) 4 rfl dX3_subtract_19 ?_
    refine jo_lald (pc := 21) (hx1) dX3_subtract_21 (fun v5 => ?_)
    refine jo_lmul (pc := 22) dX3_subtract_22 ?_
    refine jo_lsub (pc := 23) dX3_subtract_23 ?_
    refine jo_last (pc := 24) (hx0) dX3_subtract_24 (fun σ6 => ?_)
    refine jo_iinc (pc := 25) (lv' := [(5, .int (i2 + 1)), (0, .ref (adr w a)), (1, .ref (adr w x0)), (2, .ref (adr w x1)), (3, .long x2)]) 4 rfl dX3_subtract_25 (congrArg (fun z => i2 + z) (ic_i_1)) (ltb rfl) rfl ?_
    refine jo_goto (pc := 28) dX3_subtract_28 (tgt := 3) rfl ?_
    refine jo_lv (lv' := [(0, .ref (adr w a)), (1, .ref (adr w x0)), (2, .ref (adr w x1)), (3, .long x2), (5, .int (i2 + 1))]) [1, 2, 3, 4, 0] rfl ?_
    exact jo_leaf (by rfl) (hF3_2 (σ6, i2 + 1))
theorem c_X3_subtract {w : Wd} (hw : WOK w) {σ : Mem} {a : Nat} {x0 : Nat} {x1 : Nat} {x2 : Int64} (ha : isk w a 3) (hx0 : isk w x0 13) (hx1 : isk w x1 13) : ∀ σ', f_X3_subtract σ a x0 x1 x2 = some σ' → MC w mu_X3_subtract none [.ref (adr w a), .ref (adr w x0), .ref (adr w x1), .long x2] σ σ' := mc_ofV ok_X3_subtract rfl (Nat.le_of_ble_eq_true rfl) (t_X3_subtract hw ha hx0 hx1)
