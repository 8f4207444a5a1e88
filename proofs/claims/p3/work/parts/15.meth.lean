abbrev mu_X7_conjugator : MD := (yX7_conjugator, cX7_conjugator, 7, some .boolean, 6)
theorem ok_X7_conjugator : MOK mu_X7_conjugator 4 := ⟨gw_904, gw_165, (by decide +kernel : plainFor yX7_conjugator = true), ⟨(by decide +kernel : yX7_conjugator.cls ≠ "java/lang/invoke/MethodHandle"), (by decide +kernel : yX7_conjugator.cls ≠ "java/lang/invoke/VarHandle"), (by decide +kernel : (parseMethodDescriptor yX7_conjugator.desc).map (fun d => d.parameters.length) = some 4)⟩, Nat.le_of_ble_eq_true rfl⟩
noncomputable def j_X7_conjugator_87 (x0 : Nat) (x3 : Int32) (σ2 : Mem) (i3 : Int32) (i4 : Int32) : Option (Bool × Mem) :=
  (f_X7_areClosed σ2 0 i4).bind (fun (b5 : Bool) => if b5 then bq (f_X7_findWithin σ2 x3 i3) (fun (b6 : Bool) (σ7 : Mem) => if b6 then (f_X0_copy σ7 103 x0).bind (fun (σ8 : Mem) => some (true, σ8)) else some (false, σ7)) else some (false, σ2))
noncomputable def j_X7_conjugator_74 (x0 : Nat) (x3 : Int32) (σ2 : Mem) (i3 : Int32) : Option (Bool × Mem) :=
  (if i3 = 0 then (some 6) else (some 1) : Option Int32).bind (fun (z4 : Int32) => j_X7_conjugator_87 x0 x3 σ2 i3 z4)
noncomputable def j_X7_conjugator_65 (i9 : Int32) (i10 : Int32) (b14 : Bool) : Option ((Int32 × Int32) ⊕ Int32) :=
  bd (i9 + (b2i b14)) (fun (v15 : Int32) => some (Sum.inl (v15, i10 + 1)))
noncomputable def l_X7_conjugator_17 (σ2 : Mem) (i9 : Int32) (i10 : Int32) : Option ((Int32 × Int32) ⊕ Int32) :=
  gF σ2 41 0 (fun (v11 : Int32) => if v11 ≤ i10 then (some (Sum.inr i9)) else (gI σ2 42 i10 (fun (v12 : Int32) => (f_X6_top σ2 41).bind (fun (v13 : Int32) => (if v13 ≤ v12 then (some false) else (some true) : Option Bool).bind (fun (z14 : Bool) => j_X7_conjugator_65 i9 i10 z14)))))
noncomputable def f_X7_conjugator (σ : Mem) (x0 : Nat) (x1 : Nat) (x2 : Nat) (x3 : Int32) : Option (Bool × Mem) :=
  (f_X7_findGaps σ x1 x2).bind (fun (σ1 : Mem) => (f_X7_putU σ1 0).bind (fun (σ2 : Mem) => (loopO (fun (z10 : (Int32 × Int32)) => l_X7_conjugator_17 σ2 z10.1 z10.2) (0, 0) : Option Int32).bind (fun (z3 : Int32) => j_X7_conjugator_74 x0 x3 σ2 z3)))
theorem t_X7_conjugator {w : Wd} (hw : WOK w) {σ : Mem} {x0 : Nat} {x1 : Nat} {x2 : Nat} {x3 : Int32} (hx0 : isk w x0 13) (hx1 : isk w x1 13) (hx2 : isk w x2 13) : JO w mu_X7_conjugator vB σ [(0, .ref (adr w 80)), (1, .ref (adr w x0)), (2, .ref (adr w x1)), (3, .ref (adr w x2)), (4, .int x3)] [] 0 (f_X7_conjugator σ x0 x1 x2 x3) some := by
  unfold f_X7_conjugator
  refine jo_aload_n (pc := 0) 0 rfl dX7_conjugator_0 rfl ?_
  refine jo_aload_n (pc := 1) 2 rfl dX7_conjugator_1 rfl ?_
  refine jo_aload_n (pc := 2) 3 rfl dX7_conjugator_2 rfl ?_
  refine jo_cV_V_i (pc := 3) (μ' := mu_X7_findGaps) (fx := f_X7_findGaps σ x1 x2) (As := [.ref (adr w x1), .ref (adr w x2)]) (c_X7_findGaps hw (hx1) (hx2)) (ok_X7_findGaps) (ltb rfl) (all3 gw_905 gw_907 gw_18) (ik_80 hw) (by decide) (q := (RX7, TX7, 11)) rfl rfl rfl rfl (Nat.le_of_ble_eq_true rfl) dX7_conjugator_3 (fun σ1 => ?_)
  refine jo_aload_n (pc := 6) 0 rfl dX7_conjugator_6 rfl ?_
  refine jo_lconst (pc := 7) dX7_conjugator_7 (ic_l_0) ?_
  refine jo_cV_V_i (pc := 8) (μ' := mu_X7_putU) (fx := f_X7_putU σ1 0) (As := [.long 0]) (c_X7_putU hw) (ok_X7_putU) (ltb rfl) (all3 gw_924 gw_926 gw_20) (ik_80 hw) (by decide) (q := (RX7, TX7, 11)) rfl rfl rfl rfl (Nat.le_of_ble_eq_true rfl) dX7_conjugator_8 (fun σ2 => ?_)
  refine jo_iconst (pc := 11) dX7_conjugator_11 (ic_i_0) ?_
  refine jo_istore (pc := 12) (lv' := [(5, .int 0), (0, .ref (adr w 80)), (1, .ref (adr w x0)), (2, .ref (adr w x1)), (3, .ref (adr w x2)), (4, .int x3)]) dX7_conjugator_12 (ltb rfl) rfl ?_
  refine jo_iconst (pc := 14) dX7_conjugator_14 (ic_i_0) ?_
  refine jo_istore (pc := 15) (lv' := [(6, .int 0), (5, .int 0), (0, .ref (adr w 80)), (1, .ref (adr w x0)), (2, .ref (adr w x1)), (3, .ref (adr w x2)), (4, .int x3)]) dX7_conjugator_15 (ltb rfl) rfl ?_
  refine jo_join1 (S := Int32) (fun (z3 : Int32) => σ2) (fun (z3 : Int32) => [(0, .ref (adr w 80)), (1, .ref (adr w x0)), (4, .int x3), (5, .int z3)]) (fun (z3 : Int32) => []) 74 ?_ (fun h74_3 => ?_)
  · intro i3
    show JO w mu_X7_conjugator vB σ2 [(0, .ref (adr w 80)), (1, .ref (adr w x0)), (4, .int x3), (5, .int i3)] [] 74 (j_X7_conjugator_74 x0 x3 σ2 i3) _
    unfold j_X7_conjugator_74
    refine jo_aload_n (pc := 74) 0 rfl dX7_conjugator_74 rfl ?_
    refine jo_iconst (pc := 75) dX7_conjugator_75 (ic_i_0) ?_
    refine jo_iload (pc := 76) 3 rfl dX7_conjugator_76 ?_
    refine jo_join1 (S := Int32) (fun (z4 : Int32) => σ2) (fun (z4 : Int32) => [(0, .ref (adr w 80)), (1, .ref (adr w x0)), (4, .int x3), (5, .int i3)]) (fun (z4 : Int32) => [.int z4, .int 0, .ref (adr w 80)]) 87 ?_ (fun h87_4 => ?_)
    · intro i4
      show JO w mu_X7_conjugator vB σ2 [(0, .ref (adr w 80)), (1, .ref (adr w x0)), (4, .int x3), (5, .int i3)] [.int i4, .int 0, .ref (adr w 80)] 87 (j_X7_conjugator_87 x0 x3 σ2 i3 i4) _
      unfold j_X7_conjugator_87
      refine jo_cV_Z_p (pc := 87) (μ' := mu_X7_areClosed) (fx := f_X7_areClosed σ2 0 i4) (As := [.int 0, .int i4]) (c_X7_areClosed hw) (ok_X7_areClosed) (ltb rfl) (all3 gw_933 gw_935 gw_22) (ik_80 hw) (by decide) (q := (RX7, TX7, 11)) rfl rfl rfl rfl (Nat.le_of_ble_eq_true rfl) dX7_conjugator_87 (fun b5 => ?_)
      refine jo_ifz_eq (pc := 90) dX7_conjugator_90 (tgt := 104) rfl ?_ ?_
      · refine jo_iconst (pc := 104) dX7_conjugator_104 (ic_i_0) ?_
        exact jo_breturn (pc := 105) (b := false) rfl rfl dX7_conjugator_105
      · refine jo_aload_n (pc := 93) 0 rfl dX7_conjugator_93 rfl ?_
        refine jo_iload (pc := 94) 2 rfl dX7_conjugator_94 ?_
        refine jo_iload (pc := 96) 3 rfl dX7_conjugator_96 ?_
        refine jo_cV_Z_i (pc := 98) (μ' := mu_X7_findWithin) (fx := f_X7_findWithin σ2 x3 i3) (As := [.int x3, .int i3]) (c_X7_findWithin hw) (ok_X7_findWithin) (ltb rfl) (all3 gw_938 gw_940 gw_23) (ik_80 hw) (by decide) (q := (RX7, TX7, 11)) rfl rfl rfl rfl (Nat.le_of_ble_eq_true rfl) dX7_conjugator_98 (fun b6 σ7 => ?_)
        refine jo_ifz_ne (pc := 101) dX7_conjugator_101 (tgt := 106) rfl ?_ ?_
        · refine jo_aload_n (pc := 106) 0 rfl dX7_conjugator_106 rfl ?_
          refine jo_getrE (pc := 107) ok_7_7 (ik_80 hw) rf_80_7 gw_398 dX7_conjugator_107 ?_
          refine jo_aload_n (pc := 110) 1 rfl dX7_conjugator_110 rfl ?_
          refine jo_cS_V_i (pc := 111) (μ' := mu_X0_copy) (fx := f_X0_copy σ7 103 x0) (As := [.ref (adr w 103), .ref (adr w x0)]) (c_X0_copy hw (ik_103 hw) (hx0)) (ok_X0_copy) (ltb rfl) (all2 gw_943 gw_704) rfl rfl (Nat.le_of_ble_eq_true rfl) dX7_conjugator_111 (fun σ8 => ?_)
          refine jo_iconst (pc := 114) dX7_conjugator_114 (ic_i_1) ?_
          exact jo_breturn (pc := 115) (b := true) rfl rfl dX7_conjugator_115
        · refine jo_iconst (pc := 104) dX7_conjugator_104 (ic_i_0) ?_
          exact jo_breturn (pc := 105) (b := false) rfl rfl dX7_conjugator_105
    · refine jo_if_ne (pc := 78) dX7_conjugator_78 (tgt := 86) rfl ?_ ?_
      · refine jo_iconst (pc := 86) dX7_conjugator_86 (ic_i_1) ?_
        exact jo_leaf (by rfl) (h87_4 1)
      · refine jo_bipush (pc := 81) dX7_conjugator_81 (ic_b_6) ?_
        refine jo_goto (pc := 83) dX7_conjugator_83 (tgt := 87) rfl ?_
        exact jo_leaf (by rfl) (h87_4 6)
  · refine jo_lv (lv' := [(0, .ref (adr w 80)), (1, .ref (adr w x0)), (4, .int x3), (5, .int 0), (6, .int 0)]) [2, 3, 6, 1, 0] rfl ?_
    refine jo_loop (X := Int32) (fun (z10 : (Int32 × Int32)) => σ2) (fun (z10 : (Int32 × Int32)) => [(0, .ref (adr w 80)), (1, .ref (adr w x0)), (4, .int x3), (5, .int z10.1), (6, .int z10.2)]) (body := (fun (z10 : (Int32 × Int32)) => l_X7_conjugator_17 σ2 z10.1 z10.2)) (fun F17_10 hF17_10 s => ?_) (0, 0)
    obtain ⟨i9, i10⟩ := s
    show JO w mu_X7_conjugator vB σ2 [(0, .ref (adr w 80)), (1, .ref (adr w x0)), (4, .int x3), (5, .int i9), (6, .int i10)] [] 17 (l_X7_conjugator_17 σ2 i9 i10) _
    unfold l_X7_conjugator_17
    refine jo_iload (pc := 17) 4 rfl dX7_conjugator_17 ?_
    refine jo_aload_n (pc := 19) 0 rfl dX7_conjugator_19 rfl ?_
    refine jo_getrE (pc := 20) ok_7_0 (ik_80 hw) rf_80_0 gw_391 dX7_conjugator_20 ?_
    refine jo_getrE (pc := 23) ok_4_0 (ik_40 hw) rf_40_0 gw_300 dX7_conjugator_23 ?_
    refine jo_getf (pc := 26) ok_6_0 (ik_41 hw) gw_195 dX7_conjugator_26 (fun v11 => ?_)
    refine jo_icmp_ge (pc := 29) dX7_conjugator_29 (tgt := 74) rfl ?_ ?_
    · refine jo_lv (lv' := [(0, .ref (adr w 80)), (1, .ref (adr w x0)), (4, .int x3), (5, .int i9)]) [0, 1, 2, 3] rfl ?_
      exact jo_leaf (by rfl) (h74_3 i9)
    · refine jo_iload (pc := 32) 3 rfl dX7_conjugator_32 ?_
      refine jo_aload_n (pc := 34) 0 rfl dX7_conjugator_34 rfl ?_
      refine jo_getrE (pc := 35) ok_7_0 (ik_80 hw) rf_80_0 gw_391 dX7_conjugator_35 ?_
      refine jo_getrE (pc := 38) ok_4_0 (ik_40 hw) rf_40_0 gw_300 dX7_conjugator_38 ?_
      refine jo_getrE (pc := 41) ok_6_1 (ik_41 hw) rf_41_1 gw_201 dX7_conjugator_41 ?_
      refine jo_iload (pc := 44) 4 rfl dX7_conjugator_44 ?_
      refine jo_iald (pc := 46) (ik_42 hw) dX7_conjugator_46 (fun v12 => ?_)
      refine jo_aload_n (pc := 47) 0 rfl dX7_conjugator_47 rfl ?_
      refine jo_getrE (pc := 48) ok_7_0 (ik_80 hw) rf_80_0 gw_391 dX7_conjugator_48 ?_
      refine jo_getrE (pc := 51) ok_4_0 (ik_40 hw) rf_40_0 gw_300 dX7_conjugator_51 ?_
      refine jo_cV_I_p (pc := 54) (μ' := mu_X6_top) (fx := f_X6_top σ2 41) (As := []) (c_X6_top hw (ik_41 hw)) (ok_X6_top) (ltb rfl) (all3 gw_932 gw_606 gw_607) (ik_41 hw) (by decide) (q := (RX6, TX6, 3)) rfl rfl rfl rfl (Nat.le_of_ble_eq_true rfl) dX7_conjugator_54 (fun v13 => ?_)
      refine jo_join1 (S := Bool) (fun (z14 : Bool) => σ2) (fun (z14 : Bool) => [(0, .ref (adr w 80)), (1, .ref (adr w x0)), (4, .int x3), (6, .int i10)]) (fun (z14 : Bool) => [.int (b2i z14), .int i9]) 65 ?_ (fun h65_14 => ?_)
      · intro b14
        show JO w mu_X7_conjugator vB σ2 [(0, .ref (adr w 80)), (1, .ref (adr w x0)), (4, .int x3), (6, .int i10)] [.int (b2i b14), .int i9] 65 (j_X7_conjugator_65 i9 i10 b14) _
        unfold j_X7_conjugator_65
        refine jo_iadd (pc := 65) dX7_conjugator_65 ?_
        refine jo_bd ?_
        refine jo_istore (pc := 66) (lv' := [(5, .int (i9 + (b2i b14))), (0, .ref (adr w 80)), (1, .ref (adr w x0)), (4, .int x3), (6, .int i10)]) dX7_conjugator_66 (ltb rfl) rfl ?_
        generalize (i9 + (b2i b14)) = v15
        refine jo_iinc (pc := 68) (lv' := [(6, .int (i10 + 1)), (5, .int v15), (0, .ref (adr w 80)), (1, .ref (adr w x0)), (4, .int x3)]) 4 rfl dX7_conjugator_68 (congrArg (fun z => i10 + z) (ic_i_1)) (ltb rfl) rfl ?_
        refine jo_goto (pc := 71) dX7_conjugator_71 (tgt := 17) rfl ?_
        refine jo_lv (lv' := [(0, .ref (adr w 80)), (1, .ref (adr w x0)), (4, .int x3), (5, .int v15), (6, .int (i10 + 1))]) [2, 3, 4, 1, 0] rfl ?_
        exact jo_leaf (by rfl) (hF17_10 (v15, i10 + 1))
      · refine jo_icmp_ge (pc := 57) dX7_conjugator_57 (tgt := 64) rfl ?_ ?_
        · refine jo_iconst (pc := 64) dX7_conjugator_64 (ic_i_0) ?_
          refine jo_lv (lv' := [(0, .ref (adr w 80)), (1, .ref (adr w x0)), (4, .int x3), (6, .int i10)]) [0, 1, 2, 4] rfl ?_
          exact jo_leaf (by rfl) (h65_14 false)
        · refine jo_iconst (pc := 60) dX7_conjugator_60 (ic_i_1) ?_
          refine jo_goto (pc := 61) dX7_conjugator_61 (tgt := 65) rfl ?_
          refine jo_lv (lv' := [(0, .ref (adr w 80)), (1, .ref (adr w x0)), (4, .int x3), (6, .int i10)]) [0, 1, 2, 4] rfl ?_
          exact jo_leaf (by rfl) (h65_14 true)
theorem c_X7_conjugator {w : Wd} (hw : WOK w) {σ : Mem} {x0 : Nat} {x1 : Nat} {x2 : Nat} {x3 : Int32} (hx0 : isk w x0 13) (hx1 : isk w x1 13) (hx2 : isk w x2 13) : ∀ r σ', f_X7_conjugator σ x0 x1 x2 x3 = some (r, σ') → MC w mu_X7_conjugator (vB r) [.ref (adr w 80), .ref (adr w x0), .ref (adr w x1), .ref (adr w x2), .int x3] σ σ' := mc_of ok_X7_conjugator rfl (Nat.le_of_ble_eq_true rfl) (t_X7_conjugator hw hx0 hx1 hx2)
abbrev mu_X7_copyGaps : MD := (yX7_copyGaps, cX7_copyGaps, 5, none, 1)
theorem ok_X7_copyGaps : MOK mu_X7_copyGaps 3 := ⟨gw_1201, gw_165, (by decide +kernel : plainFor yX7_copyGaps = true), ⟨(by decide +kernel : yX7_copyGaps.cls ≠ "java/lang/invoke/MethodHandle"), (by decide +kernel : yX7_copyGaps.cls ≠ "java/lang/invoke/VarHandle"), (by decide +kernel : (parseMethodDescriptor yX7_copyGaps.desc).map (fun d => d.parameters.length) = some 3)⟩, Nat.le_of_ble_eq_true rfl⟩
noncomputable def l_X7_copyGaps_8 (x0 : Int32) (x1 : Int32) (x2 : Nat) (σ2 : Mem) (i3 : Int32) : Option ((Mem × Int32) ⊕ Mem) :=
  if x1 ≤ i3 then (some (Sum.inr σ2)) else (if 6 ≤ (x0 + i3) then (some (Sum.inr σ2)) else (gR 99 (x0 + i3) (fun (p4 : Nat) => (f_X9_value σ2 p4 100).bind (fun (v5 : Int64) => pL σ2 x2 i3 v5 (fun (σ6 : Mem) => some (Sum.inl (σ6, i3 + 1)))))))
noncomputable def f_X7_copyGaps (σ : Mem) (x0 : Int32) (x1 : Int32) (x2 : Nat) : Option Mem :=
  (f_J7_fill_d0a16 σ x2 0).bind (fun (σ1 : Mem) => loopO (fun (z3 : (Mem × Int32)) => l_X7_copyGaps_8 x0 x1 x2 z3.1 z3.2) (σ1, 0))
theorem t_X7_copyGaps {w : Wd} (hw : WOK w) {σ : Mem} {x0 : Int32} {x1 : Int32} {x2 : Nat} (hx2 : isk w x2 13) : JO w mu_X7_copyGaps vV σ [(0, .ref (adr w 80)), (1, .int x0), (2, .int x1), (3, .ref (adr w x2))] [] 0 (f_X7_copyGaps σ x0 x1 x2) (fun z => some ((), z)) := by
  unfold f_X7_copyGaps
  refine jo_aload_n (pc := 0) 3 rfl dX7_copyGaps_0 rfl ?_
  refine jo_lconst (pc := 1) dX7_copyGaps_1 (ic_l_0) ?_
  refine jo_cS_V_i (pc := 2) (μ' := mu_J7_fill_d0a16) (fx := f_J7_fill_d0a16 σ x2 0) (As := [.ref (adr w x2), .long 0]) (c_J7_fill_d0a16 hw (hx2)) (ok_J7_fill_d0a16) (ltb rfl) (all2 gw_1202 gw_715) rfl rfl (Nat.le_of_ble_eq_true rfl) dX7_copyGaps_2 (fun σ1 => ?_)
  refine jo_iconst (pc := 5) dX7_copyGaps_5 (ic_i_0) ?_
  refine jo_istore (pc := 6) (lv' := [(4, .int 0), (0, .ref (adr w 80)), (1, .int x0), (2, .int x1), (3, .ref (adr w x2))]) dX7_copyGaps_6 (ltb rfl) rfl ?_
  refine jo_lv (lv' := [(0, .ref (adr w 80)), (1, .int x0), (2, .int x1), (3, .ref (adr w x2)), (4, .int 0)]) [1, 2, 3, 4, 0] rfl ?_
  refine jo_loop (X := Mem) (fun (z3 : (Mem × Int32)) => z3.1) (fun (z3 : (Mem × Int32)) => [(0, .ref (adr w 80)), (1, .int x0), (2, .int x1), (3, .ref (adr w x2)), (4, .int z3.2)]) (body := (fun (z3 : (Mem × Int32)) => l_X7_copyGaps_8 x0 x1 x2 z3.1 z3.2)) (fun F8_3 hF8_3 s => ?_) (σ1, 0)
  obtain ⟨σ2, i3⟩ := s
  show JO w mu_X7_copyGaps vV σ2 [(0, .ref (adr w 80)), (1, .int x0), (2, .int x1), (3, .ref (adr w x2)), (4, .int i3)] [] 8 (l_X7_copyGaps_8 x0 x1 x2 σ2 i3) _
  unfold l_X7_copyGaps_8
  refine jo_iload (pc := 8) 4 rfl dX7_copyGaps_8 ?_
  refine jo_iload_n (pc := 10) 2 rfl dX7_copyGaps_10 rfl ?_
  refine jo_icmp_ge (pc := 11) dX7_copyGaps_11 (tgt := 49) rfl ?_ ?_
  · exact jo_return (pc := 49) rfl rfl dX7_copyGaps_49
  · refine jo_iload_n (pc := 14) 1 rfl dX7_copyGaps_14 rfl ?_
    refine jo_iload (pc := 15) 4 rfl dX7_copyGaps_15 ?_
    refine jo_iadd (pc := 17) dX7_copyGaps_17 ?_
    refine jo_bipush (pc := 18) dX7_copyGaps_18 (ic_b_6) ?_
    refine jo_icmp_ge (pc := 20) dX7_copyGaps_20 (tgt := 49) rfl ?_ ?_
    · exact jo_return (pc := 49) rfl rfl dX7_copyGaps_49
    · refine jo_aload_n (pc := 23) 3 rfl dX7_copyGaps_23 rfl ?_
      refine jo_iload (pc := 24) 4 rfl dX7_copyGaps_24 ?_
      refine jo_aload_n (pc := 26) 0 rfl dX7_copyGaps_26 rfl ?_
      refine jo_getrE (pc := 27) ok_7_3 (ik_80 hw) rf_80_3 gw_394 dX7_copyGaps_27 ?_
      refine jo_iload_n (pc := 30) 1 rfl dX7_copyGaps_30 rfl ?_
      refine jo_iload (pc := 31) 4 rfl dX7_copyGaps_31 ?_
      refine jo_iadd (pc := 33) dX7_copyGaps_33 ?_
      refine jo_aaldG (pc := 34) (z := 9) hw (ik_99 hw) (by decide) (t := 3) rfl rfl (by decide) dX7_copyGaps_34 (fun p4 hp4 => ?_)
      refine jo_aload_n (pc := 35) 0 rfl dX7_copyGaps_35 rfl ?_
      refine jo_getrE (pc := 36) ok_7_4 (ik_80 hw) rf_80_4 gw_395 dX7_copyGaps_36 ?_
      refine jo_cV_J_p (pc := 39) (μ' := mu_X9_value) (fx := f_X9_value σ2 p4 100) (As := [.ref (adr w 100)]) (c_X9_value hw (hp4) (ik_100 hw)) (ok_X9_value) (ltb rfl) (all3 gw_937 gw_618 gw_619) (hp4) (by decide) (q := (RX9, TX9, 4)) rfl rfl rfl rfl (Nat.le_of_ble_eq_true rfl) dX7_copyGaps_39 (fun v5 => ?_)
      refine jo_last (pc := 42) (hx2) dX7_copyGaps_42 (fun σ6 => ?_)
      refine jo_iinc (pc := 43) (lv' := [(4, .int (i3 + 1)), (0, .ref (adr w 80)), (1, .int x0), (2, .int x1), (3, .ref (adr w x2))]) 4 rfl dX7_copyGaps_43 (congrArg (fun z => i3 + z) (ic_i_1)) (ltb rfl) rfl ?_
      refine jo_goto (pc := 46) dX7_copyGaps_46 (tgt := 8) rfl ?_
      refine jo_lv (lv' := [(0, .ref (adr w 80)), (1, .int x0), (2, .int x1), (3, .ref (adr w x2)), (4, .int (i3 + 1))]) [1, 2, 3, 4, 0] rfl ?_
      exact jo_leaf (by rfl) (hF8_3 (σ6, i3 + 1))
theorem c_X7_copyGaps {w : Wd} (hw : WOK w) {σ : Mem} {x0 : Int32} {x1 : Int32} {x2 : Nat} (hx2 : isk w x2 13) : ∀ σ', f_X7_copyGaps σ x0 x1 x2 = some σ' → MC w mu_X7_copyGaps none [.ref (adr w 80), .int x0, .int x1, .ref (adr w x2)] σ σ' := mc_ofV ok_X7_copyGaps rfl (Nat.le_of_ble_eq_true rfl) (t_X7_copyGaps hw hx2)
abbrev mu_X7_findTurns : MD := (yX7_findTurns, cX7_findTurns, 3, none, 4)
theorem ok_X7_findTurns : MOK mu_X7_findTurns 0 := ⟨gw_1196, gw_165, (by decide +kernel : plainFor yX7_findTurns = true), ⟨(by decide +kernel : yX7_findTurns.cls ≠ "java/lang/invoke/MethodHandle"), (by decide +kernel : yX7_findTurns.cls ≠ "java/lang/invoke/VarHandle"), (by decide +kernel : (parseMethodDescriptor yX7_findTurns.desc).map (fun d => d.parameters.length) = some 0)⟩, Nat.le_of_ble_eq_true rfl⟩
noncomputable def j_X7_findTurns_123 (i5 : Int32) (σ17 : Mem) : Option ((Mem × Int32) ⊕ Mem) :=
  (f_X3_insert σ17 81 101).bind (fun (σ18 : Mem) => some (Sum.inl (σ18, i5 + 1)))
noncomputable def j_X7_findTurns_100 (i5 : Int32) (σ15 : Mem) : Option ((Mem × Int32) ⊕ Mem) :=
  gF σ15 80 9 (fun (v16 : Int32) => (if 6 ≤ (v16 + i5) then (some σ15) else (gF σ15 80 9 (fun (v19 : Int32) => pL σ15 101 (v19 + i5) 1 (fun (σ20 : Mem) => some σ20))) : Option Mem).bind (fun (z17 : Mem) => j_X7_findTurns_123 i5 z17))
noncomputable def l_X7_findTurns_71 (σ21 : Mem) (i22 : Int32) : Option ((Mem × Int32) ⊕ Mem) :=
  gF σ21 80 9 (fun (v23 : Int32) => if v23 ≤ i22 then (some (Sum.inr σ21)) else (gL σ21 101 i22 (fun (v24 : Int64) => gL σ21 102 i22 (fun (v25 : Int64) => pL σ21 101 i22 (v24 - v25) (fun (σ26 : Mem) => some (Sum.inl (σ26, i22 + 1)))))))
noncomputable def l_X7_findTurns_18 (σ4 : Mem) (i5 : Int32) : Option ((Mem × Int32) ⊕ Mem) :=
  gF σ4 80 8 (fun (v6 : Int32) => if v6 ≤ i5 then (some (Sum.inr σ4)) else ((f_X7_putU σ4 0).bind (fun (σ7 : Mem) => gF σ7 80 8 (fun (v8 : Int32) => gF σ7 80 9 (fun (v9 : Int32) => (f_X7_copyGaps σ7 v8 v9 102).bind (fun (σ10 : Mem) => (f_X7_setU σ10 i5 1).bind (fun (σ11 : Mem) => gF σ11 80 8 (fun (v12 : Int32) => gF σ11 80 9 (fun (v13 : Int32) => (f_X7_copyGaps σ11 v12 v13 101).bind (fun (σ14 : Mem) => (loopO (fun (z22 : (Mem × Int32)) => l_X7_findTurns_71 z22.1 z22.2) (σ14, 0) : Option Mem).bind (fun (z15 : Mem) => j_X7_findTurns_100 i5 z15)))))))))))
noncomputable def f_X7_findTurns (σ : Mem) : Option Mem :=
  gF σ 80 9 (fun (v1 : Int32) => gF σ 80 8 (fun (v2 : Int32) => (f_X3_clear σ 81 (v1 + v2)).bind (fun (σ3 : Mem) => loopO (fun (z5 : (Mem × Int32)) => l_X7_findTurns_18 z5.1 z5.2) (σ3, 0))))
theorem t_X7_findTurns {w : Wd} (hw : WOK w) {σ : Mem} : JO w mu_X7_findTurns vV σ [(0, .ref (adr w 80))] [] 0 (f_X7_findTurns σ) (fun z => some ((), z)) := by
  unfold f_X7_findTurns
  refine jo_aload_n (pc := 0) 0 rfl dX7_findTurns_0 rfl ?_
  refine jo_getrE (pc := 1) ok_7_1 (ik_80 hw) rf_80_1 gw_392 dX7_findTurns_1 ?_
  refine jo_aload_n (pc := 4) 0 rfl dX7_findTurns_4 rfl ?_
  refine jo_getf (pc := 5) ok_7_9 (ik_80 hw) gw_400 dX7_findTurns_5 (fun v1 => ?_)
  refine jo_aload_n (pc := 8) 0 rfl dX7_findTurns_8 rfl ?_
  refine jo_getf (pc := 9) ok_7_8 (ik_80 hw) gw_399 dX7_findTurns_9 (fun v2 => ?_)
  refine jo_iadd (pc := 12) dX7_findTurns_12 ?_
  refine jo_cV_V_i (pc := 13) (μ' := mu_X3_clear) (fx := f_X3_clear σ 81 (v1 + v2)) (As := [.int (v1 + v2)]) (c_X3_clear hw (ik_81 hw)) (ok_X3_clear) (ltb rfl) (all3 gw_1197 gw_1126 gw_1127) (ik_81 hw) (by decide) (q := (RX3, TX3, 3)) rfl rfl rfl rfl (Nat.le_of_ble_eq_true rfl) dX7_findTurns_13 (fun σ3 => ?_)
  refine jo_iconst (pc := 16) dX7_findTurns_16 (ic_i_0) ?_
  refine jo_istore_n (pc := 17) (lv' := [(1, .int 0), (0, .ref (adr w 80))]) dX7_findTurns_17 rfl (ltb rfl) rfl ?_
  refine jo_lv (lv' := [(0, .ref (adr w 80)), (1, .int 0)]) [1, 0] rfl ?_
  refine jo_loop (X := Mem) (fun (z5 : (Mem × Int32)) => z5.1) (fun (z5 : (Mem × Int32)) => [(0, .ref (adr w 80)), (1, .int z5.2)]) (body := (fun (z5 : (Mem × Int32)) => l_X7_findTurns_18 z5.1 z5.2)) (fun F18_5 hF18_5 s => ?_) (σ3, 0)
  obtain ⟨σ4, i5⟩ := s
  show JO w mu_X7_findTurns vV σ4 [(0, .ref (adr w 80)), (1, .int i5)] [] 18 (l_X7_findTurns_18 σ4 i5) _
  unfold l_X7_findTurns_18
  refine jo_iload_n (pc := 18) 1 rfl dX7_findTurns_18 rfl ?_
  refine jo_aload_n (pc := 19) 0 rfl dX7_findTurns_19 rfl ?_
  refine jo_getf (pc := 20) ok_7_8 (ik_80 hw) gw_399 dX7_findTurns_20 (fun v6 => ?_)
  refine jo_icmp_ge (pc := 23) dX7_findTurns_23 (tgt := 140) rfl ?_ ?_
  · exact jo_return (pc := 140) rfl rfl dX7_findTurns_140
  · refine jo_aload_n (pc := 26) 0 rfl dX7_findTurns_26 rfl ?_
    refine jo_lconst (pc := 27) dX7_findTurns_27 (ic_l_0) ?_
    refine jo_cV_V_i (pc := 28) (μ' := mu_X7_putU) (fx := f_X7_putU σ4 0) (As := [.long 0]) (c_X7_putU hw) (ok_X7_putU) (ltb rfl) (all3 gw_924 gw_926 gw_20) (ik_80 hw) (by decide) (q := (RX7, TX7, 11)) rfl rfl rfl rfl (Nat.le_of_ble_eq_true rfl) dX7_findTurns_28 (fun σ7 => ?_)
    refine jo_aload_n (pc := 31) 0 rfl dX7_findTurns_31 rfl ?_
    refine jo_aload_n (pc := 32) 0 rfl dX7_findTurns_32 rfl ?_
    refine jo_getf (pc := 33) ok_7_8 (ik_80 hw) gw_399 dX7_findTurns_33 (fun v8 => ?_)
    refine jo_aload_n (pc := 36) 0 rfl dX7_findTurns_36 rfl ?_
    refine jo_getf (pc := 37) ok_7_9 (ik_80 hw) gw_400 dX7_findTurns_37 (fun v9 => ?_)
    refine jo_aload_n (pc := 40) 0 rfl dX7_findTurns_40 rfl ?_
    refine jo_getrE (pc := 41) ok_7_6 (ik_80 hw) rf_80_6 gw_397 dX7_findTurns_41 ?_
    refine jo_cV_V_i (pc := 44) (μ' := mu_X7_copyGaps) (fx := f_X7_copyGaps σ7 v8 v9 102) (As := [.int v8, .int v9, .ref (adr w 102)]) (c_X7_copyGaps hw (ik_102 hw)) (ok_X7_copyGaps) (ltb rfl) (all3 gw_1198 gw_1200 gw_55) (ik_80 hw) (by decide) (q := (RX7, TX7, 11)) rfl rfl rfl rfl (Nat.le_of_ble_eq_true rfl) dX7_findTurns_44 (fun σ10 => ?_)
    refine jo_aload_n (pc := 47) 0 rfl dX7_findTurns_47 rfl ?_
    refine jo_iload_n (pc := 48) 1 rfl dX7_findTurns_48 rfl ?_
    refine jo_lconst (pc := 49) dX7_findTurns_49 (ic_l_1) ?_
    refine jo_cV_V_i (pc := 50) (μ' := mu_X7_setU) (fx := f_X7_setU σ10 i5 1) (As := [.int i5, .long 1]) (c_X7_setU hw) (ok_X7_setU) (ltb rfl) (all3 gw_928 gw_930 gw_21) (ik_80 hw) (by decide) (q := (RX7, TX7, 11)) rfl rfl rfl rfl (Nat.le_of_ble_eq_true rfl) dX7_findTurns_50 (fun σ11 => ?_)
    refine jo_aload_n (pc := 53) 0 rfl dX7_findTurns_53 rfl ?_
    refine jo_aload_n (pc := 54) 0 rfl dX7_findTurns_54 rfl ?_
    refine jo_getf (pc := 55) ok_7_8 (ik_80 hw) gw_399 dX7_findTurns_55 (fun v12 => ?_)
    refine jo_aload_n (pc := 58) 0 rfl dX7_findTurns_58 rfl ?_
    refine jo_getf (pc := 59) ok_7_9 (ik_80 hw) gw_400 dX7_findTurns_59 (fun v13 => ?_)
    refine jo_aload_n (pc := 62) 0 rfl dX7_findTurns_62 rfl ?_
    refine jo_getrE (pc := 63) ok_7_5 (ik_80 hw) rf_80_5 gw_396 dX7_findTurns_63 ?_
    refine jo_cV_V_i (pc := 66) (μ' := mu_X7_copyGaps) (fx := f_X7_copyGaps σ11 v12 v13 101) (As := [.int v12, .int v13, .ref (adr w 101)]) (c_X7_copyGaps hw (ik_101 hw)) (ok_X7_copyGaps) (ltb rfl) (all3 gw_1198 gw_1200 gw_55) (ik_80 hw) (by decide) (q := (RX7, TX7, 11)) rfl rfl rfl rfl (Nat.le_of_ble_eq_true rfl) dX7_findTurns_66 (fun σ14 => ?_)
    refine jo_iconst (pc := 69) dX7_findTurns_69 (ic_i_0) ?_
    refine jo_istore_n (pc := 70) (lv' := [(2, .int 0), (0, .ref (adr w 80)), (1, .int i5)]) dX7_findTurns_70 rfl (ltb rfl) rfl ?_
    refine jo_join1 (S := Mem) (fun (z15 : Mem) => z15) (fun (z15 : Mem) => [(0, .ref (adr w 80)), (1, .int i5)]) (fun (z15 : Mem) => []) 100 ?_ (fun h100_15 => ?_)
    · intro σ15
      show JO w mu_X7_findTurns vV σ15 [(0, .ref (adr w 80)), (1, .int i5)] [] 100 (j_X7_findTurns_100 i5 σ15) _
      unfold j_X7_findTurns_100
      refine jo_aload_n (pc := 100) 0 rfl dX7_findTurns_100 rfl ?_
      refine jo_getf (pc := 101) ok_7_9 (ik_80 hw) gw_400 dX7_findTurns_101 (fun v16 => ?_)
      refine jo_iload_n (pc := 104) 1 rfl dX7_findTurns_104 rfl ?_
      refine jo_iadd (pc := 105) dX7_findTurns_105 ?_
      refine jo_bipush (pc := 106) dX7_findTurns_106 (ic_b_6) ?_
      refine jo_join1 (S := Mem) (fun (z17 : Mem) => z17) (fun (z17 : Mem) => [(0, .ref (adr w 80)), (1, .int i5)]) (fun (z17 : Mem) => []) 123 ?_ (fun h123_17 => ?_)
      · intro σ17
        show JO w mu_X7_findTurns vV σ17 [(0, .ref (adr w 80)), (1, .int i5)] [] 123 (j_X7_findTurns_123 i5 σ17) _
        unfold j_X7_findTurns_123
        refine jo_aload_n (pc := 123) 0 rfl dX7_findTurns_123 rfl ?_
        refine jo_getrE (pc := 124) ok_7_1 (ik_80 hw) rf_80_1 gw_392 dX7_findTurns_124 ?_
        refine jo_aload_n (pc := 127) 0 rfl dX7_findTurns_127 rfl ?_
        refine jo_getrE (pc := 128) ok_7_5 (ik_80 hw) rf_80_5 gw_396 dX7_findTurns_128 ?_
        refine jo_cV_V_i (pc := 131) (μ' := mu_X3_insert) (fx := f_X3_insert σ17 81 101) (As := [.ref (adr w 101)]) (c_X3_insert hw (ik_81 hw) (ik_101 hw)) (ok_X3_insert) (ltb rfl) (all3 gw_1203 gw_1137 gw_1138) (ik_81 hw) (by decide) (q := (RX3, TX3, 3)) rfl rfl rfl rfl (Nat.le_of_ble_eq_true rfl) dX7_findTurns_131 (fun σ18 => ?_)
        refine jo_iinc (pc := 134) (lv' := [(1, .int (i5 + 1)), (0, .ref (adr w 80))]) 1 rfl dX7_findTurns_134 (congrArg (fun z => i5 + z) (ic_i_1)) (ltb rfl) rfl ?_
        refine jo_goto (pc := 137) dX7_findTurns_137 (tgt := 18) rfl ?_
        refine jo_lv (lv' := [(0, .ref (adr w 80)), (1, .int (i5 + 1))]) [1, 0] rfl ?_
        exact jo_leaf (by rfl) (hF18_5 (σ18, i5 + 1))
      · refine jo_icmp_ge (pc := 108) dX7_findTurns_108 (tgt := 123) rfl ?_ ?_
        · exact jo_leaf (by rfl) (h123_17 σ15)
        · refine jo_aload_n (pc := 111) 0 rfl dX7_findTurns_111 rfl ?_
          refine jo_getrE (pc := 112) ok_7_5 (ik_80 hw) rf_80_5 gw_396 dX7_findTurns_112 ?_
          refine jo_aload_n (pc := 115) 0 rfl dX7_findTurns_115 rfl ?_
          refine jo_getf (pc := 116) ok_7_9 (ik_80 hw) gw_400 dX7_findTurns_116 (fun v19 => ?_)
          refine jo_iload_n (pc := 119) 1 rfl dX7_findTurns_119 rfl ?_
          refine jo_iadd (pc := 120) dX7_findTurns_120 ?_
          refine jo_lconst (pc := 121) dX7_findTurns_121 (ic_l_1) ?_
          refine jo_last (pc := 122) (ik_101 hw) dX7_findTurns_122 (fun σ20 => ?_)
          exact jo_leaf (by rfl) (h123_17 σ20)
    · refine jo_lv (lv' := [(0, .ref (adr w 80)), (1, .int i5), (2, .int 0)]) [1, 2, 0] rfl ?_
      refine jo_loop (X := Mem) (fun (z22 : (Mem × Int32)) => z22.1) (fun (z22 : (Mem × Int32)) => [(0, .ref (adr w 80)), (1, .int i5), (2, .int z22.2)]) (body := (fun (z22 : (Mem × Int32)) => l_X7_findTurns_71 z22.1 z22.2)) (fun F71_22 hF71_22 s => ?_) (σ14, 0)
      obtain ⟨σ21, i22⟩ := s
      show JO w mu_X7_findTurns vV σ21 [(0, .ref (adr w 80)), (1, .int i5), (2, .int i22)] [] 71 (l_X7_findTurns_71 σ21 i22) _
      unfold l_X7_findTurns_71
      refine jo_iload_n (pc := 71) 2 rfl dX7_findTurns_71 rfl ?_
      refine jo_aload_n (pc := 72) 0 rfl dX7_findTurns_72 rfl ?_
      refine jo_getf (pc := 73) ok_7_9 (ik_80 hw) gw_400 dX7_findTurns_73 (fun v23 => ?_)
      refine jo_icmp_ge (pc := 76) dX7_findTurns_76 (tgt := 100) rfl ?_ ?_
      · refine jo_lv (lv' := [(0, .ref (adr w 80)), (1, .int i5)]) [0, 1] rfl ?_
        exact jo_leaf (by rfl) (h100_15 σ21)
      · refine jo_aload_n (pc := 79) 0 rfl dX7_findTurns_79 rfl ?_
        refine jo_getrE (pc := 80) ok_7_5 (ik_80 hw) rf_80_5 gw_396 dX7_findTurns_80 ?_
        refine jo_iload_n (pc := 83) 2 rfl dX7_findTurns_83 rfl ?_
        refine jo_dup2 (pc := 84) dX7_findTurns_84 rfl rfl ?_
        refine jo_lald (pc := 85) (ik_101 hw) dX7_findTurns_85 (fun v24 => ?_)
        refine jo_aload_n (pc := 86) 0 rfl dX7_findTurns_86 rfl ?_
        refine jo_getrE (pc := 87) ok_7_6 (ik_80 hw) rf_80_6 gw_397 dX7_findTurns_87 ?_
        refine jo_iload_n (pc := 90) 2 rfl dX7_findTurns_90 rfl ?_
        refine jo_lald (pc := 91) (ik_102 hw) dX7_findTurns_91 (fun v25 => ?_)
        refine jo_lsub (pc := 92) dX7_findTurns_92 ?_
        refine jo_last (pc := 93) (ik_101 hw) dX7_findTurns_93 (fun σ26 => ?_)
        refine jo_iinc (pc := 94) (lv' := [(2, .int (i22 + 1)), (0, .ref (adr w 80)), (1, .int i5)]) 2 rfl dX7_findTurns_94 (congrArg (fun z => i22 + z) (ic_i_1)) (ltb rfl) rfl ?_
        refine jo_goto (pc := 97) dX7_findTurns_97 (tgt := 71) rfl ?_
        refine jo_lv (lv' := [(0, .ref (adr w 80)), (1, .int i5), (2, .int (i22 + 1))]) [1, 2, 0] rfl ?_
        exact jo_leaf (by rfl) (hF71_22 (σ26, i22 + 1))
theorem c_X7_findTurns {w : Wd} (hw : WOK w) {σ : Mem} : ∀ σ', f_X7_findTurns σ = some σ' → MC w mu_X7_findTurns none [.ref (adr w 80)] σ σ' := mc_ofV ok_X7_findTurns rfl (Nat.le_of_ble_eq_true rfl) (t_X7_findTurns hw)
abbrev mu_X7_turnWeightTwo : MD := (yX7_turnWeightTwo, cX7_turnWeightTwo, 2, some .boolean, 3)
theorem ok_X7_turnWeightTwo : MOK mu_X7_turnWeightTwo 0 := ⟨gw_1207, gw_165, (by decide +kernel : plainFor yX7_turnWeightTwo = true), ⟨(by decide +kernel : yX7_turnWeightTwo.cls ≠ "java/lang/invoke/MethodHandle"), (by decide +kernel : yX7_turnWeightTwo.cls ≠ "java/lang/invoke/VarHandle"), (by decide +kernel : (parseMethodDescriptor yX7_turnWeightTwo.desc).map (fun d => d.parameters.length) = some 0)⟩, Nat.le_of_ble_eq_true rfl⟩
noncomputable def l_X7_turnWeightTwo_64 (σ7 : Mem) (i8 : Int32) : Option ((Mem × Int32) ⊕ (Bool × Mem)) :=
  gF σ7 80 8 (fun (v9 : Int32) => if v9 ≤ i8 then (some (Sum.inr (true, σ7))) else (gF σ7 80 9 (fun (v10 : Int32) => if 6 ≤ (v10 + i8) then (some (Sum.inr (true, σ7))) else (gF σ7 80 9 (fun (v11 : Int32) => gL σ7 101 (v11 + i8) (fun (v12 : Int64) => (f_X7_setU σ7 i8 v12).bind (fun (σ13 : Mem) => some (Sum.inl (σ13, i8 + 1)))))))))
noncomputable def j_X7_turnWeightTwo_62 (σ6 : Mem) : Option (Bool × Mem) :=
  loopO (fun (z8 : (Mem × Int32)) => l_X7_turnWeightTwo_64 z8.1 z8.2) (σ6, 0)
noncomputable def l_X7_turnWeightTwo_35 (σ6 : Mem) (i14 : Int32) : Option (Int32 ⊕ (Unit ⊕ (Bool × Mem))) :=
  gF σ6 80 9 (fun (v15 : Int32) => if v15 ≤ i14 then (some (Sum.inr (Sum.inl ()))) else (gL σ6 101 i14 (fun (v16 : Int64) => if v16 = 0 then (some (Sum.inl (i14 + 1))) else (some (Sum.inr (Sum.inr (false, σ6)))))))
noncomputable def f_X7_turnWeightTwo (σ : Mem) : Option (Bool × Mem) :=
  (f_X7_putU σ 0).bind (fun (σ1 : Mem) => gF σ1 80 8 (fun (v2 : Int32) => gF σ1 80 9 (fun (v3 : Int32) => (f_X7_copyGaps σ1 v2 v3 101).bind (fun (σ4 : Mem) => bq (f_X3_reduce σ4 81 101) (fun (b5 : Bool) (σ6 : Mem) => (loopO (fun (z14 : Int32) => l_X7_turnWeightTwo_35 σ6 z14) 0 : Option (Unit ⊕ (Bool × Mem))).bind (Sum.elim (fun (z6 : Unit) => j_X7_turnWeightTwo_62 σ6) some))))))
theorem t_X7_turnWeightTwo {w : Wd} (hw : WOK w) {σ : Mem} : JO w mu_X7_turnWeightTwo vB σ [(0, .ref (adr w 80))] [] 0 (f_X7_turnWeightTwo σ) some := by
  unfold f_X7_turnWeightTwo
  refine jo_aload_n (pc := 0) 0 rfl dX7_turnWeightTwo_0 rfl ?_
  refine jo_lconst (pc := 1) dX7_turnWeightTwo_1 (ic_l_0) ?_
  refine jo_cV_V_i (pc := 2) (μ' := mu_X7_putU) (fx := f_X7_putU σ 0) (As := [.long 0]) (c_X7_putU hw) (ok_X7_putU) (ltb rfl) (all3 gw_924 gw_926 gw_20) (ik_80 hw) (by decide) (q := (RX7, TX7, 11)) rfl rfl rfl rfl (Nat.le_of_ble_eq_true rfl) dX7_turnWeightTwo_2 (fun σ1 => ?_)
  refine jo_aload_n (pc := 5) 0 rfl dX7_turnWeightTwo_5 rfl ?_
  refine jo_aload_n (pc := 6) 0 rfl dX7_turnWeightTwo_6 rfl ?_
  refine jo_getf (pc := 7) ok_7_8 (ik_80 hw) gw_399 dX7_turnWeightTwo_7 (fun v2 => ?_)
  refine jo_aload_n (pc := 10) 0 rfl dX7_turnWeightTwo_10 rfl ?_
  refine jo_getf (pc := 11) ok_7_9 (ik_80 hw) gw_400 dX7_turnWeightTwo_11 (fun v3 => ?_)
  refine jo_aload_n (pc := 14) 0 rfl dX7_turnWeightTwo_14 rfl ?_
  refine jo_getrE (pc := 15) ok_7_5 (ik_80 hw) rf_80_5 gw_396 dX7_turnWeightTwo_15 ?_
  refine jo_cV_V_i (pc := 18) (μ' := mu_X7_copyGaps) (fx := f_X7_copyGaps σ1 v2 v3 101) (As := [.int v2, .int v3, .ref (adr w 101)]) (c_X7_copyGaps hw (ik_101 hw)) (ok_X7_copyGaps) (ltb rfl) (all3 gw_1198 gw_1200 gw_55) (ik_80 hw) (by decide) (q := (RX7, TX7, 11)) rfl rfl rfl rfl (Nat.le_of_ble_eq_true rfl) dX7_turnWeightTwo_18 (fun σ4 => ?_)
  refine jo_aload_n (pc := 21) 0 rfl dX7_turnWeightTwo_21 rfl ?_
  refine jo_getrE (pc := 22) ok_7_1 (ik_80 hw) rf_80_1 gw_392 dX7_turnWeightTwo_22 ?_
  refine jo_aload_n (pc := 25) 0 rfl dX7_turnWeightTwo_25 rfl ?_
  refine jo_getrE (pc := 26) ok_7_5 (ik_80 hw) rf_80_5 gw_396 dX7_turnWeightTwo_26 ?_
  refine jo_cV_Z_i (pc := 29) (μ' := mu_X3_reduce) (fx := f_X3_reduce σ4 81 101) (As := [.ref (adr w 101)]) (c_X3_reduce hw (ik_81 hw) (ik_101 hw)) (ok_X3_reduce) (ltb rfl) (all3 gw_1208 gw_1169 gw_1170) (ik_81 hw) (by decide) (q := (RX3, TX3, 3)) rfl rfl rfl rfl (Nat.le_of_ble_eq_true rfl) dX7_turnWeightTwo_29 (fun b5 σ6 => ?_)
  refine jo_pop (pc := 32) dX7_turnWeightTwo_32 rfl ?_
  refine jo_iconst (pc := 33) dX7_turnWeightTwo_33 (ic_i_0) ?_
  refine jo_istore_n (pc := 34) (lv' := [(1, .int 0), (0, .ref (adr w 80))]) dX7_turnWeightTwo_34 rfl (ltb rfl) rfl ?_
  refine jo_joinS (S := Unit) (fun (z6 : Unit) => σ6) (fun (z6 : Unit) => [(0, .ref (adr w 80))]) (fun (z6 : Unit) => []) 62 ?_ (fun h62_6 => ?_)
  · intro _
    show JO w mu_X7_turnWeightTwo vB σ6 [(0, .ref (adr w 80))] [] 62 (j_X7_turnWeightTwo_62 σ6) _
    unfold j_X7_turnWeightTwo_62
    refine jo_iconst (pc := 62) dX7_turnWeightTwo_62 (ic_i_0) ?_
    refine jo_istore_n (pc := 63) (lv' := [(1, .int 0), (0, .ref (adr w 80))]) dX7_turnWeightTwo_63 rfl (ltb rfl) rfl ?_
    refine jo_lv (lv' := [(0, .ref (adr w 80)), (1, .int 0)]) [1, 0] rfl ?_
    refine jo_loop (X := (Bool × Mem)) (fun (z8 : (Mem × Int32)) => z8.1) (fun (z8 : (Mem × Int32)) => [(0, .ref (adr w 80)), (1, .int z8.2)]) (body := (fun (z8 : (Mem × Int32)) => l_X7_turnWeightTwo_64 z8.1 z8.2)) (fun F64_8 hF64_8 s => ?_) (σ6, 0)
    obtain ⟨σ7, i8⟩ := s
    show JO w mu_X7_turnWeightTwo vB σ7 [(0, .ref (adr w 80)), (1, .int i8)] [] 64 (l_X7_turnWeightTwo_64 σ7 i8) _
    unfold l_X7_turnWeightTwo_64
    refine jo_iload_n (pc := 64) 1 rfl dX7_turnWeightTwo_64 rfl ?_
    refine jo_aload_n (pc := 65) 0 rfl dX7_turnWeightTwo_65 rfl ?_
    refine jo_getf (pc := 66) ok_7_8 (ik_80 hw) gw_399 dX7_turnWeightTwo_66 (fun v9 => ?_)
    refine jo_icmp_ge (pc := 69) dX7_turnWeightTwo_69 (tgt := 105) rfl ?_ ?_
    · refine jo_iconst (pc := 105) dX7_turnWeightTwo_105 (ic_i_1) ?_
      exact jo_breturn (pc := 106) (b := true) rfl rfl dX7_turnWeightTwo_106
    · refine jo_aload_n (pc := 72) 0 rfl dX7_turnWeightTwo_72 rfl ?_
      refine jo_getf (pc := 73) ok_7_9 (ik_80 hw) gw_400 dX7_turnWeightTwo_73 (fun v10 => ?_)
      refine jo_iload_n (pc := 76) 1 rfl dX7_turnWeightTwo_76 rfl ?_
      refine jo_iadd (pc := 77) dX7_turnWeightTwo_77 ?_
      refine jo_bipush (pc := 78) dX7_turnWeightTwo_78 (ic_b_6) ?_
      refine jo_icmp_ge (pc := 80) dX7_turnWeightTwo_80 (tgt := 105) rfl ?_ ?_
      · refine jo_iconst (pc := 105) dX7_turnWeightTwo_105 (ic_i_1) ?_
        exact jo_breturn (pc := 106) (b := true) rfl rfl dX7_turnWeightTwo_106
      · refine jo_aload_n (pc := 83) 0 rfl dX7_turnWeightTwo_83 rfl ?_
        refine jo_iload_n (pc := 84) 1 rfl dX7_turnWeightTwo_84 rfl ?_
        refine jo_aload_n (pc := 85) 0 rfl dX7_turnWeightTwo_85 rfl ?_
        refine jo_getrE (pc := 86) ok_7_5 (ik_80 hw) rf_80_5 gw_396 dX7_turnWeightTwo_86 ?_
        refine jo_aload_n (pc := 89) 0 rfl dX7_turnWeightTwo_89 rfl ?_
        refine jo_getf (pc := 90) ok_7_9 (ik_80 hw) gw_400 dX7_turnWeightTwo_90 (fun v11 => ?_)
        refine jo_iload_n (pc := 93) 1 rfl dX7_turnWeightTwo_93 rfl ?_
        refine jo_iadd (pc := 94) dX7_turnWeightTwo_94 ?_
        refine jo_lald (pc := 95) (ik_101 hw) dX7_turnWeightTwo_95 (fun v12 => ?_)
        refine jo_cV_V_i (pc := 96) (μ' := mu_X7_setU) (fx := f_X7_setU σ7 i8 v12) (As := [.int i8, .long v12]) (c_X7_setU hw) (ok_X7_setU) (ltb rfl) (all3 gw_928 gw_930 gw_21) (ik_80 hw) (by decide) (q := (RX7, TX7, 11)) rfl rfl rfl rfl (Nat.le_of_ble_eq_true rfl) dX7_turnWeightTwo_96 (fun σ13 => ?_)
        refine jo_iinc (pc := 99) (lv' := [(1, .int (i8 + 1)), (0, .ref (adr w 80))]) 1 rfl dX7_turnWeightTwo_99 (congrArg (fun z => i8 + z) (ic_i_1)) (ltb rfl) rfl ?_
        refine jo_goto (pc := 102) dX7_turnWeightTwo_102 (tgt := 64) rfl ?_
        refine jo_lv (lv' := [(0, .ref (adr w 80)), (1, .int (i8 + 1))]) [1, 0] rfl ?_
        exact jo_leaf (by rfl) (hF64_8 (σ13, i8 + 1))
  · refine jo_lv (lv' := [(0, .ref (adr w 80)), (1, .int 0)]) [1, 0] rfl ?_
    refine jo_loop (X := Unit ⊕ (Bool × Mem)) (fun (z14 : Int32) => σ6) (fun (z14 : Int32) => [(0, .ref (adr w 80)), (1, .int z14)]) (body := (fun (z14 : Int32) => l_X7_turnWeightTwo_35 σ6 z14)) (fun F35_14 hF35_14 s => ?_) 0
    revert s; intro i14
    show JO w mu_X7_turnWeightTwo vB σ6 [(0, .ref (adr w 80)), (1, .int i14)] [] 35 (l_X7_turnWeightTwo_35 σ6 i14) _
    unfold l_X7_turnWeightTwo_35
    refine jo_iload_n (pc := 35) 1 rfl dX7_turnWeightTwo_35 rfl ?_
    refine jo_aload_n (pc := 36) 0 rfl dX7_turnWeightTwo_36 rfl ?_
    refine jo_getf (pc := 37) ok_7_9 (ik_80 hw) gw_400 dX7_turnWeightTwo_37 (fun v15 => ?_)
    refine jo_icmp_ge (pc := 40) dX7_turnWeightTwo_40 (tgt := 62) rfl ?_ ?_
    · refine jo_lv (lv' := [(0, .ref (adr w 80))]) [0] rfl ?_
      exact jo_leaf (by rfl) (h62_6 ())
    · refine jo_aload_n (pc := 43) 0 rfl dX7_turnWeightTwo_43 rfl ?_
      refine jo_getrE (pc := 44) ok_7_5 (ik_80 hw) rf_80_5 gw_396 dX7_turnWeightTwo_44 ?_
      refine jo_iload_n (pc := 47) 1 rfl dX7_turnWeightTwo_47 rfl ?_
      refine jo_lald (pc := 48) (ik_101 hw) dX7_turnWeightTwo_48 (fun v16 => ?_)
      refine jo_lconst (pc := 49) dX7_turnWeightTwo_49 (ic_l_0) ?_
      refine jo_lcmp_eq (pc := 50) dX7_turnWeightTwo_50 dX7_turnWeightTwo_51 (tgt := 56) rfl ?_ ?_
      · refine jo_iinc (pc := 56) (lv' := [(1, .int (i14 + 1)), (0, .ref (adr w 80))]) 1 rfl dX7_turnWeightTwo_56 (congrArg (fun z => i14 + z) (ic_i_1)) (ltb rfl) rfl ?_
        refine jo_goto (pc := 59) dX7_turnWeightTwo_59 (tgt := 35) rfl ?_
        refine jo_lv (lv' := [(0, .ref (adr w 80)), (1, .int (i14 + 1))]) [1, 0] rfl ?_
        exact jo_leaf (by rfl) (hF35_14 (i14 + 1))
      · refine jo_iconst (pc := 54) dX7_turnWeightTwo_54 (ic_i_0) ?_
        exact jo_breturn (pc := 55) (b := false) rfl rfl dX7_turnWeightTwo_55
theorem c_X7_turnWeightTwo {w : Wd} (hw : WOK w) {σ : Mem} : ∀ r σ', f_X7_turnWeightTwo σ = some (r, σ') → MC w mu_X7_turnWeightTwo (vB r) [.ref (adr w 80)] σ σ' := mc_of ok_X7_turnWeightTwo rfl (Nat.le_of_ble_eq_true rfl) (t_X7_turnWeightTwo hw)
abbrev mu_X7_insertShift : MD := (yX7_insertShift, cX7_insertShift, 1, none, 4)
theorem ok_X7_insertShift : MOK mu_X7_insertShift 0 := ⟨gw_1220, gw_165, (by decide +kernel : plainFor yX7_insertShift = true), ⟨(by decide +kernel : yX7_insertShift.cls ≠ "java/lang/invoke/MethodHandle"), (by decide +kernel : yX7_insertShift.cls ≠ "java/lang/invoke/VarHandle"), (by decide +kernel : (parseMethodDescriptor yX7_insertShift.desc).map (fun d => d.parameters.length) = some 0)⟩, Nat.le_of_ble_eq_true rfl⟩
noncomputable def f_X7_insertShift (σ : Mem) : Option Mem :=
  gF σ 80 8 (fun (v1 : Int32) => gF σ 80 9 (fun (v2 : Int32) => gF σ 80 10 (fun (v3 : Int32) => (f_X7_copyGaps σ (v1 + v2) v3 101).bind (fun (σ4 : Mem) => (f_X3_insert σ4 90 101).bind (fun (σ5 : Mem) => some σ5)))))
theorem t_X7_insertShift {w : Wd} (hw : WOK w) {σ : Mem} : JO w mu_X7_insertShift vV σ [(0, .ref (adr w 80))] [] 0 (f_X7_insertShift σ) (fun z => some ((), z)) := by
  unfold f_X7_insertShift
  refine jo_aload_n (pc := 0) 0 rfl dX7_insertShift_0 rfl ?_
  refine jo_aload_n (pc := 1) 0 rfl dX7_insertShift_1 rfl ?_
  refine jo_getf (pc := 2) ok_7_8 (ik_80 hw) gw_399 dX7_insertShift_2 (fun v1 => ?_)
  refine jo_aload_n (pc := 5) 0 rfl dX7_insertShift_5 rfl ?_
  refine jo_getf (pc := 6) ok_7_9 (ik_80 hw) gw_400 dX7_insertShift_6 (fun v2 => ?_)
  refine jo_iadd (pc := 9) dX7_insertShift_9 ?_
  refine jo_aload_n (pc := 10) 0 rfl dX7_insertShift_10 rfl ?_
  refine jo_getf (pc := 11) ok_7_10 (ik_80 hw) gw_401 dX7_insertShift_11 (fun v3 => ?_)
  refine jo_aload_n (pc := 14) 0 rfl dX7_insertShift_14 rfl ?_
  refine jo_getrE (pc := 15) ok_7_5 (ik_80 hw) rf_80_5 gw_396 dX7_insertShift_15 ?_
  refine jo_cV_V_i (pc := 18) (μ' := mu_X7_copyGaps) (fx := f_X7_copyGaps σ (v1 + v2) v3 101) (As := [.int (v1 + v2), .int v3, .ref (adr w 101)]) (c_X7_copyGaps hw (ik_101 hw)) (ok_X7_copyGaps) (ltb rfl) (all3 gw_1198 gw_1200 gw_55) (ik_80 hw) (by decide) (q := (RX7, TX7, 11)) rfl rfl rfl rfl (Nat.le_of_ble_eq_true rfl) dX7_insertShift_18 (fun σ4 => ?_)
  refine jo_aload_n (pc := 21) 0 rfl dX7_insertShift_21 rfl ?_
  refine jo_getrE (pc := 22) ok_7_2 (ik_80 hw) rf_80_2 gw_393 dX7_insertShift_22 ?_
  refine jo_aload_n (pc := 25) 0 rfl dX7_insertShift_25 rfl ?_
  refine jo_getrE (pc := 26) ok_7_5 (ik_80 hw) rf_80_5 gw_396 dX7_insertShift_26 ?_
  refine jo_cV_V_i (pc := 29) (μ' := mu_X3_insert) (fx := f_X3_insert σ4 90 101) (As := [.ref (adr w 101)]) (c_X3_insert hw (ik_90 hw) (ik_101 hw)) (ok_X3_insert) (ltb rfl) (all3 gw_1203 gw_1137 gw_1138) (ik_90 hw) (by decide) (q := (RX3, TX3, 3)) rfl rfl rfl rfl (Nat.le_of_ble_eq_true rfl) dX7_insertShift_29 (fun σ5 => ?_)
  exact jo_return (pc := 32) rfl rfl dX7_insertShift_32
theorem c_X7_insertShift {w : Wd} (hw : WOK w) {σ : Mem} : ∀ σ', f_X7_insertShift σ = some σ' → MC w mu_X7_insertShift none [.ref (adr w 80)] σ σ' := mc_ofV ok_X7_insertShift rfl (Nat.le_of_ble_eq_true rfl) (t_X7_insertShift hw)
abbrev mu_X7_findShifts : MD := (yX7_findShifts, cX7_findShifts, 3, none, 5)
theorem ok_X7_findShifts : MOK mu_X7_findShifts 0 := ⟨gw_1212, gw_165, (by decide +kernel : plainFor yX7_findShifts = true), ⟨(by decide +kernel : yX7_findShifts.cls ≠ "java/lang/invoke/MethodHandle"), (by decide +kernel : yX7_findShifts.cls ≠ "java/lang/invoke/VarHandle"), (by decide +kernel : (parseMethodDescriptor yX7_findShifts.desc).map (fun d => d.parameters.length) = some 0)⟩, Nat.le_of_ble_eq_true rfl⟩
noncomputable def l_X7_findShifts_114 (σ6 : Mem) (i7 : Int32) : Option ((Mem × Int32) ⊕ Mem) :=
  gF σ6 80 8 (fun (v8 : Int32) => gF σ6 80 9 (fun (v9 : Int32) => if (v8 + v9) ≤ i7 then (some (Sum.inr σ6)) else ((f_X7_putU σ6 0).bind (fun (σ10 : Mem) => (f_X7_setU σ10 i7 1).bind (fun (σ11 : Mem) => (f_X7_insertShift σ11).bind (fun (σ12 : Mem) => some (Sum.inl (σ12, i7 + 1))))))))
noncomputable def j_X7_findShifts_109 (σ4 : Mem) : Option Mem :=
  gF σ4 80 8 (fun (v5 : Int32) => loopO (fun (z7 : (Mem × Int32)) => l_X7_findShifts_114 z7.1 z7.2) (σ4, v5))
noncomputable def j_X7_findShifts_103 (i14 : Int32) (σ18 : Mem) : Option ((Mem × Int32) ⊕ Mem) :=
  some (Sum.inl (σ18, i14 + 1))
noncomputable def j_X7_findShifts_99 (σ20 : Mem) : Option Mem :=
  (f_X7_insertShift σ20).bind (fun (σ21 : Mem) => some σ21)
noncomputable def l_X7_findShifts_53 (i14 : Int32) (σ22 : Mem) (i23 : Int32) : Option ((Mem × Int32) ⊕ Mem) :=
  gF σ22 80 8 (fun (v24 : Int32) => if v24 ≤ i23 then (some (Sum.inr σ22)) else (gF σ22 80 9 (fun (v25 : Int32) => if 6 ≤ (v25 + i23) then (some (Sum.inr σ22)) else (gR 82 i14 (fun (p26 : Nat) => gF σ22 80 9 (fun (v27 : Int32) => gL σ22 p26 (v27 + i23) (fun (v28 : Int64) => (f_X7_setU σ22 i23 v28).bind (fun (σ29 : Mem) => some (Sum.inl (σ29, i23 + 1))))))))))
noncomputable def l_X7_findShifts_16 (σ13 : Mem) (i14 : Int32) : Option ((Mem × Int32) ⊕ Mem) :=
  gF σ13 80 9 (fun (v15 : Int32) => gF σ13 80 8 (fun (v16 : Int32) => if (v15 + v16) ≤ i14 then (some (Sum.inr σ13)) else (if 6 ≤ i14 then (some (Sum.inr σ13)) else ((f_X3_hasStep σ13 81 i14).bind (fun (b17 : Bool) => (if b17 then (f_X7_putU σ13 0).bind (fun (σ19 : Mem) => (loopO (fun (z23 : (Mem × Int32)) => l_X7_findShifts_53 i14 z23.1 z23.2) (σ19, 0) : Option Mem).bind (fun (z20 : Mem) => j_X7_findShifts_99 z20)) else some σ13 : Option Mem).bind (fun (z18 : Mem) => j_X7_findShifts_103 i14 z18))))))
noncomputable def f_X7_findShifts (σ : Mem) : Option Mem :=
  gF σ 80 10 (fun (v1 : Int32) => (f_X3_clear σ 90 v1).bind (fun (σ2 : Mem) => gF σ2 80 9 (fun (v3 : Int32) => (loopO (fun (z14 : (Mem × Int32)) => l_X7_findShifts_16 z14.1 z14.2) (σ2, v3) : Option Mem).bind (fun (z4 : Mem) => j_X7_findShifts_109 z4))))
theorem t_X7_findShifts {w : Wd} (hw : WOK w) {σ : Mem} : JO w mu_X7_findShifts vV σ [(0, .ref (adr w 80))] [] 0 (f_X7_findShifts σ) (fun z => some ((), z)) := by
  unfold f_X7_findShifts
  refine jo_aload_n (pc := 0) 0 rfl dX7_findShifts_0 rfl ?_
  refine jo_getrE (pc := 1) ok_7_2 (ik_80 hw) rf_80_2 gw_393 dX7_findShifts_1 ?_
  refine jo_aload_n (pc := 4) 0 rfl dX7_findShifts_4 rfl ?_
  refine jo_getf (pc := 5) ok_7_10 (ik_80 hw) gw_401 dX7_findShifts_5 (fun v1 => ?_)
  refine jo_cV_V_i (pc := 8) (μ' := mu_X3_clear) (fx := f_X3_clear σ 90 v1) (As := [.int v1]) (c_X3_clear hw (ik_90 hw)) (ok_X3_clear) (ltb rfl) (all3 gw_1197 gw_1126 gw_1127) (ik_90 hw) (by decide) (q := (RX3, TX3, 3)) rfl rfl rfl rfl (Nat.le_of_ble_eq_true rfl) dX7_findShifts_8 (fun σ2 => ?_)
  refine jo_aload_n (pc := 11) 0 rfl dX7_findShifts_11 rfl ?_
  refine jo_getf (pc := 12) ok_7_9 (ik_80 hw) gw_400 dX7_findShifts_12 (fun v3 => ?_)
  refine jo_istore_n (pc := 15) (lv' := [(1, .int v3), (0, .ref (adr w 80))]) dX7_findShifts_15 rfl (ltb rfl) rfl ?_
  refine jo_join1 (S := Mem) (fun (z4 : Mem) => z4) (fun (z4 : Mem) => [(0, .ref (adr w 80))]) (fun (z4 : Mem) => []) 109 ?_ (fun h109_4 => ?_)
  · intro σ4
    show JO w mu_X7_findShifts vV σ4 [(0, .ref (adr w 80))] [] 109 (j_X7_findShifts_109 σ4) _
    unfold j_X7_findShifts_109
    refine jo_aload_n (pc := 109) 0 rfl dX7_findShifts_109 rfl ?_
    refine jo_getf (pc := 110) ok_7_8 (ik_80 hw) gw_399 dX7_findShifts_110 (fun v5 => ?_)
    refine jo_istore_n (pc := 113) (lv' := [(1, .int v5), (0, .ref (adr w 80))]) dX7_findShifts_113 rfl (ltb rfl) rfl ?_
    refine jo_lv (lv' := [(0, .ref (adr w 80)), (1, .int v5)]) [1, 0] rfl ?_
    refine jo_loop (X := Mem) (fun (z7 : (Mem × Int32)) => z7.1) (fun (z7 : (Mem × Int32)) => [(0, .ref (adr w 80)), (1, .int z7.2)]) (body := (fun (z7 : (Mem × Int32)) => l_X7_findShifts_114 z7.1 z7.2)) (fun F114_7 hF114_7 s => ?_) (σ4, v5)
    obtain ⟨σ6, i7⟩ := s
    show JO w mu_X7_findShifts vV σ6 [(0, .ref (adr w 80)), (1, .int i7)] [] 114 (l_X7_findShifts_114 σ6 i7) _
    unfold l_X7_findShifts_114
    refine jo_iload_n (pc := 114) 1 rfl dX7_findShifts_114 rfl ?_
    refine jo_aload_n (pc := 115) 0 rfl dX7_findShifts_115 rfl ?_
    refine jo_getf (pc := 116) ok_7_8 (ik_80 hw) gw_399 dX7_findShifts_116 (fun v8 => ?_)
    refine jo_aload_n (pc := 119) 0 rfl dX7_findShifts_119 rfl ?_
    refine jo_getf (pc := 120) ok_7_9 (ik_80 hw) gw_400 dX7_findShifts_120 (fun v9 => ?_)
    refine jo_iadd (pc := 123) dX7_findShifts_123 ?_
    refine jo_icmp_ge (pc := 124) dX7_findShifts_124 (tgt := 148) rfl ?_ ?_
    · exact jo_return (pc := 148) rfl rfl dX7_findShifts_148
    · refine jo_aload_n (pc := 127) 0 rfl dX7_findShifts_127 rfl ?_
      refine jo_lconst (pc := 128) dX7_findShifts_128 (ic_l_0) ?_
      refine jo_cV_V_i (pc := 129) (μ' := mu_X7_putU) (fx := f_X7_putU σ6 0) (As := [.long 0]) (c_X7_putU hw) (ok_X7_putU) (ltb rfl) (all3 gw_924 gw_926 gw_20) (ik_80 hw) (by decide) (q := (RX7, TX7, 11)) rfl rfl rfl rfl (Nat.le_of_ble_eq_true rfl) dX7_findShifts_129 (fun σ10 => ?_)
      refine jo_aload_n (pc := 132) 0 rfl dX7_findShifts_132 rfl ?_
      refine jo_iload_n (pc := 133) 1 rfl dX7_findShifts_133 rfl ?_
      refine jo_lconst (pc := 134) dX7_findShifts_134 (ic_l_1) ?_
      refine jo_cV_V_i (pc := 135) (μ' := mu_X7_setU) (fx := f_X7_setU σ10 i7 1) (As := [.int i7, .long 1]) (c_X7_setU hw) (ok_X7_setU) (ltb rfl) (all3 gw_928 gw_930 gw_21) (ik_80 hw) (by decide) (q := (RX7, TX7, 11)) rfl rfl rfl rfl (Nat.le_of_ble_eq_true rfl) dX7_findShifts_135 (fun σ11 => ?_)
      refine jo_aload_n (pc := 138) 0 rfl dX7_findShifts_138 rfl ?_
      refine jo_cV_V_i (pc := 139) (μ' := mu_X7_insertShift) (fx := f_X7_insertShift σ11) (As := []) (c_X7_insertShift hw) (ok_X7_insertShift) (ltb rfl) (all3 gw_1217 gw_1219 gw_58) (ik_80 hw) (by decide) (q := (RX7, TX7, 11)) rfl rfl rfl rfl (Nat.le_of_ble_eq_true rfl) dX7_findShifts_139 (fun σ12 => ?_)
      refine jo_iinc (pc := 142) (lv' := [(1, .int (i7 + 1)), (0, .ref (adr w 80))]) 1 rfl dX7_findShifts_142 (congrArg (fun z => i7 + z) (ic_i_1)) (ltb rfl) rfl ?_
      refine jo_goto (pc := 145) dX7_findShifts_145 (tgt := 114) rfl ?_
      refine jo_lv (lv' := [(0, .ref (adr w 80)), (1, .int (i7 + 1))]) [1, 0] rfl ?_
      exact jo_leaf (by rfl) (hF114_7 (σ12, i7 + 1))
  · refine jo_lv (lv' := [(0, .ref (adr w 80)), (1, .int v3)]) [1, 0] rfl ?_
    refine jo_loop (X := Mem) (fun (z14 : (Mem × Int32)) => z14.1) (fun (z14 : (Mem × Int32)) => [(0, .ref (adr w 80)), (1, .int z14.2)]) (body := (fun (z14 : (Mem × Int32)) => l_X7_findShifts_16 z14.1 z14.2)) (fun F16_14 hF16_14 s => ?_) (σ2, v3)
    obtain ⟨σ13, i14⟩ := s
    show JO w mu_X7_findShifts vV σ13 [(0, .ref (adr w 80)), (1, .int i14)] [] 16 (l_X7_findShifts_16 σ13 i14) _
    unfold l_X7_findShifts_16
    refine jo_iload_n (pc := 16) 1 rfl dX7_findShifts_16 rfl ?_
    refine jo_aload_n (pc := 17) 0 rfl dX7_findShifts_17 rfl ?_
    refine jo_getf (pc := 18) ok_7_9 (ik_80 hw) gw_400 dX7_findShifts_18 (fun v15 => ?_)
    refine jo_aload_n (pc := 21) 0 rfl dX7_findShifts_21 rfl ?_
    refine jo_getf (pc := 22) ok_7_8 (ik_80 hw) gw_399 dX7_findShifts_22 (fun v16 => ?_)
    refine jo_iadd (pc := 25) dX7_findShifts_25 ?_
    refine jo_icmp_ge (pc := 26) dX7_findShifts_26 (tgt := 109) rfl ?_ ?_
    · refine jo_lv (lv' := [(0, .ref (adr w 80))]) [0] rfl ?_
      exact jo_leaf (by rfl) (h109_4 σ13)
    · refine jo_iload_n (pc := 29) 1 rfl dX7_findShifts_29 rfl ?_
      refine jo_bipush (pc := 30) dX7_findShifts_30 (ic_b_6) ?_
      refine jo_icmp_ge (pc := 32) dX7_findShifts_32 (tgt := 109) rfl ?_ ?_
      · refine jo_lv (lv' := [(0, .ref (adr w 80))]) [0] rfl ?_
        exact jo_leaf (by rfl) (h109_4 σ13)
      · refine jo_aload_n (pc := 35) 0 rfl dX7_findShifts_35 rfl ?_
        refine jo_getrE (pc := 36) ok_7_1 (ik_80 hw) rf_80_1 gw_392 dX7_findShifts_36 ?_
        refine jo_iload_n (pc := 39) 1 rfl dX7_findShifts_39 rfl ?_
        refine jo_cV_Z_p (pc := 40) (μ' := mu_X3_hasStep) (fx := f_X3_hasStep σ13 81 i14) (As := [.int i14]) (c_X3_hasStep hw (ik_81 hw)) (ok_X3_hasStep) (ltb rfl) (all3 gw_1213 gw_1214 gw_1215) (ik_81 hw) (by decide) (q := (RX3, TX3, 3)) rfl rfl rfl rfl (Nat.le_of_ble_eq_true rfl) dX7_findShifts_40 (fun b17 => ?_)
        refine jo_join1 (S := Mem) (fun (z18 : Mem) => z18) (fun (z18 : Mem) => [(0, .ref (adr w 80)), (1, .int i14)]) (fun (z18 : Mem) => []) 103 ?_ (fun h103_18 => ?_)
        · intro σ18
          show JO w mu_X7_findShifts vV σ18 [(0, .ref (adr w 80)), (1, .int i14)] [] 103 (j_X7_findShifts_103 i14 σ18) _
          unfold j_X7_findShifts_103
          refine jo_iinc (pc := 103) (lv' := [(1, .int (i14 + 1)), (0, .ref (adr w 80))]) 1 rfl dX7_findShifts_103 (congrArg (fun z => i14 + z) (ic_i_1)) (ltb rfl) rfl ?_
          refine jo_goto (pc := 106) dX7_findShifts_106 (tgt := 16) rfl ?_
          refine jo_lv (lv' := [(0, .ref (adr w 80)), (1, .int (i14 + 1))]) [1, 0] rfl ?_
          exact jo_leaf (by rfl) (hF16_14 (σ18, i14 + 1))
        · refine jo_ifz_eq (pc := 43) dX7_findShifts_43 (tgt := 103) rfl ?_ ?_
          · exact jo_leaf (by rfl) (h103_18 σ13)
          · refine jo_aload_n (pc := 46) 0 rfl dX7_findShifts_46 rfl ?_
            refine jo_lconst (pc := 47) dX7_findShifts_47 (ic_l_0) ?_
            refine jo_cV_V_i (pc := 48) (μ' := mu_X7_putU) (fx := f_X7_putU σ13 0) (As := [.long 0]) (c_X7_putU hw) (ok_X7_putU) (ltb rfl) (all3 gw_924 gw_926 gw_20) (ik_80 hw) (by decide) (q := (RX7, TX7, 11)) rfl rfl rfl rfl (Nat.le_of_ble_eq_true rfl) dX7_findShifts_48 (fun σ19 => ?_)
            refine jo_iconst (pc := 51) dX7_findShifts_51 (ic_i_0) ?_
            refine jo_istore_n (pc := 52) (lv' := [(2, .int 0), (0, .ref (adr w 80)), (1, .int i14)]) dX7_findShifts_52 rfl (ltb rfl) rfl ?_
            refine jo_join1 (S := Mem) (fun (z20 : Mem) => z20) (fun (z20 : Mem) => [(0, .ref (adr w 80)), (1, .int i14)]) (fun (z20 : Mem) => []) 99 ?_ (fun h99_20 => ?_)
            · intro σ20
              show JO w mu_X7_findShifts vV σ20 [(0, .ref (adr w 80)), (1, .int i14)] [] 99 (j_X7_findShifts_99 σ20) _
              unfold j_X7_findShifts_99
              refine jo_aload_n (pc := 99) 0 rfl dX7_findShifts_99 rfl ?_
              refine jo_cV_V_i (pc := 100) (μ' := mu_X7_insertShift) (fx := f_X7_insertShift σ20) (As := []) (c_X7_insertShift hw) (ok_X7_insertShift) (ltb rfl) (all3 gw_1217 gw_1219 gw_58) (ik_80 hw) (by decide) (q := (RX7, TX7, 11)) rfl rfl rfl rfl (Nat.le_of_ble_eq_true rfl) dX7_findShifts_100 (fun σ21 => ?_)
              exact jo_leaf (by rfl) (h103_18 σ21)
            · refine jo_lv (lv' := [(0, .ref (adr w 80)), (1, .int i14), (2, .int 0)]) [1, 2, 0] rfl ?_
              refine jo_loop (X := Mem) (fun (z23 : (Mem × Int32)) => z23.1) (fun (z23 : (Mem × Int32)) => [(0, .ref (adr w 80)), (1, .int i14), (2, .int z23.2)]) (body := (fun (z23 : (Mem × Int32)) => l_X7_findShifts_53 i14 z23.1 z23.2)) (fun F53_23 hF53_23 s => ?_) (σ19, 0)
              obtain ⟨σ22, i23⟩ := s
              show JO w mu_X7_findShifts vV σ22 [(0, .ref (adr w 80)), (1, .int i14), (2, .int i23)] [] 53 (l_X7_findShifts_53 i14 σ22 i23) _
              unfold l_X7_findShifts_53
              refine jo_iload_n (pc := 53) 2 rfl dX7_findShifts_53 rfl ?_
              refine jo_aload_n (pc := 54) 0 rfl dX7_findShifts_54 rfl ?_
              refine jo_getf (pc := 55) ok_7_8 (ik_80 hw) gw_399 dX7_findShifts_55 (fun v24 => ?_)
              refine jo_icmp_ge (pc := 58) dX7_findShifts_58 (tgt := 99) rfl ?_ ?_
              · refine jo_lv (lv' := [(0, .ref (adr w 80)), (1, .int i14)]) [0, 1] rfl ?_
                exact jo_leaf (by rfl) (h99_20 σ22)
              · refine jo_aload_n (pc := 61) 0 rfl dX7_findShifts_61 rfl ?_
                refine jo_getf (pc := 62) ok_7_9 (ik_80 hw) gw_400 dX7_findShifts_62 (fun v25 => ?_)
                refine jo_iload_n (pc := 65) 2 rfl dX7_findShifts_65 rfl ?_
                refine jo_iadd (pc := 66) dX7_findShifts_66 ?_
                refine jo_bipush (pc := 67) dX7_findShifts_67 (ic_b_6) ?_
                refine jo_icmp_ge (pc := 69) dX7_findShifts_69 (tgt := 99) rfl ?_ ?_
                · refine jo_lv (lv' := [(0, .ref (adr w 80)), (1, .int i14)]) [0, 1] rfl ?_
                  exact jo_leaf (by rfl) (h99_20 σ22)
                · refine jo_aload_n (pc := 72) 0 rfl dX7_findShifts_72 rfl ?_
                  refine jo_iload_n (pc := 73) 2 rfl dX7_findShifts_73 rfl ?_
                  refine jo_aload_n (pc := 74) 0 rfl dX7_findShifts_74 rfl ?_
                  refine jo_getrE (pc := 75) ok_7_1 (ik_80 hw) rf_80_1 gw_392 dX7_findShifts_75 ?_
                  refine jo_getrE (pc := 78) ok_3_1 (ik_81 hw) rf_81_1 gw_380 dX7_findShifts_78 ?_
                  refine jo_iload_n (pc := 81) 1 rfl dX7_findShifts_81 rfl ?_
                  refine jo_aaldG (pc := 82) (z := 13) hw (ik_82 hw) (by decide) (t := 4) rfl rfl (by decide) dX7_findShifts_82 (fun p26 hp26 => ?_)
                  refine jo_aload_n (pc := 83) 0 rfl dX7_findShifts_83 rfl ?_
                  refine jo_getf (pc := 84) ok_7_9 (ik_80 hw) gw_400 dX7_findShifts_84 (fun v27 => ?_)
                  refine jo_iload_n (pc := 87) 2 rfl dX7_findShifts_87 rfl ?_
                  refine jo_iadd (pc := 88) dX7_findShifts_88 ?_
                  refine jo_lald (pc := 89) (hp26) dX7_findShifts_89 (fun v28 => ?_)
                  refine jo_cV_V_i (pc := 90) (μ' := mu_X7_setU) (fx := f_X7_setU σ22 i23 v28) (As := [.int i23, .long v28]) (c_X7_setU hw) (ok_X7_setU) (ltb rfl) (all3 gw_928 gw_930 gw_21) (ik_80 hw) (by decide) (q := (RX7, TX7, 11)) rfl rfl rfl rfl (Nat.le_of_ble_eq_true rfl) dX7_findShifts_90 (fun σ29 => ?_)
                  refine jo_iinc (pc := 93) (lv' := [(2, .int (i23 + 1)), (0, .ref (adr w 80)), (1, .int i14)]) 2 rfl dX7_findShifts_93 (congrArg (fun z => i23 + z) (ic_i_1)) (ltb rfl) rfl ?_
                  refine jo_goto (pc := 96) dX7_findShifts_96 (tgt := 53) rfl ?_
                  refine jo_lv (lv' := [(0, .ref (adr w 80)), (1, .int i14), (2, .int (i23 + 1))]) [1, 2, 0] rfl ?_
                  exact jo_leaf (by rfl) (hF53_23 (σ29, i23 + 1))
theorem c_X7_findShifts {w : Wd} (hw : WOK w) {σ : Mem} : ∀ σ', f_X7_findShifts σ = some σ' → MC w mu_X7_findShifts none [.ref (adr w 80)] σ σ' := mc_ofV ok_X7_findShifts rfl (Nat.le_of_ble_eq_true rfl) (t_X7_findShifts hw)
abbrev mu_X7_areConjugates : MD := (yX7_areConjugates, cX7_areConjugates, 3, some .boolean, 6)
theorem ok_X7_areConjugates : MOK mu_X7_areConjugates 2 := ⟨gw_1188, gw_165, (by decide +kernel : plainFor yX7_areConjugates = true), ⟨(by decide +kernel : yX7_areConjugates.cls ≠ "java/lang/invoke/MethodHandle"), (by decide +kernel : yX7_areConjugates.cls ≠ "java/lang/invoke/VarHandle"), (by decide +kernel : (parseMethodDescriptor yX7_areConjugates.desc).map (fun d => d.parameters.length) = some 2)⟩, Nat.le_of_ble_eq_true rfl⟩
noncomputable def f_X7_areConjugates (σ : Mem) (x0 : Nat) (x1 : Nat) : Option (Bool × Mem) :=
  (f_X6_countOf σ 41 1).bind (fun (v1 : Int32) => pF σ 80 8 v1 (fun (σ2 : Mem) => (f_X6_countOf σ2 41 2).bind (fun (v3 : Int32) => pF σ2 80 9 v3 (fun (σ4 : Mem) => (f_X6_countOf σ4 41 3).bind (fun (v5 : Int32) => pF σ4 80 10 v5 (fun (σ6 : Mem) => (f_X7_findGaps σ6 x0 x1).bind (fun (σ7 : Mem) => (f_X7_putU σ7 0).bind (fun (σ8 : Mem) => gF σ8 80 8 (fun (v9 : Int32) => (f_X7_areClosed σ8 0 v9).bind (fun (b10 : Bool) => if b10 then (f_X7_findTurns σ8).bind (fun (σ11 : Mem) => bq (f_X7_turnWeightTwo σ11) (fun (b12 : Bool) (σ13 : Mem) => if b12 then gF σ13 80 8 (fun (v14 : Int32) => gF σ13 80 9 (fun (v15 : Int32) => gF σ13 80 10 (fun (v16 : Int32) => (f_X7_copyGaps σ13 (v14 + v15) v16 102).bind (fun (σ17 : Mem) => (f_X7_findGaps σ17 x1 x1).bind (fun (σ18 : Mem) => (f_X7_findShifts σ18).bind (fun (σ19 : Mem) => bq (f_X3_reduce σ19 90 102) (fun (b20 : Bool) (σ21 : Mem) => some (b20, σ21)))))))) else some (false, σ13))) else some (false, σ8)))))))))))
theorem t_X7_areConjugates {w : Wd} (hw : WOK w) {σ : Mem} {x0 : Nat} {x1 : Nat} (hx0 : isk w x0 13) (hx1 : isk w x1 13) : JO w mu_X7_areConjugates vB σ [(0, .ref (adr w 80)), (1, .ref (adr w x0)), (2, .ref (adr w x1))] [] 0 (f_X7_areConjugates σ x0 x1) some := by
  unfold f_X7_areConjugates
  refine jo_aload_n (pc := 0) 0 rfl dX7_areConjugates_0 rfl ?_
  refine jo_aload_n (pc := 1) 0 rfl dX7_areConjugates_1 rfl ?_
  refine jo_getrE (pc := 2) ok_7_0 (ik_80 hw) rf_80_0 gw_391 dX7_areConjugates_2 ?_
  refine jo_getrE (pc := 5) ok_4_0 (ik_40 hw) rf_40_0 gw_300 dX7_areConjugates_5 ?_
  refine jo_iconst (pc := 8) dX7_areConjugates_8 (ic_i_1) ?_
  refine jo_cV_I_p (pc := 9) (μ' := mu_X6_countOf) (fx := f_X6_countOf σ 41 1) (As := [.int 1]) (c_X6_countOf hw (ik_41 hw)) (ok_X6_countOf) (ltb rfl) (all3 gw_1189 gw_1190 gw_1191) (ik_41 hw) (by decide) (q := (RX6, TX6, 3)) rfl rfl rfl rfl (Nat.le_of_ble_eq_true rfl) dX7_areConjugates_9 (fun v1 => ?_)
  refine jo_putf (pc := 12) ok_7_8 okp_7_8 (ik_80 hw) gw_399 dX7_areConjugates_12 (fun σ2 => ?_)
  refine jo_aload_n (pc := 15) 0 rfl dX7_areConjugates_15 rfl ?_
  refine jo_aload_n (pc := 16) 0 rfl dX7_areConjugates_16 rfl ?_
  refine jo_getrE (pc := 17) ok_7_0 (ik_80 hw) rf_80_0 gw_391 dX7_areConjugates_17 ?_
  refine jo_getrE (pc := 20) ok_4_0 (ik_40 hw) rf_40_0 gw_300 dX7_areConjugates_20 ?_
  refine jo_iconst (pc := 23) dX7_areConjugates_23 (ic_i_2) ?_
  refine jo_cV_I_p (pc := 24) (μ' := mu_X6_countOf) (fx := f_X6_countOf σ2 41 2) (As := [.int 2]) (c_X6_countOf hw (ik_41 hw)) (ok_X6_countOf) (ltb rfl) (all3 gw_1189 gw_1190 gw_1191) (ik_41 hw) (by decide) (q := (RX6, TX6, 3)) rfl rfl rfl rfl (Nat.le_of_ble_eq_true rfl) dX7_areConjugates_24 (fun v3 => ?_)
  refine jo_putf (pc := 27) ok_7_9 okp_7_9 (ik_80 hw) gw_400 dX7_areConjugates_27 (fun σ4 => ?_)
  refine jo_aload_n (pc := 30) 0 rfl dX7_areConjugates_30 rfl ?_
  refine jo_aload_n (pc := 31) 0 rfl dX7_areConjugates_31 rfl ?_
  refine jo_getrE (pc := 32) ok_7_0 (ik_80 hw) rf_80_0 gw_391 dX7_areConjugates_32 ?_
  refine jo_getrE (pc := 35) ok_4_0 (ik_40 hw) rf_40_0 gw_300 dX7_areConjugates_35 ?_
  refine jo_iconst (pc := 38) dX7_areConjugates_38 (ic_i_3) ?_
  refine jo_cV_I_p (pc := 39) (μ' := mu_X6_countOf) (fx := f_X6_countOf σ4 41 3) (As := [.int 3]) (c_X6_countOf hw (ik_41 hw)) (ok_X6_countOf) (ltb rfl) (all3 gw_1189 gw_1190 gw_1191) (ik_41 hw) (by decide) (q := (RX6, TX6, 3)) rfl rfl rfl rfl (Nat.le_of_ble_eq_true rfl) dX7_areConjugates_39 (fun v5 => ?_)
  refine jo_putf (pc := 42) ok_7_10 okp_7_10 (ik_80 hw) gw_401 dX7_areConjugates_42 (fun σ6 => ?_)
  refine jo_aload_n (pc := 45) 0 rfl dX7_areConjugates_45 rfl ?_
  refine jo_aload_n (pc := 46) 1 rfl dX7_areConjugates_46 rfl ?_
  refine jo_aload_n (pc := 47) 2 rfl dX7_areConjugates_47 rfl ?_
  refine jo_cV_V_i (pc := 48) (μ' := mu_X7_findGaps) (fx := f_X7_findGaps σ6 x0 x1) (As := [.ref (adr w x0), .ref (adr w x1)]) (c_X7_findGaps hw (hx0) (hx1)) (ok_X7_findGaps) (ltb rfl) (all3 gw_905 gw_907 gw_18) (ik_80 hw) (by decide) (q := (RX7, TX7, 11)) rfl rfl rfl rfl (Nat.le_of_ble_eq_true rfl) dX7_areConjugates_48 (fun σ7 => ?_)
  refine jo_aload_n (pc := 51) 0 rfl dX7_areConjugates_51 rfl ?_
  refine jo_lconst (pc := 52) dX7_areConjugates_52 (ic_l_0) ?_
  refine jo_cV_V_i (pc := 53) (μ' := mu_X7_putU) (fx := f_X7_putU σ7 0) (As := [.long 0]) (c_X7_putU hw) (ok_X7_putU) (ltb rfl) (all3 gw_924 gw_926 gw_20) (ik_80 hw) (by decide) (q := (RX7, TX7, 11)) rfl rfl rfl rfl (Nat.le_of_ble_eq_true rfl) dX7_areConjugates_53 (fun σ8 => ?_)
  refine jo_aload_n (pc := 56) 0 rfl dX7_areConjugates_56 rfl ?_
  refine jo_iconst (pc := 57) dX7_areConjugates_57 (ic_i_0) ?_
  refine jo_aload_n (pc := 58) 0 rfl dX7_areConjugates_58 rfl ?_
  refine jo_getf (pc := 59) ok_7_8 (ik_80 hw) gw_399 dX7_areConjugates_59 (fun v9 => ?_)
  refine jo_cV_Z_p (pc := 62) (μ' := mu_X7_areClosed) (fx := f_X7_areClosed σ8 0 v9) (As := [.int 0, .int v9]) (c_X7_areClosed hw) (ok_X7_areClosed) (ltb rfl) (all3 gw_933 gw_935 gw_22) (ik_80 hw) (by decide) (q := (RX7, TX7, 11)) rfl rfl rfl rfl (Nat.le_of_ble_eq_true rfl) dX7_areConjugates_62 (fun b10 => ?_)
  refine jo_ifz_ne (pc := 65) dX7_areConjugates_65 (tgt := 70) rfl ?_ ?_
  · refine jo_aload_n (pc := 70) 0 rfl dX7_areConjugates_70 rfl ?_
    refine jo_cV_V_i (pc := 71) (μ' := mu_X7_findTurns) (fx := f_X7_findTurns σ8) (As := []) (c_X7_findTurns hw) (ok_X7_findTurns) (ltb rfl) (all3 gw_1193 gw_1195 gw_54) (ik_80 hw) (by decide) (q := (RX7, TX7, 11)) rfl rfl rfl rfl (Nat.le_of_ble_eq_true rfl) dX7_areConjugates_71 (fun σ11 => ?_)
    refine jo_aload_n (pc := 74) 0 rfl dX7_areConjugates_74 rfl ?_
    refine jo_cV_Z_i (pc := 75) (μ' := mu_X7_turnWeightTwo) (fx := f_X7_turnWeightTwo σ11) (As := []) (c_X7_turnWeightTwo hw) (ok_X7_turnWeightTwo) (ltb rfl) (all3 gw_1204 gw_1206 gw_56) (ik_80 hw) (by decide) (q := (RX7, TX7, 11)) rfl rfl rfl rfl (Nat.le_of_ble_eq_true rfl) dX7_areConjugates_75 (fun b12 σ13 => ?_)
    refine jo_ifz_ne (pc := 78) dX7_areConjugates_78 (tgt := 83) rfl ?_ ?_
    · refine jo_aload_n (pc := 83) 0 rfl dX7_areConjugates_83 rfl ?_
      refine jo_aload_n (pc := 84) 0 rfl dX7_areConjugates_84 rfl ?_
      refine jo_getf (pc := 85) ok_7_8 (ik_80 hw) gw_399 dX7_areConjugates_85 (fun v14 => ?_)
      refine jo_aload_n (pc := 88) 0 rfl dX7_areConjugates_88 rfl ?_
      refine jo_getf (pc := 89) ok_7_9 (ik_80 hw) gw_400 dX7_areConjugates_89 (fun v15 => ?_)
      refine jo_iadd (pc := 92) dX7_areConjugates_92 ?_
      refine jo_aload_n (pc := 93) 0 rfl dX7_areConjugates_93 rfl ?_
      refine jo_getf (pc := 94) ok_7_10 (ik_80 hw) gw_401 dX7_areConjugates_94 (fun v16 => ?_)
      refine jo_aload_n (pc := 97) 0 rfl dX7_areConjugates_97 rfl ?_
      refine jo_getrE (pc := 98) ok_7_6 (ik_80 hw) rf_80_6 gw_397 dX7_areConjugates_98 ?_
      refine jo_cV_V_i (pc := 101) (μ' := mu_X7_copyGaps) (fx := f_X7_copyGaps σ13 (v14 + v15) v16 102) (As := [.int (v14 + v15), .int v16, .ref (adr w 102)]) (c_X7_copyGaps hw (ik_102 hw)) (ok_X7_copyGaps) (ltb rfl) (all3 gw_1198 gw_1200 gw_55) (ik_80 hw) (by decide) (q := (RX7, TX7, 11)) rfl rfl rfl rfl (Nat.le_of_ble_eq_true rfl) dX7_areConjugates_101 (fun σ17 => ?_)
      refine jo_aload_n (pc := 104) 0 rfl dX7_areConjugates_104 rfl ?_
      refine jo_aload_n (pc := 105) 2 rfl dX7_areConjugates_105 rfl ?_
      refine jo_aload_n (pc := 106) 2 rfl dX7_areConjugates_106 rfl ?_
      refine jo_cV_V_i (pc := 107) (μ' := mu_X7_findGaps) (fx := f_X7_findGaps σ17 x1 x1) (As := [.ref (adr w x1), .ref (adr w x1)]) (c_X7_findGaps hw (hx1) (hx1)) (ok_X7_findGaps) (ltb rfl) (all3 gw_905 gw_907 gw_18) (ik_80 hw) (by decide) (q := (RX7, TX7, 11)) rfl rfl rfl rfl (Nat.le_of_ble_eq_true rfl) dX7_areConjugates_107 (fun σ18 => ?_)
      refine jo_aload_n (pc := 110) 0 rfl dX7_areConjugates_110 rfl ?_
      refine jo_cV_V_i (pc := 111) (μ' := mu_X7_findShifts) (fx := f_X7_findShifts σ18) (As := []) (c_X7_findShifts hw) (ok_X7_findShifts) (ltb rfl) (all3 gw_1209 gw_1211 gw_57) (ik_80 hw) (by decide) (q := (RX7, TX7, 11)) rfl rfl rfl rfl (Nat.le_of_ble_eq_true rfl) dX7_areConjugates_111 (fun σ19 => ?_)
      refine jo_aload_n (pc := 114) 0 rfl dX7_areConjugates_114 rfl ?_
      refine jo_getrE (pc := 115) ok_7_2 (ik_80 hw) rf_80_2 gw_393 dX7_areConjugates_115 ?_
      refine jo_aload_n (pc := 118) 0 rfl dX7_areConjugates_118 rfl ?_
      refine jo_getrE (pc := 119) ok_7_6 (ik_80 hw) rf_80_6 gw_397 dX7_areConjugates_119 ?_
      refine jo_cV_Z_i (pc := 122) (μ' := mu_X3_reduce) (fx := f_X3_reduce σ19 90 102) (As := [.ref (adr w 102)]) (c_X3_reduce hw (ik_90 hw) (ik_102 hw)) (ok_X3_reduce) (ltb rfl) (all3 gw_1208 gw_1169 gw_1170) (ik_90 hw) (by decide) (q := (RX3, TX3, 3)) rfl rfl rfl rfl (Nat.le_of_ble_eq_true rfl) dX7_areConjugates_122 (fun b20 σ21 => ?_)
      exact jo_breturn (pc := 125) (b := b20) rfl rfl dX7_areConjugates_125
    · refine jo_iconst (pc := 81) dX7_areConjugates_81 (ic_i_0) ?_
      exact jo_breturn (pc := 82) (b := false) rfl rfl dX7_areConjugates_82
  · refine jo_iconst (pc := 68) dX7_areConjugates_68 (ic_i_0) ?_
    exact jo_breturn (pc := 69) (b := false) rfl rfl dX7_areConjugates_69
theorem c_X7_areConjugates {w : Wd} (hw : WOK w) {σ : Mem} {x0 : Nat} {x1 : Nat} (hx0 : isk w x0 13) (hx1 : isk w x1 13) : ∀ r σ', f_X7_areConjugates σ x0 x1 = some (r, σ') → MC w mu_X7_areConjugates (vB r) [.ref (adr w 80), .ref (adr w x0), .ref (adr w x1)] σ σ' := mc_of ok_X7_areConjugates rfl (Nat.le_of_ble_eq_true rfl) (t_X7_areConjugates hw hx0 hx1)
abbrev mu_X8_clearRegisters : MD := (yX8_clearRegisters, cX8_clearRegisters, 2, none, 1)
theorem ok_X8_clearRegisters : MOK mu_X8_clearRegisters 0 := ⟨gw_713, gw_159, (by decide +kernel : plainFor yX8_clearRegisters = true), ⟨(by decide +kernel : yX8_clearRegisters.cls ≠ "java/lang/invoke/MethodHandle"), (by decide +kernel : yX8_clearRegisters.cls ≠ "java/lang/invoke/VarHandle"), (by decide +kernel : (parseMethodDescriptor yX8_clearRegisters.desc).map (fun d => d.parameters.length) = some 0)⟩, Nat.le_of_ble_eq_true rfl⟩
noncomputable def l_X8_clearRegisters_2 (a : Nat) (σ1 : Mem) (i2 : Int32) : Option ((Mem × Int32) ⊕ Mem) :=
  if 10 ≤ i2 then (some (Sum.inr σ1)) else (gR (rf a 1) i2 (fun (p3 : Nat) => (f_J7_fill_d0a16 σ1 p3 0).bind (fun (σ4 : Mem) => some (Sum.inl (σ4, i2 + 1)))))
noncomputable def f_X8_clearRegisters (σ : Mem) (a : Nat) : Option Mem :=
  loopO (fun (z2 : (Mem × Int32)) => l_X8_clearRegisters_2 a z2.1 z2.2) (σ, 0)
theorem t_X8_clearRegisters {w : Wd} (hw : WOK w) {σ : Mem} {a : Nat} (ha : isk w a 8) : JO w mu_X8_clearRegisters vV σ [(0, .ref (adr w a))] [] 0 (f_X8_clearRegisters σ a) (fun z => some ((), z)) := by
  unfold f_X8_clearRegisters
  refine jo_iconst (pc := 0) dX8_clearRegisters_0 (ic_i_0) ?_
  refine jo_istore_n (pc := 1) (lv' := [(1, .int 0), (0, .ref (adr w a))]) dX8_clearRegisters_1 rfl (ltb rfl) rfl ?_
  refine jo_lv (lv' := [(0, .ref (adr w a)), (1, .int 0)]) [1, 0] rfl ?_
  refine jo_loop (X := Mem) (fun (z2 : (Mem × Int32)) => z2.1) (fun (z2 : (Mem × Int32)) => [(0, .ref (adr w a)), (1, .int z2.2)]) (body := (fun (z2 : (Mem × Int32)) => l_X8_clearRegisters_2 a z2.1 z2.2)) (fun F2_2 hF2_2 s => ?_) (σ, 0)
  obtain ⟨σ1, i2⟩ := s
  show JO w mu_X8_clearRegisters vV σ1 [(0, .ref (adr w a)), (1, .int i2)] [] 2 (l_X8_clearRegisters_2 a σ1 i2) _
  unfold l_X8_clearRegisters_2
  refine jo_iload_n (pc := 2) 1 rfl dX8_clearRegisters_2 rfl ?_
  refine jo_bipush (pc := 3) dX8_clearRegisters_3 (ic_b_10) ?_
  refine jo_icmp_ge (pc := 5) dX8_clearRegisters_5 (tgt := 24) rfl ?_ ?_
  · exact jo_return (pc := 24) rfl rfl dX8_clearRegisters_24
  · refine jo_aload_n (pc := 8) 0 rfl dX8_clearRegisters_8 rfl ?_
    refine jo_getr (pc := 9) ok_8_1 (ha) gw_220 dX8_clearRegisters_9 ?_
    refine jo_iload_n (pc := 12) 1 rfl dX8_clearRegisters_12 rfl ?_
    refine jo_aaldG (pc := 13) (z := 13) hw (wf_8_1 hw (ha)) (by decide) (t := 4) rfl rfl (by decide) dX8_clearRegisters_13 (fun p3 hp3 => ?_)
    refine jo_lconst (pc := 14) dX8_clearRegisters_14 (ic_l_0) ?_
    refine jo_cS_V_i (pc := 15) (μ' := mu_J7_fill_d0a16) (fx := f_J7_fill_d0a16 σ1 p3 0) (As := [.ref (adr w p3), .long 0]) (c_J7_fill_d0a16 hw (hp3)) (ok_J7_fill_d0a16) (ltb rfl) (all2 gw_714 gw_715) rfl rfl (Nat.le_of_ble_eq_true rfl) dX8_clearRegisters_15 (fun σ4 => ?_)
    refine jo_iinc (pc := 18) (lv' := [(1, .int (i2 + 1)), (0, .ref (adr w a))]) 1 rfl dX8_clearRegisters_18 (congrArg (fun z => i2 + z) (ic_i_1)) (ltb rfl) rfl ?_
    refine jo_goto (pc := 21) dX8_clearRegisters_21 (tgt := 2) rfl ?_
    refine jo_lv (lv' := [(0, .ref (adr w a)), (1, .int (i2 + 1))]) [1, 0] rfl ?_
    exact jo_leaf (by rfl) (hF2_2 (σ4, i2 + 1))
theorem c_X8_clearRegisters {w : Wd} (hw : WOK w) {σ : Mem} {a : Nat} (ha : isk w a 8) : ∀ σ', f_X8_clearRegisters σ a = some σ' → MC w mu_X8_clearRegisters none [.ref (adr w a)] σ σ' := mc_ofV ok_X8_clearRegisters rfl (Nat.le_of_ble_eq_true rfl) (t_X8_clearRegisters hw ha)
abbrev mu_X8_takeActed : MD := (yX8_takeActed, cX8_takeActed, 3, none, 2)
theorem ok_X8_takeActed : MOK mu_X8_takeActed 1 := ⟨gw_701, gw_159, (by decide +kernel : plainFor yX8_takeActed = true), ⟨(by decide +kernel : yX8_takeActed.cls ≠ "java/lang/invoke/MethodHandle"), (by decide +kernel : yX8_takeActed.cls ≠ "java/lang/invoke/VarHandle"), (by decide +kernel : (parseMethodDescriptor yX8_takeActed.desc).map (fun d => d.parameters.length) = some 1)⟩, Nat.le_of_ble_eq_true rfl⟩
noncomputable def l_X8_takeActed_13 (a : Nat) (x0 : Nat) (σ2 : Mem) (i3 : Int32) : Option ((Mem × Int32) ⊕ Mem) :=
  if 10 ≤ i3 then (some (Sum.inr σ2)) else (gR (rf x0 1) i3 (fun (p4 : Nat) => gR (rf a 1) i3 (fun (p5 : Nat) => (f_X0_copy σ2 p4 p5).bind (fun (σ6 : Mem) => some (Sum.inl (σ6, i3 + 1))))))
noncomputable def f_X8_takeActed (σ : Mem) (a : Nat) (x0 : Nat) : Option Mem :=
  (f_X6_takeAll σ (rf a 0) (rf x0 0)).bind (fun (σ1 : Mem) => loopO (fun (z3 : (Mem × Int32)) => l_X8_takeActed_13 a x0 z3.1 z3.2) (σ1, 0))
theorem t_X8_takeActed {w : Wd} (hw : WOK w) {σ : Mem} {a : Nat} {x0 : Nat} (ha : isk w a 8) (hx0 : isk w x0 8) : JO w mu_X8_takeActed vV σ [(0, .ref (adr w a)), (1, .ref (adr w x0))] [] 0 (f_X8_takeActed σ a x0) (fun z => some ((), z)) := by
  unfold f_X8_takeActed
  refine jo_aload_n (pc := 0) 0 rfl dX8_takeActed_0 rfl ?_
  refine jo_getr (pc := 1) ok_8_0 (ha) gw_217 dX8_takeActed_1 ?_
  refine jo_aload_n (pc := 4) 1 rfl dX8_takeActed_4 rfl ?_
  refine jo_getr (pc := 5) ok_8_0 (hx0) gw_217 dX8_takeActed_5 ?_
  refine jo_cV_V_i (pc := 8) (μ' := mu_X6_takeAll) (fx := f_X6_takeAll σ (rf a 0) (rf x0 0)) (As := [.ref (adr w (rf x0 0))]) (c_X6_takeAll hw (wf_8_0 hw (ha)) (wf_8_0 hw (hx0))) (ok_X6_takeAll) (ltb rfl) (all3 gw_702 gw_542 gw_543) (wf_8_0 hw (ha)) (by decide) (q := (RX6, TX6, 3)) rfl rfl rfl rfl (Nat.le_of_ble_eq_true rfl) dX8_takeActed_8 (fun σ1 => ?_)
  refine jo_iconst (pc := 11) dX8_takeActed_11 (ic_i_0) ?_
  refine jo_istore_n (pc := 12) (lv' := [(2, .int 0), (0, .ref (adr w a)), (1, .ref (adr w x0))]) dX8_takeActed_12 rfl (ltb rfl) rfl ?_
  refine jo_lv (lv' := [(0, .ref (adr w a)), (1, .ref (adr w x0)), (2, .int 0)]) [1, 2, 0] rfl ?_
  refine jo_loop (X := Mem) (fun (z3 : (Mem × Int32)) => z3.1) (fun (z3 : (Mem × Int32)) => [(0, .ref (adr w a)), (1, .ref (adr w x0)), (2, .int z3.2)]) (body := (fun (z3 : (Mem × Int32)) => l_X8_takeActed_13 a x0 z3.1 z3.2)) (fun F13_3 hF13_3 s => ?_) (σ1, 0)
  obtain ⟨σ2, i3⟩ := s
  show JO w mu_X8_takeActed vV σ2 [(0, .ref (adr w a)), (1, .ref (adr w x0)), (2, .int i3)] [] 13 (l_X8_takeActed_13 a x0 σ2 i3) _
  unfold l_X8_takeActed_13
  refine jo_iload_n (pc := 13) 2 rfl dX8_takeActed_13 rfl ?_
  refine jo_bipush (pc := 14) dX8_takeActed_14 (ic_b_10) ?_
  refine jo_icmp_ge (pc := 16) dX8_takeActed_16 (tgt := 40) rfl ?_ ?_
  · exact jo_return (pc := 40) rfl rfl dX8_takeActed_40
  · refine jo_aload_n (pc := 19) 1 rfl dX8_takeActed_19 rfl ?_
    refine jo_getr (pc := 20) ok_8_1 (hx0) gw_220 dX8_takeActed_20 ?_
    refine jo_iload_n (pc := 23) 2 rfl dX8_takeActed_23 rfl ?_
    refine jo_aaldG (pc := 24) (z := 13) hw (wf_8_1 hw (hx0)) (by decide) (t := 4) rfl rfl (by decide) dX8_takeActed_24 (fun p4 hp4 => ?_)
    refine jo_aload_n (pc := 25) 0 rfl dX8_takeActed_25 rfl ?_
    refine jo_getr (pc := 26) ok_8_1 (ha) gw_220 dX8_takeActed_26 ?_
    refine jo_iload_n (pc := 29) 2 rfl dX8_takeActed_29 rfl ?_
    refine jo_aaldG (pc := 30) (z := 13) hw (wf_8_1 hw (ha)) (by decide) (t := 4) rfl rfl (by decide) dX8_takeActed_30 (fun p5 hp5 => ?_)
    refine jo_cS_V_i (pc := 31) (μ' := mu_X0_copy) (fx := f_X0_copy σ2 p4 p5) (As := [.ref (adr w p4), .ref (adr w p5)]) (c_X0_copy hw (hp4) (hp5)) (ok_X0_copy) (ltb rfl) (all2 gw_703 gw_704) rfl rfl (Nat.le_of_ble_eq_true rfl) dX8_takeActed_31 (fun σ6 => ?_)
    refine jo_iinc (pc := 34) (lv' := [(2, .int (i3 + 1)), (0, .ref (adr w a)), (1, .ref (adr w x0))]) 2 rfl dX8_takeActed_34 (congrArg (fun z => i3 + z) (ic_i_1)) (ltb rfl) rfl ?_
    refine jo_goto (pc := 37) dX8_takeActed_37 (tgt := 13) rfl ?_
    refine jo_lv (lv' := [(0, .ref (adr w a)), (1, .ref (adr w x0)), (2, .int (i3 + 1))]) [1, 2, 0] rfl ?_
    exact jo_leaf (by rfl) (hF13_3 (σ6, i3 + 1))
theorem c_X8_takeActed {w : Wd} (hw : WOK w) {σ : Mem} {a : Nat} {x0 : Nat} (ha : isk w a 8) (hx0 : isk w x0 8) : ∀ σ', f_X8_takeActed σ a x0 = some σ' → MC w mu_X8_takeActed none [.ref (adr w a), .ref (adr w x0)] σ σ' := mc_ofV ok_X8_takeActed rfl (Nat.le_of_ble_eq_true rfl) (t_X8_takeActed hw ha hx0)
abbrev mu_X8_takeAll : MD := (yX8_takeAll, cX8_takeAll, 2, none, 3)
theorem ok_X8_takeAll : MOK mu_X8_takeAll 1 := ⟨gw_1251, gw_159, (by decide +kernel : plainFor yX8_takeAll = true), ⟨(by decide +kernel : yX8_takeAll.cls ≠ "java/lang/invoke/MethodHandle"), (by decide +kernel : yX8_takeAll.cls ≠ "java/lang/invoke/VarHandle"), (by decide +kernel : (parseMethodDescriptor yX8_takeAll.desc).map (fun d => d.parameters.length) = some 1)⟩, Nat.le_of_ble_eq_true rfl⟩
noncomputable def f_X8_takeAll (σ : Mem) (a : Nat) (x0 : Nat) : Option Mem :=
  (f_X8_takeActed σ a x0).bind (fun (σ1 : Mem) => cI σ1 (rf x0 2) 0 (rf a 2) 0 (Int32.ofNat (ln (rf a 2))) (fun (σ2 : Mem) => some σ2))
theorem t_X8_takeAll {w : Wd} (hw : WOK w) {σ : Mem} {a : Nat} {x0 : Nat} (ha : isk w a 8) (hx0 : isk w x0 8) : JO w mu_X8_takeAll vV σ [(0, .ref (adr w a)), (1, .ref (adr w x0))] [] 0 (f_X8_takeAll σ a x0) (fun z => some ((), z)) := by
  unfold f_X8_takeAll
  refine jo_aload_n (pc := 0) 0 rfl dX8_takeAll_0 rfl ?_
  refine jo_aload_n (pc := 1) 1 rfl dX8_takeAll_1 rfl ?_
  refine jo_cV_V_i (pc := 2) (μ' := mu_X8_takeActed) (fx := f_X8_takeActed σ a x0) (As := [.ref (adr w x0)]) (c_X8_takeActed hw (ha) (hx0)) (ok_X8_takeActed) (ltb rfl) (all3 gw_1252 gw_699 gw_700) (ha) (by decide) (q := (RX8, TX8, 3)) rfl rfl rfl rfl (Nat.le_of_ble_eq_true rfl) dX8_takeAll_2 (fun σ1 => ?_)
  refine jo_aload_n (pc := 5) 1 rfl dX8_takeAll_5 rfl ?_
  refine jo_getr (pc := 6) ok_8_2 (hx0) gw_223 dX8_takeAll_6 ?_
  refine jo_iconst (pc := 9) dX8_takeAll_9 (ic_i_0) ?_
  refine jo_aload_n (pc := 10) 0 rfl dX8_takeAll_10 rfl ?_
  refine jo_getr (pc := 11) ok_8_2 (ha) gw_223 dX8_takeAll_11 ?_
  refine jo_iconst (pc := 14) dX8_takeAll_14 (ic_i_0) ?_
  refine jo_aload_n (pc := 15) 0 rfl dX8_takeAll_15 rfl ?_
  refine jo_getr (pc := 16) ok_8_2 (ha) gw_223 dX8_takeAll_16 ?_
  refine jo_alenI (pc := 19) (wf_8_2 hw (ha)) (by decide) (t := 0) rfl dX8_takeAll_19 ?_
  refine jo_acI (pc := 20) (wf_8_2 hw (hx0)) (wf_8_2 hw (ha)) (all4 gw_1253 gw_547 gw_546 gw_170) (ltb rfl) (Nat.le_of_ble_eq_true rfl) dX8_takeAll_20 (fun σ2 => ?_)
  exact jo_return (pc := 23) rfl rfl dX8_takeAll_23
theorem c_X8_takeAll {w : Wd} (hw : WOK w) {σ : Mem} {a : Nat} {x0 : Nat} (ha : isk w a 8) (hx0 : isk w x0 8) : ∀ σ', f_X8_takeAll σ a x0 = some σ' → MC w mu_X8_takeAll none [.ref (adr w a), .ref (adr w x0)] σ σ' := mc_ofV ok_X8_takeAll rfl (Nat.le_of_ble_eq_true rfl) (t_X8_takeAll hw ha hx0)
abbrev mu_X9_greatestDegree : MD := (yX9_greatestDegree, cX9_greatestDegree, 5, some .int, 1)
theorem ok_X9_greatestDegree : MOK mu_X9_greatestDegree 0 := ⟨gw_782, gw_163, (by decide +kernel : plainFor yX9_greatestDegree = true), ⟨(by decide +kernel : yX9_greatestDegree.cls ≠ "java/lang/invoke/MethodHandle"), (by decide +kernel : yX9_greatestDegree.cls ≠ "java/lang/invoke/VarHandle"), (by decide +kernel : (parseMethodDescriptor yX9_greatestDegree.desc).map (fun d => d.parameters.length) = some 0)⟩, Nat.le_of_ble_eq_true rfl⟩
noncomputable def j_X9_greatestDegree_44 (σ : Mem) (i1 : Int32) (i2 : Int32) (i4 : Int32) : Option ((Int32 × Int32) ⊕ Int32) :=
  (f_J9_max_7cf53 σ i1 i4).bind (fun (v5 : Int32) => some (Sum.inl (v5, i2 + 1)))
noncomputable def l_X9_greatestDegree_17 (σ : Mem) (a : Nat) (i2 : Int32) (i6 : Int32) (i7 : Int32) : Option ((Int32 × Int32) ⊕ Int32) :=
  if 12 ≤ i7 then (some (Sum.inr i6)) else (gI σ (rf a 1) i2 (fun (v8 : Int32) => (f_X10_degree σ v8 i7).bind (fun (v9 : Int32) => bd (i6 + v9) (fun (v10 : Int32) => some (Sum.inl (v10, i7 + 1))))))
noncomputable def l_X9_greatestDegree_4 (σ : Mem) (a : Nat) (i1 : Int32) (i2 : Int32) : Option ((Int32 × Int32) ⊕ Int32) :=
  gF σ a 0 (fun (v3 : Int32) => if v3 ≤ i2 then (some (Sum.inr i1)) else ((loopO (fun (z7 : (Int32 × Int32)) => l_X9_greatestDegree_17 σ a i2 z7.1 z7.2) (0, 0) : Option Int32).bind (fun (z4 : Int32) => j_X9_greatestDegree_44 σ i1 i2 z4)))
noncomputable def f_X9_greatestDegree (σ : Mem) (a : Nat) : Option Int32 :=
  loopO (fun (z2 : (Int32 × Int32)) => l_X9_greatestDegree_4 σ a z2.1 z2.2) (0, 0)
theorem t_X9_greatestDegree {w : Wd} (hw : WOK w) {σ : Mem} {a : Nat} (ha : isk w a 9) : JO w mu_X9_greatestDegree vI σ [(0, .ref (adr w a))] [] 0 (f_X9_greatestDegree σ a) (fun z => some (z, σ)) := by
  unfold f_X9_greatestDegree
  refine jo_iconst (pc := 0) dX9_greatestDegree_0 (ic_i_0) ?_
  refine jo_istore_n (pc := 1) (lv' := [(1, .int 0), (0, .ref (adr w a))]) dX9_greatestDegree_1 rfl (ltb rfl) rfl ?_
  refine jo_iconst (pc := 2) dX9_greatestDegree_2 (ic_i_0) ?_
  refine jo_istore_n (pc := 3) (lv' := [(2, .int 0), (1, .int 0), (0, .ref (adr w a))]) dX9_greatestDegree_3 rfl (ltb rfl) rfl ?_
  refine jo_lv (lv' := [(0, .ref (adr w a)), (1, .int 0), (2, .int 0)]) [2, 1, 0] rfl ?_
  refine jo_loop (X := Int32) (fun (z2 : (Int32 × Int32)) => σ) (fun (z2 : (Int32 × Int32)) => [(0, .ref (adr w a)), (1, .int z2.1), (2, .int z2.2)]) (body := (fun (z2 : (Int32 × Int32)) => l_X9_greatestDegree_4 σ a z2.1 z2.2)) (fun F4_2 hF4_2 s => ?_) (0, 0)
  obtain ⟨i1, i2⟩ := s
  show JO w mu_X9_greatestDegree vI σ [(0, .ref (adr w a)), (1, .int i1), (2, .int i2)] [] 4 (l_X9_greatestDegree_4 σ a i1 i2) _
  unfold l_X9_greatestDegree_4
  refine jo_iload_n (pc := 4) 2 rfl dX9_greatestDegree_4 rfl ?_
  refine jo_aload_n (pc := 5) 0 rfl dX9_greatestDegree_5 rfl ?_
  refine jo_getf (pc := 6) ok_9_0 (ha) gw_279 dX9_greatestDegree_6 (fun v3 => ?_)
  refine jo_icmp_ge (pc := 9) dX9_greatestDegree_9 (tgt := 56) rfl ?_ ?_
  · refine jo_iload_n (pc := 56) 1 rfl dX9_greatestDegree_56 rfl ?_
    exact jo_ireturn (pc := 57) rfl rfl dX9_greatestDegree_57
  · refine jo_iconst (pc := 12) dX9_greatestDegree_12 (ic_i_0) ?_
    refine jo_istore_n (pc := 13) (lv' := [(3, .int 0), (0, .ref (adr w a)), (1, .int i1), (2, .int i2)]) dX9_greatestDegree_13 rfl (ltb rfl) rfl ?_
    refine jo_iconst (pc := 14) dX9_greatestDegree_14 (ic_i_0) ?_
    refine jo_istore (pc := 15) (lv' := [(4, .int 0), (3, .int 0), (0, .ref (adr w a)), (1, .int i1), (2, .int i2)]) dX9_greatestDegree_15 (ltb rfl) rfl ?_
    refine jo_join1 (S := Int32) (fun (z4 : Int32) => σ) (fun (z4 : Int32) => [(0, .ref (adr w a)), (1, .int i1), (2, .int i2), (3, .int z4)]) (fun (z4 : Int32) => []) 44 ?_ (fun h44_4 => ?_)
    · intro i4
      show JO w mu_X9_greatestDegree vI σ [(0, .ref (adr w a)), (1, .int i1), (2, .int i2), (3, .int i4)] [] 44 (j_X9_greatestDegree_44 σ i1 i2 i4) _
      unfold j_X9_greatestDegree_44
      refine jo_iload_n (pc := 44) 1 rfl dX9_greatestDegree_44 rfl ?_
      refine jo_iload_n (pc := 45) 3 rfl dX9_greatestDegree_45 rfl ?_
      refine jo_cS_I_p (pc := 46) (μ' := mu_J9_max_7cf53) (fx := f_J9_max_7cf53 σ i1 i4) (As := [.int i1, .int i4]) (c_J9_max_7cf53 hw) (ok_J9_max_7cf53) (ltb rfl) (all2 gw_783 gw_752) rfl rfl (Nat.le_of_ble_eq_true rfl) dX9_greatestDegree_46 (fun v5 => ?_)
      refine jo_istore_n (pc := 49) (lv' := [(1, .int v5), (0, .ref (adr w a)), (2, .int i2), (3, .int i4)]) dX9_greatestDegree_49 rfl (ltb rfl) rfl ?_
      refine jo_iinc (pc := 50) (lv' := [(2, .int (i2 + 1)), (1, .int v5), (0, .ref (adr w a)), (3, .int i4)]) 2 rfl dX9_greatestDegree_50 (congrArg (fun z => i2 + z) (ic_i_1)) (ltb rfl) rfl ?_
      refine jo_goto (pc := 53) dX9_greatestDegree_53 (tgt := 4) rfl ?_
      refine jo_lv (lv' := [(0, .ref (adr w a)), (1, .int v5), (2, .int (i2 + 1))]) [2, 1, 0] rfl ?_
      exact jo_leaf (by rfl) (hF4_2 (v5, i2 + 1))
    · refine jo_lv (lv' := [(0, .ref (adr w a)), (1, .int i1), (2, .int i2), (3, .int 0), (4, .int 0)]) [2, 3, 4, 1, 0] rfl ?_
      refine jo_loop (X := Int32) (fun (z7 : (Int32 × Int32)) => σ) (fun (z7 : (Int32 × Int32)) => [(0, .ref (adr w a)), (1, .int i1), (2, .int i2), (3, .int z7.1), (4, .int z7.2)]) (body := (fun (z7 : (Int32 × Int32)) => l_X9_greatestDegree_17 σ a i2 z7.1 z7.2)) (fun F17_7 hF17_7 s => ?_) (0, 0)
      obtain ⟨i6, i7⟩ := s
      show JO w mu_X9_greatestDegree vI σ [(0, .ref (adr w a)), (1, .int i1), (2, .int i2), (3, .int i6), (4, .int i7)] [] 17 (l_X9_greatestDegree_17 σ a i2 i6 i7) _
      unfold l_X9_greatestDegree_17
      refine jo_iload (pc := 17) 4 rfl dX9_greatestDegree_17 ?_
      refine jo_bipush (pc := 19) dX9_greatestDegree_19 (ic_b_12) ?_
      refine jo_icmp_ge (pc := 21) dX9_greatestDegree_21 (tgt := 44) rfl ?_ ?_
      · refine jo_lv (lv' := [(0, .ref (adr w a)), (1, .int i1), (2, .int i2), (3, .int i6)]) [0, 1, 2, 3] rfl ?_
        exact jo_leaf (by rfl) (h44_4 i6)
      · refine jo_iload_n (pc := 24) 3 rfl dX9_greatestDegree_24 rfl ?_
        refine jo_aload_n (pc := 25) 0 rfl dX9_greatestDegree_25 rfl ?_
        refine jo_getr (pc := 26) ok_9_1 (ha) gw_283 dX9_greatestDegree_26 ?_
        refine jo_iload_n (pc := 29) 2 rfl dX9_greatestDegree_29 rfl ?_
        refine jo_iald (pc := 30) (wf_9_1 hw (ha)) dX9_greatestDegree_30 (fun v8 => ?_)
        refine jo_iload (pc := 31) 4 rfl dX9_greatestDegree_31 ?_
        refine jo_cSN_I_p (pc := 33) (μ' := mu_X10_degree) (fx := f_X10_degree σ v8 i7) (As := [.int v8, .int i7]) (c_X10_degree hw) (ok_X10_degree) (ltb rfl) (host := "HallRegisters") (by decide +kernel) gw_629 rfl rfl (Nat.le_of_ble_eq_true rfl) dX9_greatestDegree_33 (fun v9 => ?_)
        refine jo_iadd (pc := 36) dX9_greatestDegree_36 ?_
        refine jo_bd ?_
        refine jo_istore_n (pc := 37) (lv' := [(3, .int (i6 + v9)), (0, .ref (adr w a)), (1, .int i1), (2, .int i2), (4, .int i7)]) dX9_greatestDegree_37 rfl (ltb rfl) rfl ?_
        generalize (i6 + v9) = v10
        refine jo_iinc (pc := 38) (lv' := [(4, .int (i7 + 1)), (3, .int v10), (0, .ref (adr w a)), (1, .int i1), (2, .int i2)]) 4 rfl dX9_greatestDegree_38 (congrArg (fun z => i7 + z) (ic_i_1)) (ltb rfl) rfl ?_
        refine jo_goto (pc := 41) dX9_greatestDegree_41 (tgt := 17) rfl ?_
        refine jo_lv (lv' := [(0, .ref (adr w a)), (1, .int i1), (2, .int i2), (3, .int v10), (4, .int (i7 + 1))]) [2, 3, 4, 1, 0] rfl ?_
        exact jo_leaf (by rfl) (hF17_7 (v10, i7 + 1))
theorem c_X9_greatestDegree {w : Wd} (hw : WOK w) {σ : Mem} {a : Nat} (ha : isk w a 9) : ∀ r, f_X9_greatestDegree σ a = some r → MC w mu_X9_greatestDegree (vI r) [.ref (adr w a)] σ σ := mc_ofP ok_X9_greatestDegree rfl (Nat.le_of_ble_eq_true rfl) (t_X9_greatestDegree hw ha)
abbrev mu_X9_greatestWeight : MD := (yX9_greatestWeight, cX9_greatestWeight, 6, some .int, 1)
theorem ok_X9_greatestWeight : MOK mu_X9_greatestWeight 1 := ⟨gw_787, gw_163, (by decide +kernel : plainFor yX9_greatestWeight = true), ⟨(by decide +kernel : yX9_greatestWeight.cls ≠ "java/lang/invoke/MethodHandle"), (by decide +kernel : yX9_greatestWeight.cls ≠ "java/lang/invoke/VarHandle"), (by decide +kernel : (parseMethodDescriptor yX9_greatestWeight.desc).map (fun d => d.parameters.length) = some 1)⟩, Nat.le_of_ble_eq_true rfl⟩
noncomputable def j_X9_greatestWeight_58 (σ : Mem) (i1 : Int32) (i2 : Int32) (i4 : Int32) : Option ((Int32 × Int32) ⊕ Int32) :=
  (f_J9_max_7cf53 σ i1 i4).bind (fun (v5 : Int32) => some (Sum.inl (v5, i2 + 1)))
noncomputable def l_X9_greatestWeight_18 (σ : Mem) (a : Nat) (x0 : Nat) (i2 : Int32) (i6 : Int32) (i7 : Int32) : Option ((Int32 × Int32) ⊕ Int32) :=
  if 12 ≤ i7 then (some (Sum.inr i6)) else (gI σ (rf a 1) i2 (fun (v8 : Int32) => (f_X10_degree σ v8 i7).bind (fun (v9 : Int32) => nzI 6 (gI σ (rf x0 1) (i7 - i7 / 6 * 6) (fun (v10 : Int32) => bd (i6 + (v9 * v10)) (fun (v11 : Int32) => some (Sum.inl (v11, i7 + 1))))))))
noncomputable def l_X9_greatestWeight_4 (σ : Mem) (a : Nat) (x0 : Nat) (i1 : Int32) (i2 : Int32) : Option ((Int32 × Int32) ⊕ Int32) :=
  gF σ a 0 (fun (v3 : Int32) => if v3 ≤ i2 then (some (Sum.inr i1)) else ((loopO (fun (z7 : (Int32 × Int32)) => l_X9_greatestWeight_18 σ a x0 i2 z7.1 z7.2) (0, 0) : Option Int32).bind (fun (z4 : Int32) => j_X9_greatestWeight_58 σ i1 i2 z4)))
noncomputable def f_X9_greatestWeight (σ : Mem) (a : Nat) (x0 : Nat) : Option Int32 :=
  loopO (fun (z2 : (Int32 × Int32)) => l_X9_greatestWeight_4 σ a x0 z2.1 z2.2) (0, 0)
theorem t_X9_greatestWeight {w : Wd} (hw : WOK w) {σ : Mem} {a : Nat} {x0 : Nat} (ha : isk w a 9) (hx0 : isk w x0 6) : JO w mu_X9_greatestWeight vI σ [(0, .ref (adr w a)), (1, .ref (adr w x0))] [] 0 (f_X9_greatestWeight σ a x0) (fun z => some (z, σ)) := by
  unfold f_X9_greatestWeight
  refine jo_iconst (pc := 0) dX9_greatestWeight_0 (ic_i_0) ?_
  refine jo_istore_n (pc := 1) (lv' := [(2, .int 0), (0, .ref (adr w a)), (1, .ref (adr w x0))]) dX9_greatestWeight_1 rfl (ltb rfl) rfl ?_
  refine jo_iconst (pc := 2) dX9_greatestWeight_2 (ic_i_0) ?_
  refine jo_istore_n (pc := 3) (lv' := [(3, .int 0), (2, .int 0), (0, .ref (adr w a)), (1, .ref (adr w x0))]) dX9_greatestWeight_3 rfl (ltb rfl) rfl ?_
  refine jo_lv (lv' := [(0, .ref (adr w a)), (1, .ref (adr w x0)), (2, .int 0), (3, .int 0)]) [2, 3, 1, 0] rfl ?_
  refine jo_loop (X := Int32) (fun (z2 : (Int32 × Int32)) => σ) (fun (z2 : (Int32 × Int32)) => [(0, .ref (adr w a)), (1, .ref (adr w x0)), (2, .int z2.1), (3, .int z2.2)]) (body := (fun (z2 : (Int32 × Int32)) => l_X9_greatestWeight_4 σ a x0 z2.1 z2.2)) (fun F4_2 hF4_2 s => ?_) (0, 0)
  obtain ⟨i1, i2⟩ := s
  show JO w mu_X9_greatestWeight vI σ [(0, .ref (adr w a)), (1, .ref (adr w x0)), (2, .int i1), (3, .int i2)] [] 4 (l_X9_greatestWeight_4 σ a x0 i1 i2) _
  unfold l_X9_greatestWeight_4
  refine jo_iload_n (pc := 4) 3 rfl dX9_greatestWeight_4 rfl ?_
  refine jo_aload_n (pc := 5) 0 rfl dX9_greatestWeight_5 rfl ?_
  refine jo_getf (pc := 6) ok_9_0 (ha) gw_279 dX9_greatestWeight_6 (fun v3 => ?_)
  refine jo_icmp_ge (pc := 9) dX9_greatestWeight_9 (tgt := 71) rfl ?_ ?_
  · refine jo_iload_n (pc := 71) 2 rfl dX9_greatestWeight_71 rfl ?_
    exact jo_ireturn (pc := 72) rfl rfl dX9_greatestWeight_72
  · refine jo_iconst (pc := 12) dX9_greatestWeight_12 (ic_i_0) ?_
    refine jo_istore (pc := 13) (lv' := [(4, .int 0), (0, .ref (adr w a)), (1, .ref (adr w x0)), (2, .int i1), (3, .int i2)]) dX9_greatestWeight_13 (ltb rfl) rfl ?_
    refine jo_iconst (pc := 15) dX9_greatestWeight_15 (ic_i_0) ?_
    refine jo_istore (pc := 16) (lv' := [(5, .int 0), (4, .int 0), (0, .ref (adr w a)), (1, .ref (adr w x0)), (2, .int i1), (3, .int i2)]) dX9_greatestWeight_16 (ltb rfl) rfl ?_
    refine jo_join1 (S := Int32) (fun (z4 : Int32) => σ) (fun (z4 : Int32) => [(0, .ref (adr w a)), (1, .ref (adr w x0)), (2, .int i1), (3, .int i2), (4, .int z4)]) (fun (z4 : Int32) => []) 58 ?_ (fun h58_4 => ?_)
    · intro i4
      show JO w mu_X9_greatestWeight vI σ [(0, .ref (adr w a)), (1, .ref (adr w x0)), (2, .int i1), (3, .int i2), (4, .int i4)] [] 58 (j_X9_greatestWeight_58 σ i1 i2 i4) _
      unfold j_X9_greatestWeight_58
      refine jo_iload_n (pc := 58) 2 rfl dX9_greatestWeight_58 rfl ?_
      refine jo_iload (pc := 59) 4 rfl dX9_greatestWeight_59 ?_
      refine jo_cS_I_p (pc := 61) (μ' := mu_J9_max_7cf53) (fx := f_J9_max_7cf53 σ i1 i4) (As := [.int i1, .int i4]) (c_J9_max_7cf53 hw) (ok_J9_max_7cf53) (ltb rfl) (all2 gw_783 gw_752) rfl rfl (Nat.le_of_ble_eq_true rfl) dX9_greatestWeight_61 (fun v5 => ?_)
      refine jo_istore_n (pc := 64) (lv' := [(2, .int v5), (0, .ref (adr w a)), (1, .ref (adr w x0)), (3, .int i2), (4, .int i4)]) dX9_greatestWeight_64 rfl (ltb rfl) rfl ?_
      refine jo_iinc (pc := 65) (lv' := [(3, .int (i2 + 1)), (2, .int v5), (0, .ref (adr w a)), (1, .ref (adr w x0)), (4, .int i4)]) 3 rfl dX9_greatestWeight_65 (congrArg (fun z => i2 + z) (ic_i_1)) (ltb rfl) rfl ?_
      refine jo_goto (pc := 68) dX9_greatestWeight_68 (tgt := 4) rfl ?_
      refine jo_lv (lv' := [(0, .ref (adr w a)), (1, .ref (adr w x0)), (2, .int v5), (3, .int (i2 + 1))]) [2, 3, 1, 0] rfl ?_
      exact jo_leaf (by rfl) (hF4_2 (v5, i2 + 1))
    · refine jo_lv (lv' := [(0, .ref (adr w a)), (1, .ref (adr w x0)), (2, .int i1), (3, .int i2), (4, .int 0), (5, .int 0)]) [2, 3, 4, 5, 1, 0] rfl ?_
      refine jo_loop (X := Int32) (fun (z7 : (Int32 × Int32)) => σ) (fun (z7 : (Int32 × Int32)) => [(0, .ref (adr w a)), (1, .ref (adr w x0)), (2, .int i1), (3, .int i2), (4, .int z7.1), (5, .int z7.2)]) (body := (fun (z7 : (Int32 × Int32)) => l_X9_greatestWeight_18 σ a x0 i2 z7.1 z7.2)) (fun F18_7 hF18_7 s => ?_) (0, 0)
      obtain ⟨i6, i7⟩ := s
      show JO w mu_X9_greatestWeight vI σ [(0, .ref (adr w a)), (1, .ref (adr w x0)), (2, .int i1), (3, .int i2), (4, .int i6), (5, .int i7)] [] 18 (l_X9_greatestWeight_18 σ a x0 i2 i6 i7) _
      unfold l_X9_greatestWeight_18
      refine jo_iload (pc := 18) 5 rfl dX9_greatestWeight_18 ?_
      refine jo_bipush (pc := 20) dX9_greatestWeight_20 (ic_b_12) ?_
      refine jo_icmp_ge (pc := 22) dX9_greatestWeight_22 (tgt := 58) rfl ?_ ?_
      · refine jo_lv (lv' := [(0, .ref (adr w a)), (1, .ref (adr w x0)), (2, .int i1), (3, .int i2), (4, .int i6)]) [0, 1, 2, 3, 4] rfl ?_
        exact jo_leaf (by rfl) (h58_4 i6)
      · refine jo_iload (pc := 25) 4 rfl dX9_greatestWeight_25 ?_
        refine jo_aload_n (pc := 27) 0 rfl dX9_greatestWeight_27 rfl ?_
        refine jo_getr (pc := 28) ok_9_1 (ha) gw_283 dX9_greatestWeight_28 ?_
        refine jo_iload_n (pc := 31) 3 rfl dX9_greatestWeight_31 rfl ?_
        refine jo_iald (pc := 32) (wf_9_1 hw (ha)) dX9_greatestWeight_32 (fun v8 => ?_)
        refine jo_iload (pc := 33) 5 rfl dX9_greatestWeight_33 ?_
        refine jo_cSN_I_p (pc := 35) (μ' := mu_X10_degree) (fx := f_X10_degree σ v8 i7) (As := [.int v8, .int i7]) (c_X10_degree hw) (ok_X10_degree) (ltb rfl) (host := "HallRegisters") (by decide +kernel) gw_629 rfl rfl (Nat.le_of_ble_eq_true rfl) dX9_greatestWeight_35 (fun v9 => ?_)
        refine jo_aload_n (pc := 38) 1 rfl dX9_greatestWeight_38 rfl ?_
        refine jo_getr (pc := 39) ok_6_1 (hx0) gw_204 dX9_greatestWeight_39 ?_
        refine jo_iload (pc := 42) 5 rfl dX9_greatestWeight_42 ?_
        refine jo_bipush (pc := 44) dX9_greatestWeight_44 (ic_b_6) ?_
        refine jo_irem (pc := 46) dX9_greatestWeight_46 ?_
        refine jo_iald (pc := 47) (wf_6_1 hw (hx0)) dX9_greatestWeight_47 (fun v10 => ?_)
        refine jo_imul (pc := 48) dX9_greatestWeight_48 ?_
        refine jo_iadd (pc := 49) dX9_greatestWeight_49 ?_
        refine jo_bd ?_
        refine jo_istore (pc := 50) (lv' := [(4, .int (i6 + (v9 * v10))), (0, .ref (adr w a)), (1, .ref (adr w x0)), (2, .int i1), (3, .int i2), (5, .int i7)]) dX9_greatestWeight_50 (ltb rfl) rfl ?_
        generalize (i6 + (v9 * v10)) = v11
        refine jo_iinc (pc := 52) (lv' := [(5, .int (i7 + 1)), (4, .int v11), (0, .ref (adr w a)), (1, .ref (adr w x0)), (2, .int i1), (3, .int i2)]) 5 rfl dX9_greatestWeight_52 (congrArg (fun z => i7 + z) (ic_i_1)) (ltb rfl) rfl ?_
        refine jo_goto (pc := 55) dX9_greatestWeight_55 (tgt := 18) rfl ?_
        refine jo_lv (lv' := [(0, .ref (adr w a)), (1, .ref (adr w x0)), (2, .int i1), (3, .int i2), (4, .int v11), (5, .int (i7 + 1))]) [2, 3, 4, 5, 1, 0] rfl ?_
        exact jo_leaf (by rfl) (hF18_7 (v11, i7 + 1))
theorem c_X9_greatestWeight {w : Wd} (hw : WOK w) {σ : Mem} {a : Nat} {x0 : Nat} (ha : isk w a 9) (hx0 : isk w x0 6) : ∀ r, f_X9_greatestWeight σ a x0 = some r → MC w mu_X9_greatestWeight (vI r) [.ref (adr w a), .ref (adr w x0)] σ σ := mc_ofP ok_X9_greatestWeight rfl (Nat.le_of_ble_eq_true rfl) (t_X9_greatestWeight hw ha hx0)
abbrev mu_X9_hasBoth : MD := (yX9_hasBoth, cX9_hasBoth, 2, some .boolean, 1)
theorem ok_X9_hasBoth : MOK mu_X9_hasBoth 1 := ⟨gw_794, gw_163, (by decide +kernel : plainFor yX9_hasBoth = true), ⟨(by decide +kernel : yX9_hasBoth.cls ≠ "java/lang/invoke/MethodHandle"), (by decide +kernel : yX9_hasBoth.cls ≠ "java/lang/invoke/VarHandle"), (by decide +kernel : (parseMethodDescriptor yX9_hasBoth.desc).map (fun d => d.parameters.length) = some 1)⟩, Nat.le_of_ble_eq_true rfl⟩
noncomputable def j_X9_hasBoth_29 (i1 : Int32) : Option (Int32 ⊕ Bool) :=
  some (Sum.inl (i1 + 1))
noncomputable def l_X9_hasBoth_2 (σ : Mem) (x0 : Int32) (i1 : Int32) : Option (Int32 ⊕ Bool) :=
  if 6 ≤ i1 then (some (Sum.inr false)) else ((f_X10_degree σ x0 i1).bind (fun (v2 : Int32) => (if v2 ≤ 0 then (some (Sum.inl ())) else ((f_X10_degree σ x0 (6 + i1)).bind (fun (v3 : Int32) => if v3 ≤ 0 then (some (Sum.inl ())) else (some (Sum.inr (Sum.inr true))))) : Option (Unit ⊕ (Int32 ⊕ Bool))).bind (Sum.elim (fun (z2 : Unit) => j_X9_hasBoth_29 i1) some)))
noncomputable def f_X9_hasBoth (σ : Mem) (x0 : Int32) : Option Bool :=
  loopO (fun (z1 : Int32) => l_X9_hasBoth_2 σ x0 z1) 0
theorem t_X9_hasBoth {w : Wd} (hw : WOK w) {σ : Mem} {x0 : Int32} : JO w mu_X9_hasBoth vB σ [(0, .int x0)] [] 0 (f_X9_hasBoth σ x0) (fun z => some (z, σ)) := by
  unfold f_X9_hasBoth
  refine jo_iconst (pc := 0) dX9_hasBoth_0 (ic_i_0) ?_
  refine jo_istore_n (pc := 1) (lv' := [(1, .int 0), (0, .int x0)]) dX9_hasBoth_1 rfl (ltb rfl) rfl ?_
  refine jo_lv (lv' := [(0, .int x0), (1, .int 0)]) [1, 0] rfl ?_
  refine jo_loop (X := Bool) (fun (z1 : Int32) => σ) (fun (z1 : Int32) => [(0, .int x0), (1, .int z1)]) (body := (fun (z1 : Int32) => l_X9_hasBoth_2 σ x0 z1)) (fun F2_1 hF2_1 s => ?_) 0
  revert s; intro i1
  show JO w mu_X9_hasBoth vB σ [(0, .int x0), (1, .int i1)] [] 2 (l_X9_hasBoth_2 σ x0 i1) _
  unfold l_X9_hasBoth_2
  refine jo_iload_n (pc := 2) 1 rfl dX9_hasBoth_2 rfl ?_
  refine jo_bipush (pc := 3) dX9_hasBoth_3 (ic_b_6) ?_
  refine jo_icmp_ge (pc := 5) dX9_hasBoth_5 (tgt := 35) rfl ?_ ?_
  · refine jo_iconst (pc := 35) dX9_hasBoth_35 (ic_i_0) ?_
    exact jo_breturn (pc := 36) (b := false) rfl rfl dX9_hasBoth_36
  · refine jo_iload_n (pc := 8) 0 rfl dX9_hasBoth_8 rfl ?_
    refine jo_iload_n (pc := 9) 1 rfl dX9_hasBoth_9 rfl ?_
    refine jo_cSN_I_p (pc := 10) (μ' := mu_X10_degree) (fx := f_X10_degree σ x0 i1) (As := [.int x0, .int i1]) (c_X10_degree hw) (ok_X10_degree) (ltb rfl) (host := "HallRegisters") (by decide +kernel) gw_629 rfl rfl (Nat.le_of_ble_eq_true rfl) dX9_hasBoth_10 (fun v2 => ?_)
    refine jo_joinS (S := Unit) (fun (z2 : Unit) => σ) (fun (z2 : Unit) => [(0, .int x0), (1, .int i1)]) (fun (z2 : Unit) => []) 29 ?_ (fun h29_2 => ?_)
    · intro _
      show JO w mu_X9_hasBoth vB σ [(0, .int x0), (1, .int i1)] [] 29 (j_X9_hasBoth_29 i1) _
      unfold j_X9_hasBoth_29
      refine jo_iinc (pc := 29) (lv' := [(1, .int (i1 + 1)), (0, .int x0)]) 1 rfl dX9_hasBoth_29 (congrArg (fun z => i1 + z) (ic_i_1)) (ltb rfl) rfl ?_
      refine jo_goto (pc := 32) dX9_hasBoth_32 (tgt := 2) rfl ?_
      refine jo_lv (lv' := [(0, .int x0), (1, .int (i1 + 1))]) [1, 0] rfl ?_
      exact jo_leaf (by rfl) (hF2_1 (i1 + 1))
    · refine jo_if_le (pc := 13) dX9_hasBoth_13 (tgt := 29) rfl ?_ ?_
      · exact jo_leaf (by rfl) (h29_2 ())
      · refine jo_iload_n (pc := 16) 0 rfl dX9_hasBoth_16 rfl ?_
        refine jo_bipush (pc := 17) dX9_hasBoth_17 (ic_b_6) ?_
        refine jo_iload_n (pc := 19) 1 rfl dX9_hasBoth_19 rfl ?_
        refine jo_iadd (pc := 20) dX9_hasBoth_20 ?_
        refine jo_cSN_I_p (pc := 21) (μ' := mu_X10_degree) (fx := f_X10_degree σ x0 (6 + i1)) (As := [.int x0, .int (6 + i1)]) (c_X10_degree hw) (ok_X10_degree) (ltb rfl) (host := "HallRegisters") (by decide +kernel) gw_629 rfl rfl (Nat.le_of_ble_eq_true rfl) dX9_hasBoth_21 (fun v3 => ?_)
        refine jo_if_le (pc := 24) dX9_hasBoth_24 (tgt := 29) rfl ?_ ?_
        · exact jo_leaf (by rfl) (h29_2 ())
        · refine jo_iconst (pc := 27) dX9_hasBoth_27 (ic_i_1) ?_
          exact jo_breturn (pc := 28) (b := true) rfl rfl dX9_hasBoth_28
theorem c_X9_hasBoth {w : Wd} (hw : WOK w) {σ : Mem} {x0 : Int32} : ∀ r, f_X9_hasBoth σ x0 = some r → MC w mu_X9_hasBoth (vB r) [.int x0] σ σ := mc_ofP ok_X9_hasBoth rfl (Nat.le_of_ble_eq_true rfl) (t_X9_hasBoth hw)
abbrev mu_X9_termsInBothRows : MD := (yX9_termsInBothRows, cX9_termsInBothRows, 3, some .int, 2)
theorem ok_X9_termsInBothRows : MOK mu_X9_termsInBothRows 0 := ⟨gw_791, gw_163, (by decide +kernel : plainFor yX9_termsInBothRows = true), ⟨(by decide +kernel : yX9_termsInBothRows.cls ≠ "java/lang/invoke/MethodHandle"), (by decide +kernel : yX9_termsInBothRows.cls ≠ "java/lang/invoke/VarHandle"), (by decide +kernel : (parseMethodDescriptor yX9_termsInBothRows.desc).map (fun d => d.parameters.length) = some 0)⟩, Nat.le_of_ble_eq_true rfl⟩
noncomputable def j_X9_termsInBothRows_30 (i1 : Int32) (i2 : Int32) (b6 : Bool) : Option ((Int32 × Int32) ⊕ Int32) :=
  bd (i1 + (b2i b6)) (fun (v7 : Int32) => some (Sum.inl (v7, i2 + 1)))
noncomputable def l_X9_termsInBothRows_4 (σ : Mem) (a : Nat) (i1 : Int32) (i2 : Int32) : Option ((Int32 × Int32) ⊕ Int32) :=
  gF σ a 0 (fun (v3 : Int32) => if v3 ≤ i2 then (some (Sum.inr i1)) else (gI σ (rf a 1) i2 (fun (v4 : Int32) => (f_X9_hasBoth σ v4).bind (fun (b5 : Bool) => (if b5 then some true else some false : Option Bool).bind (fun (z6 : Bool) => j_X9_termsInBothRows_30 i1 i2 z6)))))
noncomputable def f_X9_termsInBothRows (σ : Mem) (a : Nat) : Option Int32 :=
  loopO (fun (z2 : (Int32 × Int32)) => l_X9_termsInBothRows_4 σ a z2.1 z2.2) (0, 0)
theorem t_X9_termsInBothRows {w : Wd} (hw : WOK w) {σ : Mem} {a : Nat} (ha : isk w a 9) : JO w mu_X9_termsInBothRows vI σ [(0, .ref (adr w a))] [] 0 (f_X9_termsInBothRows σ a) (fun z => some (z, σ)) := by
  unfold f_X9_termsInBothRows
  refine jo_iconst (pc := 0) dX9_termsInBothRows_0 (ic_i_0) ?_
  refine jo_istore_n (pc := 1) (lv' := [(1, .int 0), (0, .ref (adr w a))]) dX9_termsInBothRows_1 rfl (ltb rfl) rfl ?_
  refine jo_iconst (pc := 2) dX9_termsInBothRows_2 (ic_i_0) ?_
  refine jo_istore_n (pc := 3) (lv' := [(2, .int 0), (1, .int 0), (0, .ref (adr w a))]) dX9_termsInBothRows_3 rfl (ltb rfl) rfl ?_
  refine jo_lv (lv' := [(0, .ref (adr w a)), (1, .int 0), (2, .int 0)]) [2, 1, 0] rfl ?_
  refine jo_loop (X := Int32) (fun (z2 : (Int32 × Int32)) => σ) (fun (z2 : (Int32 × Int32)) => [(0, .ref (adr w a)), (1, .int z2.1), (2, .int z2.2)]) (body := (fun (z2 : (Int32 × Int32)) => l_X9_termsInBothRows_4 σ a z2.1 z2.2)) (fun F4_2 hF4_2 s => ?_) (0, 0)
  obtain ⟨i1, i2⟩ := s
  show JO w mu_X9_termsInBothRows vI σ [(0, .ref (adr w a)), (1, .int i1), (2, .int i2)] [] 4 (l_X9_termsInBothRows_4 σ a i1 i2) _
  unfold l_X9_termsInBothRows_4
  refine jo_iload_n (pc := 4) 2 rfl dX9_termsInBothRows_4 rfl ?_
  refine jo_aload_n (pc := 5) 0 rfl dX9_termsInBothRows_5 rfl ?_
  refine jo_getf (pc := 6) ok_9_0 (ha) gw_279 dX9_termsInBothRows_6 (fun v3 => ?_)
  refine jo_icmp_ge (pc := 9) dX9_termsInBothRows_9 (tgt := 38) rfl ?_ ?_
  · refine jo_iload_n (pc := 38) 1 rfl dX9_termsInBothRows_38 rfl ?_
    exact jo_ireturn (pc := 39) rfl rfl dX9_termsInBothRows_39
  · refine jo_iload_n (pc := 12) 1 rfl dX9_termsInBothRows_12 rfl ?_
    refine jo_aload_n (pc := 13) 0 rfl dX9_termsInBothRows_13 rfl ?_
    refine jo_getr (pc := 14) ok_9_1 (ha) gw_283 dX9_termsInBothRows_14 ?_
    refine jo_iload_n (pc := 17) 2 rfl dX9_termsInBothRows_17 rfl ?_
    refine jo_iald (pc := 18) (wf_9_1 hw (ha)) dX9_termsInBothRows_18 (fun v4 => ?_)
    refine jo_cS_Z_p (pc := 19) (μ' := mu_X9_hasBoth) (fx := f_X9_hasBoth σ v4) (As := [.int v4]) (c_X9_hasBoth hw) (ok_X9_hasBoth) (ltb rfl) (all2 gw_792 gw_793) rfl rfl (Nat.le_of_ble_eq_true rfl) dX9_termsInBothRows_19 (fun b5 => ?_)
    refine jo_join1 (S := Bool) (fun (z6 : Bool) => σ) (fun (z6 : Bool) => [(0, .ref (adr w a)), (2, .int i2)]) (fun (z6 : Bool) => [.int (b2i z6), .int i1]) 30 ?_ (fun h30_6 => ?_)
    · intro b6
      show JO w mu_X9_termsInBothRows vI σ [(0, .ref (adr w a)), (2, .int i2)] [.int (b2i b6), .int i1] 30 (j_X9_termsInBothRows_30 i1 i2 b6) _
      unfold j_X9_termsInBothRows_30
      refine jo_iadd (pc := 30) dX9_termsInBothRows_30 ?_
      refine jo_bd ?_
      refine jo_istore_n (pc := 31) (lv' := [(1, .int (i1 + (b2i b6))), (0, .ref (adr w a)), (2, .int i2)]) dX9_termsInBothRows_31 rfl (ltb rfl) rfl ?_
      generalize (i1 + (b2i b6)) = v7
      refine jo_iinc (pc := 32) (lv' := [(2, .int (i2 + 1)), (1, .int v7), (0, .ref (adr w a))]) 2 rfl dX9_termsInBothRows_32 (congrArg (fun z => i2 + z) (ic_i_1)) (ltb rfl) rfl ?_
      refine jo_goto (pc := 35) dX9_termsInBothRows_35 (tgt := 4) rfl ?_
      refine jo_lv (lv' := [(0, .ref (adr w a)), (1, .int v7), (2, .int (i2 + 1))]) [2, 1, 0] rfl ?_
      exact jo_leaf (by rfl) (hF4_2 (v7, i2 + 1))
    · refine jo_ifz_eq (pc := 22) dX9_termsInBothRows_22 (tgt := 29) rfl ?_ ?_
      · refine jo_iconst (pc := 29) dX9_termsInBothRows_29 (ic_i_0) ?_
        refine jo_lv (lv' := [(0, .ref (adr w a)), (2, .int i2)]) [0, 2] rfl ?_
        exact jo_leaf (by rfl) (h30_6 false)
      · refine jo_iconst (pc := 25) dX9_termsInBothRows_25 (ic_i_1) ?_
        refine jo_goto (pc := 26) dX9_termsInBothRows_26 (tgt := 30) rfl ?_
        refine jo_lv (lv' := [(0, .ref (adr w a)), (2, .int i2)]) [0, 2] rfl ?_
        exact jo_leaf (by rfl) (h30_6 true)
theorem c_X9_termsInBothRows {w : Wd} (hw : WOK w) {σ : Mem} {a : Nat} (ha : isk w a 9) : ∀ r, f_X9_termsInBothRows σ a = some r → MC w mu_X9_termsInBothRows (vI r) [.ref (adr w a)] σ σ := mc_ofP ok_X9_termsInBothRows rfl (Nat.le_of_ble_eq_true rfl) (t_X9_termsInBothRows hw ha)
