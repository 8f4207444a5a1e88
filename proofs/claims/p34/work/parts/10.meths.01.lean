section
abbrev mu_X7_conjugator : MD := (yX7_conjugator, cX7_conjugator, 7, some .boolean, 6)
theorem ok_X7_conjugator : MOK mu_X7_conjugator 4 := ⟨gw_904, gw_165, (by decide +kernel : plainFor yX7_conjugator = true), ⟨(by decide +kernel : yX7_conjugator.cls ≠ "java/lang/invoke/MethodHandle"), (by decide +kernel : yX7_conjugator.cls ≠ "java/lang/invoke/VarHandle"), (by decide +kernel : (parseMethodDescriptor yX7_conjugator.desc).map (fun d => d.parameters.length) = some 4)⟩, Nat.le_of_ble_eq_true rfl⟩
noncomputable def j_X7_conjugator_87 (x0 : Nat) (x3 : Int32) (σ2 : Mem) (i3 : Int32) (i4 : Int32) : Option (Bool × Mem) :=
  (f_X7_areClosed σ2 0 i4).bind (fun (b5 : Bool) => if b5 then bq (f_X7_findWithin σ2 x3 i3) (fun (b6 : Bool) (σ7 : Mem) => if b6 then (f_X0_copy σ7 103 x0).bind (fun (σ8 : Mem) => some (true, σ8)) else some (false, σ7)) else some (false, σ2))
noncomputable def j_X7_conjugator_74 (x0 : Nat) (x3 : Int32) (σ2 : Mem) (i3 : Int32) : Option (Bool × Mem) :=
  (if i3 = 0 then (some 6) else (some 1) : Option Int32).bind (fun (z4 : Int32) => j_X7_conjugator_87 x0 x3 σ2 i3 z4)
noncomputable def j_X7_conjugator_65 (i9 : Int32) (i10 : Int32) (b14 : Bool) : Option ((Int32 × Int32) ⊕ Int32) :=
  bd (i9 + (b2i b14)) (fun (v15 : Int32) => some (Sum.inl (v15, i10 + 1)))
noncomputable def l_X7_conjugator_17 (σ2 : Mem) (i9 : Int32) (i10 : Int32) : Option ((Int32 × Int32) ⊕ Int32) :=
  gF σ2 41 0 (fun (v11 : Int32) => if v11 ≤ i10 then (some (Sum.inr i9)) else (gI σ2 42 i10 (fun (v12 : Int32) => (f_X6_top σ2 41).bind (fun (v13 : Int32) => (if v13 ≤ v12 then (some false) else (some true) : Option Bool).bind (fun (z14 : Bool) => j_X7_conjugator_65 i9 i10 z14)))))
noncomputable def f_X7_conjugator (σ : Mem) (x0 : Nat) (x1 : Nat) (x2 : Nat) (x3 : Int32) : Option (Bool × Mem) :=
  (f_X7_findGaps σ x1 x2).bind (fun (σ1 : Mem) => (f_X7_putU σ1 0).bind (fun (σ2 : Mem) => (loopO (fun (z10 : (Int32 × Int32)) => l_X7_conjugator_17 σ2 z10.1 z10.2) (0, 0) : Option Int32).bind (fun (z3 : Int32) => j_X7_conjugator_74 x0 x3 σ2 z3)))
theorem t_X7_conjugator {w : Wd} (hw : WOK w) {σ : Mem} {x0 : Nat} {x1 : Nat} {x2 : Nat} {x3 : Int32} (hx0 : isk w x0 13) (hx1 : isk w x1 13) (hx2 : isk w x2 13) : JO w mu_X7_conjugator vB σ [(0, .ref (adr w 80)), (1, .ref (adr w x0)), (2, .ref (adr w x1)), (3, .ref (adr w x2)), (4, .int x3)] [] 0 (f_X7_conjugator σ x0 x1 x2 x3) some := by
  unfold f_X7_conjugator
  refine jo_aload_n (pc := 0) 0 rfl dX7_conjugator_0 rfl ?_
  refine jo_aload_n (pc := 1) 2 rfl dX7_conjugator_1 rfl ?_
  refine jo_aload_n (pc := 2) 3 rfl dX7_conjugator_2 rfl ?_
  refine jo_cV_V_i (pc := 3) (μ' := mu_X7_findGaps) (fx := f_X7_findGaps σ x1 x2) (As := [.ref (adr w x1), .ref (adr w x2)]) (c_X7_findGaps hw (hx1) (hx2)) (ok_X7_findGaps) (ltb rfl) (all3 gw_905 gw_907 gw_18) (ik_80 hw) (by decide) (q := (RX7, TX7, 11)) rfl rfl rfl rfl (Nat.le_of_ble_eq_true rfl) dX7_conjugator_3 (fun σ1 => ?_)
  refine jo_aload_n (pc := 6) 0 rfl dX7_conjugator_6 rfl ?_
  refine jo_lconst (pc := 7) dX7_conjugator_7 (ic_l_0) ?_
  refine jo_cV_V_i (pc := 8) (μ' := mu_X7_putU) (fx := f_X7_putU σ1 0) (As := [.long 0]) (c_X7_putU hw) (ok_X7_putU) (ltb rfl) (all3 gw_924 gw_926 gw_20) (ik_80 hw) (by decide) (q := (RX7, TX7, 11)) rfl rfl rfl rfl (Nat.le_of_ble_eq_true rfl) dX7_conjugator_8 (fun σ2 => ?_)
  refine jo_iconst (pc := 11) dX7_conjugator_11 (ic_i_0) ?_
  refine jo_istore (pc := 12) (lv' := [(5, .int 0), (0, .ref (adr w 80)), (1, .ref (adr w x0)), (2, .ref (adr w x1)), (3, .ref (adr w x2)), (4, .int x3)]) dX7_conjugator_12 (ltb rfl) rfl ?_
  refine jo_iconst (pc := 14) dX7_conjugator_14 (ic_i_0) ?_
  refine jo_istore (pc := 15) (lv' := [(6, .int 0), (5, .int 0), (0, .ref (adr w 80)), (1, .ref (adr w x0)), (2, .ref (adr w x1)), (3, .ref (adr w x2)), (4, .int x3)]) dX7_conjugator_15 (ltb rfl) rfl ?_
  refine jo_join1 (S := Int32) (fun (z3 : Int32) => σ2) (fun (z3 : Int32) => [(0, .ref (adr w 80)), (1, .ref (adr w x0)), (4, .int x3), (5, .int z3)]) (fun (z3 : Int32) => []) 74 ?_ (fun h74_3 => ?_)
  · intro i3
    show JO w mu_X7_conjugator vB σ2 [(0, .ref (adr w 80)), (1, .ref (adr w x0)), (4, .int x3), (5, .int i3)] [] 74 (j_X7_conjugator_74 x0 x3 σ2 i3) _
    unfold j_X7_conjugator_74
    refine jo_aload_n (pc := 74) 0 rfl dX7_conjugator_74 rfl ?_
    refine jo_iconst (pc := 75) dX7_conjugator_75 (ic_i_0) ?_
    refine jo_iload (pc := 76) 3 rfl dX7_conjugator_76 ?_
    refine jo_join1 (S := Int32) (fun (z4 : Int32) => σ2) (fun (z4 : Int32) => [(0, .ref (adr w 80)), (1, .ref (adr w x0)), (4, .int x3), (5, .int i3)]) (fun (z4 : Int32) => [.int z4, .int 0, .ref (adr w 80)]) 87 ?_ (fun h87_4 => ?_)
    · intro i4
      show JO w mu_X7_conjugator vB σ2 [(0, .ref (adr w 80)), (1, .ref (adr w x0)), (4, .int x3), (5, .int i3)] [.int i4, .int 0, .ref (adr w 80)] 87 (j_X7_conjugator_87 x0 x3 σ2 i3 i4) _
      unfold j_X7_conjugator_87
      refine jo_cV_Z_p (pc := 87) (μ' := mu_X7_areClosed) (fx := f_X7_areClosed σ2 0 i4) (As := [.int 0, .int i4]) (c_X7_areClosed hw) (ok_X7_areClosed) (ltb rfl) (all3 gw_933 gw_935 gw_22) (ik_80 hw) (by decide) (q := (RX7, TX7, 11)) rfl rfl rfl rfl (Nat.le_of_ble_eq_true rfl) dX7_conjugator_87 (fun b5 => ?_)
      refine jo_ifz_eq (pc := 90) dX7_conjugator_90 (tgt := 104) rfl ?_ ?_
      · refine jo_iconst (pc := 104) dX7_conjugator_104 (ic_i_0) ?_
        exact jo_breturn (pc := 105) (b := false) rfl rfl dX7_conjugator_105
      · refine jo_aload_n (pc := 93) 0 rfl dX7_conjugator_93 rfl ?_
        refine jo_iload (pc := 94) 2 rfl dX7_conjugator_94 ?_
        refine jo_iload (pc := 96) 3 rfl dX7_conjugator_96 ?_
        refine jo_cV_Z_i (pc := 98) (μ' := mu_X7_findWithin) (fx := f_X7_findWithin σ2 x3 i3) (As := [.int x3, .int i3]) (c_X7_findWithin hw) (ok_X7_findWithin) (ltb rfl) (all3 gw_938 gw_940 gw_23) (ik_80 hw) (by decide) (q := (RX7, TX7, 11)) rfl rfl rfl rfl (Nat.le_of_ble_eq_true rfl) dX7_conjugator_98 (fun b6 σ7 => ?_)
        refine jo_ifz_ne (pc := 101) dX7_conjugator_101 (tgt := 106) rfl ?_ ?_
        · refine jo_aload_n (pc := 106) 0 rfl dX7_conjugator_106 rfl ?_
          refine jo_getrE (pc := 107) ok_7_7 (ik_80 hw) rf_80_7 gw_398 dX7_conjugator_107 ?_
          refine jo_aload_n (pc := 110) 1 rfl dX7_conjugator_110 rfl ?_
          refine jo_cS_V_i (pc := 111) (μ' := mu_X0_copy) (fx := f_X0_copy σ7 103 x0) (As := [.ref (adr w 103), .ref (adr w x0)]) (c_X0_copy hw (ik_103 hw) (hx0)) (ok_X0_copy) (ltb rfl) (all2 gw_943 gw_704) rfl rfl (Nat.le_of_ble_eq_true rfl) dX7_conjugator_111 (fun σ8 => ?_)
          refine jo_iconst (pc := 114) dX7_conjugator_114 (ic_i_1) ?_
          exact jo_breturn (pc := 115) (b := true) rfl rfl dX7_conjugator_115
        · refine jo_iconst (pc := 104) dX7_conjugator_104 (ic_i_0) ?_
          exact jo_breturn (pc := 105) (b := false) rfl rfl dX7_conjugator_105
    · refine jo_if_ne (pc := 78) dX7_conjugator_78 (tgt := 86) rfl ?_ ?_
      · refine jo_iconst (pc := 86) dX7_conjugator_86 (ic_i_1) ?_
        exact jo_leaf (by rfl) (h87_4 1)
      · refine jo_bipush (pc := 81) dX7_conjugator_81 (ic_b_6) ?_
        refine jo_goto (pc := 83) dX7_conjugator_83 (tgt := 87) rfl ?_
        exact jo_leaf (by rfl) (h87_4 6)
  · refine jo_lv (lv' := [(0, .ref (adr w 80)), (1, .ref (adr w x0)), (4, .int x3), (5, .int 0), (6, .int 0)]) [2, 3, 6, 1, 0] rfl ?_
    refine jo_loop (X := Int32) (fun (z10 : (Int32 × Int32)) => σ2) (fun (z10 : (Int32 × Int32)) => [(0, .ref (adr w 80)), (1, .ref (adr w x0)), (4, .int x3), (5, .int z10.1), (6, .int z10.2)]) (body := (fun (z10 : (Int32 × Int32)) => l_X7_conjugator_17 σ2 z10.1 z10.2)) (fun F17_10 hF17_10 s => ?_) (0, 0)
    obtain ⟨i9, i10⟩ := s
    show JO w mu_X7_conjugator vB σ2 [(0, .ref (adr w 80)), (1, .ref (adr w x0)), (4, .int x3), (5, .int i9), (6, .int i10)] [] 17 (l_X7_conjugator_17 σ2 i9 i10) _
    unfold l_X7_conjugator_17
    refine jo_iload (pc := 17) 4 rfl dX7_conjugator_17 ?_
    refine jo_aload_n (pc := 19) 0 rfl dX7_conjugator_19 rfl ?_
    refine jo_getrE (pc := 20) ok_7_0 (ik_80 hw) rf_80_0 gw_391 dX7_conjugator_20 ?_
    refine jo_getrE (pc := 23) ok_4_0 (ik_40 hw) rf_40_0 gw_300 dX7_conjugator_23 ?_
    refine jo_getf (pc := 26) ok_6_0 (ik_41 hw) gw_195 dX7_conjugator_26 (fun v11 => ?_)
    refine jo_icmp_ge (pc := 29) dX7_conjugator_29 (tgt := 74) rfl ?_ ?_
    · refine jo_lv (lv' := [(0, .ref (adr w 80)), (1, .ref (adr w x0)), (4, .int x3), (5, .int i9)]) [0, 1, 2, 3] rfl ?_
      exact jo_leaf (by rfl) (h74_3 i9)
    · refine jo_iload (pc := 32) 3 rfl dX7_conjugator_32 ?_
      refine jo_aload_n (pc := 34) 0 rfl dX7_conjugator_34 rfl ?_
      refine jo_getrE (pc := 35) ok_7_0 (ik_80 hw) rf_80_0 gw_391 dX7_conjugator_35 ?_
      refine jo_getrE (pc := 38) ok_4_0 (ik_40 hw) rf_40_0 gw_300 dX7_conjugator_38 ?_
      refine jo_getrE (pc := 41) ok_6_1 (ik_41 hw) rf_41_1 gw_201 dX7_conjugator_41 ?_
      refine jo_iload (pc := 44) 4 rfl dX7_conjugator_44 ?_
      refine jo_iald (pc := 46) (ik_42 hw) dX7_conjugator_46 (fun v12 => ?_)
      refine jo_aload_n (pc := 47) 0 rfl dX7_conjugator_47 rfl ?_
      refine jo_getrE (pc := 48) ok_7_0 (ik_80 hw) rf_80_0 gw_391 dX7_conjugator_48 ?_
      refine jo_getrE (pc := 51) ok_4_0 (ik_40 hw) rf_40_0 gw_300 dX7_conjugator_51 ?_
      refine jo_cV_I_p (pc := 54) (μ' := mu_X6_top) (fx := f_X6_top σ2 41) (As := []) (c_X6_top hw (ik_41 hw)) (ok_X6_top) (ltb rfl) (all3 gw_932 gw_606 gw_607) (ik_41 hw) (by decide) (q := (RX6, TX6, 3)) rfl rfl rfl rfl (Nat.le_of_ble_eq_true rfl) dX7_conjugator_54 (fun v13 => ?_)
      refine jo_join1 (S := Bool) (fun (z14 : Bool) => σ2) (fun (z14 : Bool) => [(0, .ref (adr w 80)), (1, .ref (adr w x0)), (4, .int x3), (6, .int i10)]) (fun (z14 : Bool) => [.int (b2i z14), .int i9]) 65 ?_ (fun h65_14 => ?_)
      · intro b14
        show JO w mu_X7_conjugator vB σ2 [(0, .ref (adr w 80)), (1, .ref (adr w x0)), (4, .int x3), (6, .int i10)] [.int (b2i b14), .int i9] 65 (j_X7_conjugator_65 i9 i10 b14) _
        unfold j_X7_conjugator_65
        refine jo_iadd (pc := 65) dX7_conjugator_65 ?_
        refine jo_bd ?_
        refine jo_istore (pc := 66) (lv' := [(5, .int (i9 + (b2i b14))), (0, .ref (adr w 80)), (1, .ref (adr w x0)), (4, .int x3), (6, .int i10)]) dX7_conjugator_66 (ltb rfl) rfl ?_
        generalize (i9 + (b2i b14)) = v15
        refine jo_iinc (pc := 68) (lv' := [(6, .int (i10 + 1)), (5, .int v15), (0, .ref (adr w 80)), (1, .ref (adr w x0)), (4, .int x3)]) 4 rfl dX7_conjugator_68 (congrArg (fun z => i10 + z) (ic_i_1)) (ltb rfl) rfl ?_
        refine jo_goto (pc := 71) dX7_conjugator_71 (tgt := 17) rfl ?_
        refine jo_lv (lv' := [(0, .ref (adr w 80)), (1, .ref (adr w x0)), (4, .int x3), (5, .int v15), (6, .int (i10 + 1))]) [2, 3, 4, 1, 0] rfl ?_
        exact jo_leaf (by rfl) (hF17_10 (v15, i10 + 1))
      · refine jo_icmp_ge (pc := 57) dX7_conjugator_57 (tgt := 64) rfl ?_ ?_
        · refine jo_iconst (pc := 64) dX7_conjugator_64 (ic_i_0) ?_
          refine jo_lv (lv' := [(0, .ref (adr w 80)), (1, .ref (adr w x0)), (4, .int x3), (6, .int i10)]) [0, 1, 2, 4] rfl ?_
          exact jo_leaf (by rfl) (h65_14 false)
        · refine jo_iconst (pc := 60) dX7_conjugator_60 (ic_i_1) ?_
          refine jo_goto (pc := 61) dX7_conjugator_61 (tgt := 65) rfl ?_
          refine jo_lv (lv' := [(0, .ref (adr w 80)), (1, .ref (adr w x0)), (4, .int x3), (6, .int i10)]) [0, 1, 2, 4] rfl ?_
          exact jo_leaf (by rfl) (h65_14 true)
theorem c_X7_conjugator {w : Wd} (hw : WOK w) {σ : Mem} {x0 : Nat} {x1 : Nat} {x2 : Nat} {x3 : Int32} (hx0 : isk w x0 13) (hx1 : isk w x1 13) (hx2 : isk w x2 13) : ∀ r σ', f_X7_conjugator σ x0 x1 x2 x3 = some (r, σ') → MC w mu_X7_conjugator (vB r) [.ref (adr w 80), .ref (adr w x0), .ref (adr w x1), .ref (adr w x2), .int x3] σ σ' := mc_of ok_X7_conjugator rfl (Nat.le_of_ble_eq_true rfl) (t_X7_conjugator hw hx0 hx1 hx2)
abbrev mu_X7_copyGaps : MD := (yX7_copyGaps, cX7_copyGaps, 5, none, 1)
theorem ok_X7_copyGaps : MOK mu_X7_copyGaps 3 := ⟨gw_1201, gw_165, (by decide +kernel : plainFor yX7_copyGaps = true), ⟨(by decide +kernel : yX7_copyGaps.cls ≠ "java/lang/invoke/MethodHandle"), (by decide +kernel : yX7_copyGaps.cls ≠ "java/lang/invoke/VarHandle"), (by decide +kernel : (parseMethodDescriptor yX7_copyGaps.desc).map (fun d => d.parameters.length) = some 3)⟩, Nat.le_of_ble_eq_true rfl⟩
noncomputable def l_X7_copyGaps_8 (x0 : Int32) (x1 : Int32) (x2 : Nat) (σ2 : Mem) (i3 : Int32) : Option ((Mem × Int32) ⊕ Mem) :=
  if x1 ≤ i3 then (some (Sum.inr σ2)) else (if 6 ≤ (x0 + i3) then (some (Sum.inr σ2)) else (gR 99 (x0 + i3) (fun (p4 : Nat) => (f_X9_value σ2 p4 100).bind (fun (v5 : Int64) => pL σ2 x2 i3 v5 (fun (σ6 : Mem) => some (Sum.inl (σ6, i3 + 1)))))))
noncomputable def f_X7_copyGaps (σ : Mem) (x0 : Int32) (x1 : Int32) (x2 : Nat) : Option Mem :=
  (f_J7_fill_d0a16 σ x2 0).bind (fun (σ1 : Mem) => loopO (fun (z3 : (Mem × Int32)) => l_X7_copyGaps_8 x0 x1 x2 z3.1 z3.2) (σ1, 0))
theorem t_X7_copyGaps {w : Wd} (hw : WOK w) {σ : Mem} {x0 : Int32} {x1 : Int32} {x2 : Nat} (hx2 : isk w x2 13) : JO w mu_X7_copyGaps vV σ [(0, .ref (adr w 80)), (1, .int x0), (2, .int x1), (3, .ref (adr w x2))] [] 0 (f_X7_copyGaps σ x0 x1 x2) (fun z => some ((), z)) := by
  unfold f_X7_copyGaps
  refine jo_aload_n (pc := 0) 3 rfl dX7_copyGaps_0 rfl ?_
  refine jo_lconst (pc := 1) dX7_copyGaps_1 (ic_l_0) ?_
  refine jo_cS_V_i (pc := 2) (μ' := mu_J7_fill_d0a16) (fx := f_J7_fill_d0a16 σ x2 0) (As := [.ref (adr w x2), .long 0]) (c_J7_fill_d0a16 hw (hx2)) (ok_J7_fill_d0a16) (ltb rfl) (all2 gw_1202 gw_715) rfl rfl (Nat.le_of_ble_eq_true rfl) dX7_copyGaps_2 (fun σ1 => ?_)
  refine jo_iconst (pc := 5) dX7_copyGaps_5 (ic_i_0) ?_
  refine jo_istore (pc := 6) (lv' := [(4, .int 0), (0, .ref (adr w 80)), (1, .int x0), (2, .int x1), (3, .ref (adr w x2))]) dX7_copyGaps_6 (ltb rfl) rfl ?_
  refine jo_lv (lv' := [(0, .ref (adr w 80)), (1, .int x0), (2, .int x1), (3, .ref (adr w x2)), (4, .int 0)]) [1, 2, 3, 4, 0] rfl ?_
  refine jo_loop (X := Mem) (fun (z3 : (Mem × Int32)) => z3.1) (fun (z3 : (Mem × Int32)) => [(0, .ref (adr w 80)), (1, .int x0), (2, .int x1), (3, .ref (adr w x2)), (4, .int z3.2)]) (body := (fun (z3 : (Mem × Int32)) => l_X7_copyGaps_8 x0 x1 x2 z3.1 z3.2)) (fun F8_3 hF8_3 s => ?_) (σ1, 0)
  obtain ⟨σ2, i3⟩ := s
  show JO w mu_X7_copyGaps vV σ2 [(0, .ref (adr w 80)), (1, .int x0), (2, .int x1), (3, .ref (adr w x2)), (4, .int i3)] [] 8 (l_X7_copyGaps_8 x0 x1 x2 σ2 i3) _
  unfold l_X7_copyGaps_8
  refine jo_iload (pc := 8) 4 rfl dX7_copyGaps_8 ?_
  refine jo_iload_n (pc := 10) 2 rfl dX7_copyGaps_10 rfl ?_
  refine jo_icmp_ge (pc := 11) dX7_copyGaps_11 (tgt := 49) rfl ?_ ?_
  · exact jo_return (pc := 49) rfl rfl dX7_copyGaps_49
  · refine jo_iload_n (pc := 14) 1 rfl dX7_copyGaps_14 rfl ?_
    refine jo_iload (pc := 15) 4 rfl dX7_copyGaps_15 ?_
    refine jo_iadd (pc := 17) dX7_copyGaps_17 ?_
    refine jo_bipush (pc := 18) dX7_copyGaps_18 (ic_b_6) ?_
    refine jo_icmp_ge (pc := 20) dX7_copyGaps_20 (tgt := 49) rfl ?_ ?_
    · exact jo_return (pc := 49) rfl rfl dX7_copyGaps_49
    · refine jo_aload_n (pc := 23) 3 rfl dX7_copyGaps_23 rfl ?_
      refine jo_iload (pc := 24) 4 rfl dX7_copyGaps_24 ?_
      refine jo_aload_n (pc := 26) 0 rfl dX7_copyGaps_26 rfl ?_
      refine jo_getrE (pc := 27) ok_7_3 (ik_80 hw) rf_80_3 gw_394 dX7_copyGaps_27 ?_
      refine jo_iload_n (pc := 30) 1 rfl dX7_copyGaps_30 rfl ?_
      refine jo_iload (pc := 31) 4 rfl dX7_copyGaps_31 ?_
      refine jo_iadd (pc := 33) dX7_copyGaps_33 ?_
      refine jo_aaldG (pc := 34) (z := 9) hw (ik_99 hw) (by decide) (t := 3) rfl rfl (by decide) dX7_copyGaps_34 (fun p4 hp4 => ?_)
      refine jo_aload_n (pc := 35) 0 rfl dX7_copyGaps_35 rfl ?_
      refine jo_getrE (pc := 36) ok_7_4 (ik_80 hw) rf_80_4 gw_395 dX7_copyGaps_36 ?_
      refine jo_cV_J_p (pc := 39) (μ' := mu_X9_value) (fx := f_X9_value σ2 p4 100) (As := [.ref (adr w 100)]) (c_X9_value hw (hp4) (ik_100 hw)) (ok_X9_value) (ltb rfl) (all3 gw_937 gw_618 gw_619) (hp4) (by decide) (q := (RX9, TX9, 4)) rfl rfl rfl rfl (Nat.le_of_ble_eq_true rfl) dX7_copyGaps_39 (fun v5 => ?_)
      refine jo_last (pc := 42) (hx2) dX7_copyGaps_42 (fun σ6 => ?_)
      refine jo_iinc (pc := 43) (lv' := [(4, .int (i3 + 1)), (0, .ref (adr w 80)), (1, .int x0), (2, .int x1), (3, .ref (adr w x2))]) 4 rfl dX7_copyGaps_43 (congrArg (fun z => i3 + z) (ic_i_1)) (ltb rfl) rfl ?_
      refine jo_goto (pc := 46) dX7_copyGaps_46 (tgt := 8) rfl ?_
      refine jo_lv (lv' := [(0, .ref (adr w 80)), (1, .int x0), (2, .int x1), (3, .ref (adr w x2)), (4, .int (i3 + 1))]) [1, 2, 3, 4, 0] rfl ?_
      exact jo_leaf (by rfl) (hF8_3 (σ6, i3 + 1))
theorem c_X7_copyGaps {w : Wd} (hw : WOK w) {σ : Mem} {x0 : Int32} {x1 : Int32} {x2 : Nat} (hx2 : isk w x2 13) : ∀ σ', f_X7_copyGaps σ x0 x1 x2 = some σ' → MC w mu_X7_copyGaps none [.ref (adr w 80), .int x0, .int x1, .ref (adr w x2)] σ σ' := mc_ofV ok_X7_copyGaps rfl (Nat.le_of_ble_eq_true rfl) (t_X7_copyGaps hw hx2)
abbrev mu_X7_findTurns : MD := (yX7_findTurns, cX7_findTurns, 3, none, 4)
theorem ok_X7_findTurns : MOK mu_X7_findTurns 0 := ⟨gw_1196, gw_165, (by decide +kernel : plainFor yX7_findTurns = true), ⟨(by decide +kernel : yX7_findTurns.cls ≠ "java/lang/invoke/MethodHandle"), (by decide +kernel : yX7_findTurns.cls ≠ "java/lang/invoke/VarHandle"), (by decide +kernel : (parseMethodDescriptor yX7_findTurns.desc).map (fun d => d.parameters.length) = some 0)⟩, Nat.le_of_ble_eq_true rfl⟩
noncomputable def j_X7_findTurns_123 (i5 : Int32) (σ17 : Mem) : Option ((Mem × Int32) ⊕ Mem) :=
  (f_X3_insert σ17 81 101).bind (fun (σ18 : Mem) => some (Sum.inl (σ18, i5 + 1)))
noncomputable def j_X7_findTurns_100 (i5 : Int32) (σ15 : Mem) : Option ((Mem × Int32) ⊕ Mem) :=
  gF σ15 80 9 (fun (v16 : Int32) => (if 6 ≤ (v16 + i5) then (some σ15) else (gF σ15 80 9 (fun (v19 : Int32) => pL σ15 101 (v19 + i5) 1 (fun (σ20 : Mem) => some σ20))) : Option Mem).bind (fun (z17 : Mem) => j_X7_findTurns_123 i5 z17))
noncomputable def l_X7_findTurns_71 (σ21 : Mem) (i22 : Int32) : Option ((Mem × Int32) ⊕ Mem) :=
  gF σ21 80 9 (fun (v23 : Int32) => if v23 ≤ i22 then (some (Sum.inr σ21)) else (gL σ21 101 i22 (fun (v24 : Int64) => gL σ21 102 i22 (fun (v25 : Int64) => pL σ21 101 i22 (v24 - v25) (fun (σ26 : Mem) => some (Sum.inl (σ26, i22 + 1)))))))
noncomputable def l_X7_findTurns_18 (σ4 : Mem) (i5 : Int32) : Option ((Mem × Int32) ⊕ Mem) :=
  gF σ4 80 8 (fun (v6 : Int32) => if v6 ≤ i5 then (some (Sum.inr σ4)) else ((f_X7_putU σ4 0).bind (fun (σ7 : Mem) => gF σ7 80 8 (fun (v8 : Int32) => gF σ7 80 9 (fun (v9 : Int32) => (f_X7_copyGaps σ7 v8 v9 102).bind (fun (σ10 : Mem) => (f_X7_setU σ10 i5 1).bind (fun (σ11 : Mem) => gF σ11 80 8 (fun (v12 : Int32) => gF σ11 80 9 (fun (v13 : Int32) => (f_X7_copyGaps σ11 v12 v13 101).bind (fun (σ14 : Mem) => (loopO (fun (z22 : (Mem × Int32)) => l_X7_findTurns_71 z22.1 z22.2) (σ14, 0) : Option Mem).bind (fun (z15 : Mem) => j_X7_findTurns_100 i5 z15)))))))))))
noncomputable def f_X7_findTurns (σ : Mem) : Option Mem :=
  gF σ 80 9 (fun (v1 : Int32) => gF σ 80 8 (fun (v2 : Int32) => (f_X3_clear σ 81 (v1 + v2)).bind (fun (σ3 : Mem) => loopO (fun (z5 : (Mem × Int32)) => l_X7_findTurns_18 z5.1 z5.2) (σ3, 0))))
theorem t_X7_findTurns {w : Wd} (hw : WOK w) {σ : Mem} : JO w mu_X7_findTurns vV σ [(0, .ref (adr w 80))] [] 0 (f_X7_findTurns σ) (fun z => some ((), z)) := by
  unfold f_X7_findTurns
  refine jo_aload_n (pc := 0) 0 rfl dX7_findTurns_0 rfl ?_
  refine jo_getrE (pc := 1) ok_7_1 (ik_80 hw) rf_80_1 gw_392 dX7_findTurns_1 ?_
  refine jo_aload_n (pc := 4) 0 rfl dX7_findTurns_4 rfl ?_
  refine jo_getf (pc := 5) ok_7_9 (ik_80 hw) gw_400 dX7_findTurns_5 (fun v1 => ?_)
  refine jo_aload_n (pc := 8) 0 rfl dX7_findTurns_8 rfl ?_
  refine jo_getf (pc := 9) ok_7_8 (ik_80 hw) gw_399 dX7_findTurns_9 (fun v2 => ?_)
  refine jo_iadd (pc := 12) dX7_findTurns_12 ?_
  refine jo_cV_V_i (pc := 13) (μ' := mu_X3_clear) (fx := f_X3_clear σ 81 (v1 + v2)) (As := [.int (v1 + v2)]) (c_X3_clear hw (ik_81 hw)) (ok_X3_clear) (ltb rfl) (all3 gw_1197 gw_1126 gw_1127) (ik_81 hw) (by decide) (q := (RX3, TX3, 3)) rfl rfl rfl rfl (Nat.le_of_ble_eq_true rfl) dX7_findTurns_13 (fun σ3 => ?_)
  refine jo_iconst (pc := 16) dX7_findTurns_16 (ic_i_0) ?_
  refine jo_istore_n (pc := 17) (lv' := [(1, .int 0), (0, .ref (adr w 80))]) dX7_findTurns_17 rfl (ltb rfl) rfl ?_
  refine jo_lv (lv' := [(0, .ref (adr w 80)), (1, .int 0)]) [1, 0] rfl ?_
  refine jo_loop (X := Mem) (fun (z5 : (Mem × Int32)) => z5.1) (fun (z5 : (Mem × Int32)) => [(0, .ref (adr w 80)), (1, .int z5.2)]) (body := (fun (z5 : (Mem × Int32)) => l_X7_findTurns_18 z5.1 z5.2)) (fun F18_5 hF18_5 s => ?_) (σ3, 0)
  obtain ⟨σ4, i5⟩ := s
  show JO w mu_X7_findTurns vV σ4 [(0, .ref (adr w 80)), (1, .int i5)] [] 18 (l_X7_findTurns_18 σ4 i5) _
  unfold l_X7_findTurns_18
  refine jo_iload_n (pc := 18) 1 rfl dX7_findTurns_18 rfl ?_
  refine jo_aload_n (pc := 19) 0 rfl dX7_findTurns_19 rfl ?_
  refine jo_getf (pc := 20) ok_7_8 (ik_80 hw) gw_399 dX7_findTurns_20 (fun v6 => ?_)
  refine jo_icmp_ge (pc := 23) dX7_findTurns_23 (tgt := 140) rfl ?_ ?_
  · exact jo_return (pc := 140) rfl rfl dX7_findTurns_140
  · refine jo_aload_n (pc := 26) 0 rfl dX7_findTurns_26 rfl ?_
    refine jo_lconst (pc := 27) dX7_findTurns_27 (ic_l_0) ?_
    refine jo_cV_V_i (pc := 28) (μ' := mu_X7_putU) (fx := f_X7_putU σ4 0) (As := [.long 0]) (c_X7_putU hw) (ok_X7_putU) (ltb rfl) (all3 gw_924 gw_926 gw_20) (ik_80 hw) (by decide) (q := (RX7, TX7, 11)) rfl rfl rfl rfl (Nat.le_of_ble_eq_true rfl) dX7_findTurns_28 (fun σ7 => ?_)
    refine jo_aload_n (pc := 31) 0 rfl dX7_findTurns_31 rfl ?_
    refine jo_aload_n (pc := 32) 0 rfl dX7_findTurns_32 rfl ?_
    refine jo_getf (pc := 33) ok_7_8 (ik_80 hw) gw_399 dX7_findTurns_33 (fun v8 => ?_)
    refine jo_aload_n (pc := 36) 0 rfl dX7_findTurns_36 rfl ?_
    refine jo_getf (pc := 37) ok_7_9 (ik_80 hw) gw_400 dX7_findTurns_37 (fun v9 => ?_)
    refine jo_aload_n (pc := 40) 0 rfl dX7_findTurns_40 rfl ?_
    refine jo_getrE (pc := 41) ok_7_6 (ik_80 hw) rf_80_6 gw_397 dX7_findTurns_41 ?_
    refine jo_cV_V_i (pc := 44) (μ' := mu_X7_copyGaps) (fx := f_X7_copyGaps σ7 v8 v9 102) (As := [.int v8, .int v9, .ref (adr w 102)]) (c_X7_copyGaps hw (ik_102 hw)) (ok_X7_copyGaps) (ltb rfl) (all3 gw_1198 gw_1200 gw_55) (ik_80 hw) (by decide) (q := (RX7, TX7, 11)) rfl rfl rfl rfl (Nat.le_of_ble_eq_true rfl) dX7_findTurns_44 (fun σ10 => ?_)
    refine jo_aload_n (pc := 47) 0 rfl dX7_findTurns_47 rfl ?_
    refine jo_iload_n (pc := 48) 1 rfl dX7_findTurns_48 rfl ?_
    refine jo_lconst (pc := 49) dX7_findTurns_49 (ic_l_1) ?_
    refine jo_cV_V_i (pc := 50) (μ' := mu_X7_setU) (fx := f_X7_setU σ10 i5 1) (As := [.int i5, .long 1]) (c_X7_setU hw) (ok_X7_setU) (ltb rfl) (all3 gw_928 gw_930 gw_21) (ik_80 hw) (by decide) (q := (RX7, TX7, 11)) rfl rfl rfl rfl (Nat.le_of_ble_eq_true rfl) dX7_findTurns_50 (fun σ11 => ?_)
    refine jo_aload_n (pc := 53) 0 rfl dX7_findTurns_53 rfl ?_
    refine jo_aload_n (pc := 54) 0 rfl dX7_findTurns_54 rfl ?_
    refine jo_getf (pc := 55) ok_7_8 (ik_80 hw) gw_399 dX7_findTurns_55 (fun v12 => ?_)
    refine jo_aload_n (pc := 58) 0 rfl dX7_findTurns_58 rfl ?_
    refine jo_getf (pc := 59) ok_7_9 (ik_80 hw) gw_400 dX7_findTurns_59 (fun v13 => ?_)
    refine jo_aload_n (pc := 62) 0 rfl dX7_findTurns_62 rfl ?_
    refine jo_getrE (pc := 63) ok_7_5 (ik_80 hw) rf_80_5 gw_396 dX7_findTurns_63 ?_
    refine jo_cV_V_i (pc := 66) (μ' := mu_X7_copyGaps) (fx := f_X7_copyGaps σ11 v12 v13 101) (As := [.int v12, .int v13, .ref (adr w 101)]) (c_X7_copyGaps hw (ik_101 hw)) (ok_X7_copyGaps) (ltb rfl) (all3 gw_1198 gw_1200 gw_55) (ik_80 hw) (by decide) (q := (RX7, TX7, 11)) rfl rfl rfl rfl (Nat.le_of_ble_eq_true rfl) dX7_findTurns_66 (fun σ14 => ?_)
    refine jo_iconst (pc := 69) dX7_findTurns_69 (ic_i_0) ?_
    refine jo_istore_n (pc := 70) (lv' := [(2, .int 0), (0, .ref (adr w 80)), (1, .int i5)]) dX7_findTurns_70 rfl (ltb rfl) rfl ?_
    refine jo_join1 (S := Mem) (fun (z15 : Mem) => z15) (fun (z15 : Mem) => [(0, .ref (adr w 80)), (1, .int i5)]) (fun (z15 : Mem) => []) 100 ?_ (fun h100_15 => ?_)
    · intro σ15
      show JO w mu_X7_findTurns vV σ15 [(0, .ref (adr w 80)), (1, .int i5)] [] 100 (j_X7_findTurns_100 i5 σ15) _
      unfold j_X7_findTurns_100
      refine jo_aload_n (pc := 100) 0 rfl dX7_findTurns_100 rfl ?_
      refine jo_getf (pc := 101) ok_7_9 (ik_80 hw) gw_400 dX7_findTurns_101 (fun v16 => ?_)
      refine jo_iload_n (pc := 104) 1 rfl dX7_findTurns_104 rfl ?_
      refine jo_iadd (pc := 105) dX7_findTurns_105 ?_
      refine jo_bipush (pc := 106) dX7_findTurns_106 (ic_b_6) ?_
      refine jo_join1 (S := Mem) (fun (z17 : Mem) => z17) (fun (z17 : Mem) => [(0, .ref (adr w 80)), (1, .int i5)]) (fun (z17 : Mem) => []) 123 ?_ (fun h123_17 => ?_)
      · intro σ17
        show JO w mu_X7_findTurns vV σ17 [(0, .ref (adr w 80)), (1, .int i5)] [] 123 (j_X7_findTurns_123 i5 σ17) _
        unfold j_X7_findTurns_123
        refine jo_aload_n (pc := 123) 0 rfl dX7_findTurns_123 rfl ?_
        refine jo_getrE (pc := 124) ok_7_1 (ik_80 hw) rf_80_1 gw_392 dX7_findTurns_124 ?_
        refine jo_aload_n (pc := 127) 0 rfl dX7_findTurns_127 rfl ?_
        refine jo_getrE (pc := 128) ok_7_5 (ik_80 hw) rf_80_5 gw_396 dX7_findTurns_128 ?_
        refine jo_cV_V_i (pc := 131) (μ' := mu_X3_insert) (fx := f_X3_insert σ17 81 101) (As := [.ref (adr w 101)]) (c_X3_insert hw (ik_81 hw) (ik_101 hw)) (ok_X3_insert) (ltb rfl) (all3 gw_1203 gw_1137 gw_1138) (ik_81 hw) (by decide) (q := (RX3, TX3, 3)) rfl rfl rfl rfl (Nat.le_of_ble_eq_true rfl) dX7_findTurns_131 (fun σ18 => ?_)
        refine jo_iinc (pc := 134) (lv' := [(1, .int (i5 + 1)), (0, .ref (adr w 80))]) 1 rfl dX7_findTurns_134 (congrArg (fun z => i5 + z) (ic_i_1)) (ltb rfl) rfl ?_
        refine jo_goto (pc := 137) dX7_findTurns_137 (tgt := 18) rfl ?_
        refine jo_lv (lv' := [(0, .ref (adr w 80)), (1, .int (i5 + 1))]) [1, 0] rfl ?_
        exact jo_leaf (by rfl) (hF18_5 (σ18, i5 + 1))
      · refine jo_icmp_ge (pc := 108) dX7_findTurns_108 (tgt := 123) rfl ?_ ?_
        · exact jo_leaf (by rfl) (h123_17 σ15)
        · refine jo_aload_n (pc := 111) 0 rfl dX7_findTurns_111 rfl ?_
          refine jo_getrE (pc := 112) ok_7_5 (ik_80 hw) rf_80_5 gw_396 dX7_findTurns_112 ?_
          refine jo_aload_n (pc := 115) 0 rfl dX7_findTurns_115 rfl ?_
          refine jo_getf (pc := 116) ok_7_9 (ik_80 hw) gw_400 dX7_findTurns_116 (fun v19 => ?_)
          refine jo_iload_n (pc := 119) 1 rfl dX7_findTurns_119 rfl ?_
          refine jo_iadd (pc := 120) dX7_findTurns_120 ?_
          refine jo_lconst (pc := 121) dX7_findTurns_121 (ic_l_1) ?_
          refine jo_last (pc := 122) (ik_101 hw) dX7_findTurns_122 (fun σ20 => ?_)
          exact jo_leaf (by rfl) (h123_17 σ20)
    · refine jo_lv (lv' := [(0, .ref (adr w 80)), (1, .int i5), (2, .int 0)]) [1, 2, 0] rfl ?_
      refine jo_loop (X := Mem) (fun (z22 : (Mem × Int32)) => z22.1) (fun (z22 : (Mem × Int32)) => [(0, .ref (adr w 80)), (1, .int i5), (2, .int z22.2)]) (body := (fun (z22 : (Mem × Int32)) => l_X7_findTurns_71 z22.1 z22.2)) (fun F71_22 hF71_22 s => ?_) (σ14, 0)
      obtain ⟨σ21, i22⟩ := s
      show JO w mu_X7_findTurns vV σ21 [(0, .ref (adr w 80)), (1, .int i5), (2, .int i22)] [] 71 (l_X7_findTurns_71 σ21 i22) _
      unfold l_X7_findTurns_71
      refine jo_iload_n (pc := 71) 2 rfl dX7_findTurns_71 rfl ?_
      refine jo_aload_n (pc := 72) 0 rfl dX7_findTurns_72 rfl ?_
      refine jo_getf (pc := 73) ok_7_9 (ik_80 hw) gw_400 dX7_findTurns_73 (fun v23 => ?_)
      refine jo_icmp_ge (pc := 76) dX7_findTurns_76 (tgt := 100) rfl ?_ ?_
      · refine jo_lv (lv' := [(0, .ref (adr w 80)), (1, .int i5)]) [0, 1] rfl ?_
        exact jo_leaf (by rfl) (h100_15 σ21)
      · refine jo_aload_n (pc := 79) 0 rfl dX7_findTurns_79 rfl ?_
        refine jo_getrE (pc := 80) ok_7_5 (ik_80 hw) rf_80_5 gw_396 dX7_findTurns_80 ?_
        refine jo_iload_n (pc := 83) 2 rfl dX7_findTurns_83 rfl ?_
        refine jo_dup2 (pc := 84) dX7_findTurns_84 rfl rfl ?_
        refine jo_lald (pc := 85) (ik_101 hw) dX7_findTurns_85 (fun v24 => ?_)
        refine jo_aload_n (pc := 86) 0 rfl dX7_findTurns_86 rfl ?_
        refine jo_getrE (pc := 87) ok_7_6 (ik_80 hw) rf_80_6 gw_397 dX7_findTurns_87 ?_
        refine jo_iload_n (pc := 90) 2 rfl dX7_findTurns_90 rfl ?_
        refine jo_lald (pc := 91) (ik_102 hw) dX7_findTurns_91 (fun v25 => ?_)
        refine jo_lsub (pc := 92) dX7_findTurns_92 ?_
        refine jo_last (pc := 93) (ik_101 hw) dX7_findTurns_93 (fun σ26 => ?_)
        refine jo_iinc (pc := 94) (lv' := [(2, .int (i22 + 1)), (0, .ref (adr w 80)), (1, .int i5)]) 2 rfl dX7_findTurns_94 (congrArg (fun z => i22 + z) (ic_i_1)) (ltb rfl) rfl ?_
        refine jo_goto (pc := 97) dX7_findTurns_97 (tgt := 71) rfl ?_
        refine jo_lv (lv' := [(0, .ref (adr w 80)), (1, .int i5), (2, .int (i22 + 1))]) [1, 2, 0] rfl ?_
        exact jo_leaf (by rfl) (hF71_22 (σ26, i22 + 1))
theorem c_X7_findTurns {w : Wd} (hw : WOK w) {σ : Mem} : ∀ σ', f_X7_findTurns σ = some σ' → MC w mu_X7_findTurns none [.ref (adr w 80)] σ σ' := mc_ofV ok_X7_findTurns rfl (Nat.le_of_ble_eq_true rfl) (t_X7_findTurns hw)
abbrev mu_X7_turnWeightTwo : MD := (yX7_turnWeightTwo, cX7_turnWeightTwo, 2, some .boolean, 3)
theorem ok_X7_turnWeightTwo : MOK mu_X7_turnWeightTwo 0 := ⟨gw_1207, gw_165, (by decide +kernel : plainFor yX7_turnWeightTwo = true), ⟨(by decide +kernel : yX7_turnWeightTwo.cls ≠ "java/lang/invoke/MethodHandle"), (by decide +kernel : yX7_turnWeightTwo.cls ≠ "java/lang/invoke/VarHandle"), (by decide +kernel : (parseMethodDescriptor yX7_turnWeightTwo.desc).map (fun d => d.parameters.length) = some 0)⟩, Nat.le_of_ble_eq_true rfl⟩
noncomputable def l_X7_turnWeightTwo_64 (σ7 : Mem) (i8 : Int32) : Option ((Mem × Int32) ⊕ (Bool × Mem)) :=
  gF σ7 80 8 (fun (v9 : Int32) => if v9 ≤ i8 then (some (Sum.inr (true, σ7))) else (gF σ7 80 9 (fun (v10 : Int32) => if 6 ≤ (v10 + i8) then (some (Sum.inr (true, σ7))) else (gF σ7 80 9 (fun (v11 : Int32) => gL σ7 101 (v11 + i8) (fun (v12 : Int64) => (f_X7_setU σ7 i8 v12).bind (fun (σ13 : Mem) => some (Sum.inl (σ13, i8 + 1)))))))))
noncomputable def j_X7_turnWeightTwo_62 (σ6 : Mem) : Option (Bool × Mem) :=
  loopO (fun (z8 : (Mem × Int32)) => l_X7_turnWeightTwo_64 z8.1 z8.2) (σ6, 0)
noncomputable def l_X7_turnWeightTwo_35 (σ6 : Mem) (i14 : Int32) : Option (Int32 ⊕ (Unit ⊕ (Bool × Mem))) :=
  gF σ6 80 9 (fun (v15 : Int32) => if v15 ≤ i14 then (some (Sum.inr (Sum.inl ()))) else (gL σ6 101 i14 (fun (v16 : Int64) => if v16 = 0 then (some (Sum.inl (i14 + 1))) else (some (Sum.inr (Sum.inr (false, σ6)))))))
noncomputable def f_X7_turnWeightTwo (σ : Mem) : Option (Bool × Mem) :=
  (f_X7_putU σ 0).bind (fun (σ1 : Mem) => gF σ1 80 8 (fun (v2 : Int32) => gF σ1 80 9 (fun (v3 : Int32) => (f_X7_copyGaps σ1 v2 v3 101).bind (fun (σ4 : Mem) => bq (f_X3_reduce σ4 81 101) (fun (b5 : Bool) (σ6 : Mem) => (loopO (fun (z14 : Int32) => l_X7_turnWeightTwo_35 σ6 z14) 0 : Option (Unit ⊕ (Bool × Mem))).bind (Sum.elim (fun (z6 : Unit) => j_X7_turnWeightTwo_62 σ6) some))))))
theorem t_X7_turnWeightTwo {w : Wd} (hw : WOK w) {σ : Mem} : JO w mu_X7_turnWeightTwo vB σ [(0, .ref (adr w 80))] [] 0 (f_X7_turnWeightTwo σ) some := by
  unfold f_X7_turnWeightTwo
  refine jo_aload_n (pc := 0) 0 rfl dX7_turnWeightTwo_0 rfl ?_
  refine jo_lconst (pc := 1) dX7_turnWeightTwo_1 (ic_l_0) ?_
  refine jo_cV_V_i (pc := 2) (μ' := mu_X7_putU) (fx := f_X7_putU σ 0) (As := [.long 0]) (c_X7_putU hw) (ok_X7_putU) (ltb rfl) (all3 gw_924 gw_926 gw_20) (ik_80 hw) (by decide) (q := (RX7, TX7, 11)) rfl rfl rfl rfl (Nat.le_of_ble_eq_true rfl) dX7_turnWeightTwo_2 (fun σ1 => ?_)
  refine jo_aload_n (pc := 5) 0 rfl dX7_turnWeightTwo_5 rfl ?_
  refine jo_aload_n (pc := 6) 0 rfl dX7_turnWeightTwo_6 rfl ?_
  refine jo_getf (pc := 7) ok_7_8 (ik_80 hw) gw_399 dX7_turnWeightTwo_7 (fun v2 => ?_)
  refine jo_aload_n (pc := 10) 0 rfl dX7_turnWeightTwo_10 rfl ?_
  refine jo_getf (pc := 11) ok_7_9 (ik_80 hw) gw_400 dX7_turnWeightTwo_11 (fun v3 => ?_)
  refine jo_aload_n (pc := 14) 0 rfl dX7_turnWeightTwo_14 rfl ?_
  refine jo_getrE (pc := 15) ok_7_5 (ik_80 hw) rf_80_5 gw_396 dX7_turnWeightTwo_15 ?_
  refine jo_cV_V_i (pc := 18) (μ' := mu_X7_copyGaps) (fx := f_X7_copyGaps σ1 v2 v3 101) (As := [.int v2, .int v3, .ref (adr w 101)]) (c_X7_copyGaps hw (ik_101 hw)) (ok_X7_copyGaps) (ltb rfl) (all3 gw_1198 gw_1200 gw_55) (ik_80 hw) (by decide) (q := (RX7, TX7, 11)) rfl rfl rfl rfl (Nat.le_of_ble_eq_true rfl) dX7_turnWeightTwo_18 (fun σ4 => ?_)
  refine jo_aload_n (pc := 21) 0 rfl dX7_turnWeightTwo_21 rfl ?_
  refine jo_getrE (pc := 22) ok_7_1 (ik_80 hw) rf_80_1 gw_392 dX7_turnWeightTwo_22 ?_
  refine jo_aload_n (pc := 25) 0 rfl dX7_turnWeightTwo_25 rfl ?_
  refine jo_getrE (pc := 26) ok_7_5 (ik_80 hw) rf_80_5 gw_396 dX7_turnWeightTwo_26 ?_
  refine jo_cV_Z_i (pc := 29) (μ' := mu_X3_reduce) (fx := f_X3_reduce σ4 81 101) (As := [.ref (adr w 101)]) (c_X3_reduce hw (ik_81 hw) (ik_101 hw)) (ok_X3_reduce) (ltb rfl) (all3 gw_1208 gw_1169 gw_1170) (ik_81 hw) (by decide) (q := (RX3, TX3, 3)) rfl rfl rfl rfl (Nat.le_of_ble_eq_true rfl) dX7_turnWeightTwo_29 (fun b5 σ6 => ?_)
  refine jo_pop (pc := 32) dX7_turnWeightTwo_32 rfl ?_
  refine jo_iconst (pc := 33) dX7_turnWeightTwo_33 (ic_i_0) ?_
  refine jo_istore_n (pc := 34) (lv' := [(1, .int 0), (0, .ref (adr w 80))]) dX7_turnWeightTwo_34 rfl (ltb rfl) rfl ?_
  refine jo_joinS (S := Unit) (fun (z6 : Unit) => σ6) (fun (z6 : Unit) => [(0, .ref (adr w 80))]) (fun (z6 : Unit) => []) 62 ?_ (fun h62_6 => ?_)
  · intro _
    show JO w mu_X7_turnWeightTwo vB σ6 [(0, .ref (adr w 80))] [] 62 (j_X7_turnWeightTwo_62 σ6) _
    unfold j_X7_turnWeightTwo_62
    refine jo_iconst (pc := 62) dX7_turnWeightTwo_62 (ic_i_0) ?_
    refine jo_istore_n (pc := 63) (lv' := [(1, .int 0), (0, .ref (adr w 80))]) dX7_turnWeightTwo_63 rfl (ltb rfl) rfl ?_
    refine jo_lv (lv' := [(0, .ref (adr w 80)), (1, .int 0)]) [1, 0] rfl ?_
    refine jo_loop (X := (Bool × Mem)) (fun (z8 : (Mem × Int32)) => z8.1) (fun (z8 : (Mem × Int32)) => [(0, .ref (adr w 80)), (1, .int z8.2)]) (body := (fun (z8 : (Mem × Int32)) => l_X7_turnWeightTwo_64 z8.1 z8.2)) (fun F64_8 hF64_8 s => ?_) (σ6, 0)
    obtain ⟨σ7, i8⟩ := s
    show JO w mu_X7_turnWeightTwo vB σ7 [(0, .ref (adr w 80)), (1, .int i8)] [] 64 (l_X7_turnWeightTwo_64 σ7 i8) _
    unfold l_X7_turnWeightTwo_64
    refine jo_iload_n (pc := 64) 1 rfl dX7_turnWeightTwo_64 rfl ?_
    refine jo_aload_n (pc := 65) 0 rfl dX7_turnWeightTwo_65 rfl ?_
    refine jo_getf (pc := 66) ok_7_8 (ik_80 hw) gw_399 dX7_turnWeightTwo_66 (fun v9 => ?_)
    refine jo_icmp_ge (pc := 69) dX7_turnWeightTwo_69 (tgt := 105) rfl ?_ ?_
    · refine jo_iconst (pc := 105) dX7_turnWeightTwo_105 (ic_i_1) ?_
      exact jo_breturn (pc := 106) (b := true) rfl rfl dX7_turnWeightTwo_106
    · refine jo_aload_n (pc := 72) 0 rfl dX7_turnWeightTwo_72 rfl ?_
      refine jo_getf (pc := 73) ok_7_9 (ik_80 hw) gw_400 dX7_turnWeightTwo_73 (fun v10 => ?_)
      refine jo_iload_n (pc := 76) 1 rfl dX7_turnWeightTwo_76 rfl ?_
      refine jo_iadd (pc := 77) dX7_turnWeightTwo_77 ?_
      refine jo_bipush (pc := 78) dX7_turnWeightTwo_78 (ic_b_6) ?_
      refine jo_icmp_ge (pc := 80) dX7_turnWeightTwo_80 (tgt := 105) rfl ?_ ?_
      · refine jo_iconst (pc := 105) dX7_turnWeightTwo_105 (ic_i_1) ?_
        exact jo_breturn (pc := 106) (b := true) rfl rfl dX7_turnWeightTwo_106
      · refine jo_aload_n (pc := 83) 0 rfl dX7_turnWeightTwo_83 rfl ?_
        refine jo_iload_n (pc := 84) 1 rfl dX7_turnWeightTwo_84 rfl ?_
        refine jo_aload_n (pc := 85) 0 rfl dX7_turnWeightTwo_85 rfl ?_
        refine jo_getrE (pc := 86) ok_7_5 (ik_80 hw) rf_80_5 gw_396 dX7_turnWeightTwo_86 ?_
        refine jo_aload_n (pc := 89) 0 rfl dX7_turnWeightTwo_89 rfl ?_
        refine jo_getf (pc := 90) ok_7_9 (ik_80 hw) gw_400 dX7_turnWeightTwo_90 (fun v11 => ?_)
        refine jo_iload_n (pc := 93) 1 rfl dX7_turnWeightTwo_93 rfl ?_
        refine jo_iadd (pc := 94) dX7_turnWeightTwo_94 ?_
        refine jo_lald (pc := 95) (ik_101 hw) dX7_turnWeightTwo_95 (fun v12 => ?_)
        refine jo_cV_V_i (pc := 96) (μ' := mu_X7_setU) (fx := f_X7_setU σ7 i8 v12) (As := [.int i8, .long v12]) (c_X7_setU hw) (ok_X7_setU) (ltb rfl) (all3 gw_928 gw_930 gw_21) (ik_80 hw) (by decide) (q := (RX7, TX7, 11)) rfl rfl rfl rfl (Nat.le_of_ble_eq_true rfl) dX7_turnWeightTwo_96 (fun σ13 => ?_)
        refine jo_iinc (pc := 99) (lv' := [(1, .int (i8 + 1)), (0, .ref (adr w 80))]) 1 rfl dX7_turnWeightTwo_99 (congrArg (fun z => i8 + z) (ic_i_1)) (ltb rfl) rfl ?_
        refine jo_goto (pc := 102) dX7_turnWeightTwo_102 (tgt := 64) rfl ?_
        refine jo_lv (lv' := [(0, .ref (adr w 80)), (1, .int (i8 + 1))]) [1, 0] rfl ?_
        exact jo_leaf (by rfl) (hF64_8 (σ13, i8 + 1))
  · refine jo_lv (lv' := [(0, .ref (adr w 80)), (1, .int 0)]) [1, 0] rfl ?_
    refine jo_loop (X := Unit ⊕ (Bool × Mem)) (fun (z14 : Int32) => σ6) (fun (z14 : Int32) => [(0, .ref (adr w 80)), (1, .int z14)]) (body := (fun (z14 : Int32) => l_X7_turnWeightTwo_35 σ6 z14)) (fun F35_14 hF35_14 s => ?_) 0
    revert s; intro i14
    show JO w mu_X7_turnWeightTwo vB σ6 [(0, .ref (adr w 80)), (1, .int i14)] [] 35 (l_X7_turnWeightTwo_35 σ6 i14) _
    unfold l_X7_turnWeightTwo_35
    refine jo_iload_n (pc := 35) 1 rfl dX7_turnWeightTwo_35 rfl ?_
    refine jo_aload_n (pc := 36) 0 rfl dX7_turnWeightTwo_36 rfl ?_
    refine jo_getf (pc := 37) ok_7_9 (ik_80 hw) gw_400 dX7_turnWeightTwo_37 (fun v15 => ?_)
    refine jo_icmp_ge (pc := 40) dX7_turnWeightTwo_40 (tgt := 62) rfl ?_ ?_
    · refine jo_lv (lv' := [(0, .ref (adr w 80))]) [0] rfl ?_
      exact jo_leaf (by rfl) (h62_6 ())
    · refine jo_aload_n (pc := 43) 0 rfl dX7_turnWeightTwo_43 rfl ?_
      refine jo_getrE (pc := 44) ok_7_5 (ik_80 hw) rf_80_5 gw_396 dX7_turnWeightTwo_44 ?_
      refine jo_iload_n (pc := 47) 1 rfl dX7_turnWeightTwo_47 rfl ?_
      refine jo_lald (pc := 48) (ik_101 hw) dX7_turnWeightTwo_48 (fun v16 => ?_)
      refine jo_lconst (pc := 49) dX7_turnWeightTwo_49 (ic_l_0) ?_
      refine jo_lcmp_eq (pc := 50) dX7_turnWeightTwo_50 dX7_turnWeightTwo_51 (tgt := 56) rfl ?_ ?_
      · refine jo_iinc (pc := 56) (lv' := [(1, .int (i14 + 1)), (0, .ref (adr w 80))]) 1 rfl dX7_turnWeightTwo_56 (congrArg (fun z => i14 + z) (ic_i_1)) (ltb rfl) rfl ?_
        refine jo_goto (pc := 59) dX7_turnWeightTwo_59 (tgt := 35) rfl ?_
        refine jo_lv (lv' := [(0, .ref (adr w 80)), (1, .int (i14 + 1))]) [1, 0] rfl ?_
        exact jo_leaf (by rfl) (hF35_14 (i14 + 1))
      · refine jo_iconst (pc := 54) dX7_turnWeightTwo_54 (ic_i_0) ?_
        exact jo_breturn (pc := 55) (b := false) rfl rfl dX7_turnWeightTwo_55
theorem c_X7_turnWeightTwo {w : Wd} (hw : WOK w) {σ : Mem} : ∀ r σ', f_X7_turnWeightTwo σ = some (r, σ') → MC w mu_X7_turnWeightTwo (vB r) [.ref (adr w 80)] σ σ' := mc_of ok_X7_turnWeightTwo rfl (Nat.le_of_ble_eq_true rfl) (t_X7_turnWeightTwo hw)
abbrev mu_X7_insertShift : MD := (yX7_insertShift, cX7_insertShift, 1, none, 4)
theorem ok_X7_insertShift : MOK mu_X7_insertShift 0 := ⟨gw_1220, gw_165, (by decide +kernel : plainFor yX7_insertShift = true), ⟨(by decide +kernel : yX7_insertShift.cls ≠ "java/lang/invoke/MethodHandle"), (by decide +kernel : yX7_insertShift.cls ≠ "java/lang/invoke/VarHandle"), (by decide +kernel : (parseMethodDescriptor yX7_insertShift.desc).map (fun d => d.parameters.length) = some 0)⟩, Nat.le_of_ble_eq_true rfl⟩
noncomputable def f_X7_insertShift (σ : Mem) : Option Mem :=
  gF σ 80 8 (fun (v1 : Int32) => gF σ 80 9 (fun (v2 : Int32) => gF σ 80 10 (fun (v3 : Int32) => (f_X7_copyGaps σ (v1 + v2) v3 101).bind (fun (σ4 : Mem) => (f_X3_insert σ4 90 101).bind (fun (σ5 : Mem) => some σ5)))))
theorem t_X7_insertShift {w : Wd} (hw : WOK w) {σ : Mem} : JO w mu_X7_insertShift vV σ [(0, .ref (adr w 80))] [] 0 (f_X7_insertShift σ) (fun z => some ((), z)) := by
  unfold f_X7_insertShift
  refine jo_aload_n (pc := 0) 0 rfl dX7_insertShift_0 rfl ?_
  refine jo_aload_n (pc := 1) 0 rfl dX7_insertShift_1 rfl ?_
  refine jo_getf (pc := 2) ok_7_8 (ik_80 hw) gw_399 dX7_insertShift_2 (fun v1 => ?_)
  refine jo_aload_n (pc := 5) 0 rfl dX7_insertShift_5 rfl ?_
  refine jo_getf (pc := 6) ok_7_9 (ik_80 hw) gw_400 dX7_insertShift_6 (fun v2 => ?_)
  refine jo_iadd (pc := 9) dX7_insertShift_9 ?_
  refine jo_aload_n (pc := 10) 0 rfl dX7_insertShift_10 rfl ?_
  refine jo_getf (pc := 11) ok_7_10 (ik_80 hw) gw_401 dX7_insertShift_11 (fun v3 => ?_)
  refine jo_aload_n (pc := 14) 0 rfl dX7_insertShift_14 rfl ?_
  refine jo_getrE (pc := 15) ok_7_5 (ik_80 hw) rf_80_5 gw_396 dX7_insertShift_15 ?_
  refine jo_cV_V_i (pc := 18) (μ' := mu_X7_copyGaps) (fx := f_X7_copyGaps σ (v1 + v2) v3 101) (As := [.int (v1 + v2), .int v3, .ref (adr w 101)]) (c_X7_copyGaps hw (ik_101 hw)) (ok_X7_copyGaps) (ltb rfl) (all3 gw_1198 gw_1200 gw_55) (ik_80 hw) (by decide) (q := (RX7, TX7, 11)) rfl rfl rfl rfl (Nat.le_of_ble_eq_true rfl) dX7_insertShift_18 (fun σ4 => ?_)
  refine jo_aload_n (pc := 21) 0 rfl dX7_insertShift_21 rfl ?_
  refine jo_getrE (pc := 22) ok_7_2 (ik_80 hw) rf_80_2 gw_393 dX7_insertShift_22 ?_
  refine jo_aload_n (pc := 25) 0 rfl dX7_insertShift_25 rfl ?_
  refine jo_getrE (pc := 26) ok_7_5 (ik_80 hw) rf_80_5 gw_396 dX7_insertShift_26 ?_
  refine jo_cV_V_i (pc := 29) (μ' := mu_X3_insert) (fx := f_X3_insert σ4 90 101) (As := [.ref (adr w 101)]) (c_X3_insert hw (ik_90 hw) (ik_101 hw)) (ok_X3_insert) (ltb rfl) (all3 gw_1203 gw_1137 gw_1138) (ik_90 hw) (by decide) (q := (RX3, TX3, 3)) rfl rfl rfl rfl (Nat.le_of_ble_eq_true rfl) dX7_insertShift_29 (fun σ5 => ?_)
  exact jo_return (pc := 32) rfl rfl dX7_insertShift_32
theorem c_X7_insertShift {w : Wd} (hw : WOK w) {σ : Mem} : ∀ σ', f_X7_insertShift σ = some σ' → MC w mu_X7_insertShift none [.ref (adr w 80)] σ σ' := mc_ofV ok_X7_insertShift rfl (Nat.le_of_ble_eq_true rfl) (t_X7_insertShift hw)
abbrev mu_X7_findShifts : MD := (yX7_findShifts, cX7_findShifts, 3, none, 5)
theorem ok_X7_findShifts : MOK mu_X7_findShifts 0 := ⟨gw_1212, gw_165, (by decide +kernel : plainFor yX7_findShifts = true), ⟨(by decide +kernel : yX7_findShifts.cls ≠ "java/lang/invoke/MethodHandle"), (by decide +kernel : yX7_findShifts.cls ≠ "java/lang/invoke/VarHandle"), (by decide +kernel : (parseMethodDescriptor yX7_findShifts.desc).map (fun d => d.parameters.length) = some 0)⟩, Nat.le_of_ble_eq_true rfl⟩
noncomputable def l_X7_findShifts_114 (σ6 : Mem) (i7 : Int32) : Option ((Mem × Int32) ⊕ Mem) :=
  gF σ6 80 8 (fun (v8 : Int32) => gF σ6 80 9 (fun (v9 : Int32) => if (v8 + v9) ≤ i7 then (some (Sum.inr σ6)) else ((f_X7_putU σ6 0).bind (fun (σ10 : Mem) => (f_X7_setU σ10 i7 1).bind (fun (σ11 : Mem) => (f_X7_insertShift σ11).bind (fun (σ12 : Mem) => some (Sum.inl (σ12, i7 + 1))))))))
noncomputable def j_X7_findShifts_109 (σ4 : Mem) : Option Mem :=
  gF σ4 80 8 (fun (v5 : Int32) => loopO (fun (z7 : (Mem × Int32)) => l_X7_findShifts_114 z7.1 z7.2) (σ4, v5))
noncomputable def j_X7_findShifts_103 (i14 : Int32) (σ18 : Mem) : Option ((Mem × Int32) ⊕ Mem) :=
  some (Sum.inl (σ18, i14 + 1))
noncomputable def j_X7_findShifts_99 (σ20 : Mem) : Option Mem :=
  (f_X7_insertShift σ20).bind (fun (σ21 : Mem) => some σ21)
noncomputable def l_X7_findShifts_53 (i14 : Int32) (σ22 : Mem) (i23 : Int32) : Option ((Mem × Int32) ⊕ Mem) :=
  gF σ22 80 8 (fun (v24 : Int32) => if v24 ≤ i23 then (some (Sum.inr σ22)) else (gF σ22 80 9 (fun (v25 : Int32) => if 6 ≤ (v25 + i23) then (some (Sum.inr σ22)) else (gR 82 i14 (fun (p26 : Nat) => gF σ22 80 9 (fun (v27 : Int32) => gL σ22 p26 (v27 + i23) (fun (v28 : Int64) => (f_X7_setU σ22 i23 v28).bind (fun (σ29 : Mem) => some (Sum.inl (σ29, i23 + 1))))))))))
noncomputable def l_X7_findShifts_16 (σ13 : Mem) (i14 : Int32) : Option ((Mem × Int32) ⊕ Mem) :=
  gF σ13 80 9 (fun (v15 : Int32) => gF σ13 80 8 (fun (v16 : Int32) => if (v15 + v16) ≤ i14 then (some (Sum.inr σ13)) else (if 6 ≤ i14 then (some (Sum.inr σ13)) else ((f_X3_hasStep σ13 81 i14).bind (fun (b17 : Bool) => (if b17 then (f_X7_putU σ13 0).bind (fun (σ19 : Mem) => (loopO (fun (z23 : (Mem × Int32)) => l_X7_findShifts_53 i14 z23.1 z23.2) (σ19, 0) : Option Mem).bind (fun (z20 : Mem) => j_X7_findShifts_99 z20)) else some σ13 : Option Mem).bind (fun (z18 : Mem) => j_X7_findShifts_103 i14 z18))))))
noncomputable def f_X7_findShifts (σ : Mem) : Option Mem :=
  gF σ 80 10 (fun (v1 : Int32) => (f_X3_clear σ 90 v1).bind (fun (σ2 : Mem) => gF σ2 80 9 (fun (v3 : Int32) => (loopO (fun (z14 : (Mem × Int32)) => l_X7_findShifts_16 z14.1 z14.2) (σ2, v3) : Option Mem).bind (fun (z4 : Mem) => j_X7_findShifts_109 z4))))
theorem t_X7_findShifts {w : Wd} (hw : WOK w) {σ : Mem} : JO w mu_X7_findShifts vV σ [(0, .ref (adr w 80))] [] 0 (f_X7_findShifts σ) (fun z => some ((), z)) := by
  unfold f_X7_findShifts
  refine jo_aload_n (pc := 0) 0 rfl dX7_findShifts_0 rfl ?_
  refine jo_getrE (pc := 1) ok_7_2 (ik_80 hw) rf_80_2 gw_393 dX7_findShifts_1 ?_
  refine jo_aload_n (pc := 4) 0 rfl dX7_findShifts_4 rfl ?_
  refine jo_getf (pc := 5) ok_7_10 (ik_80 hw) gw_401 dX7_findShifts_5 (fun v1 => ?_)
  refine jo_cV_V_i (pc := 8) (μ' := mu_X3_clear) (fx := f_X3_clear σ 90 v1) (As := [.int v1]) (c_X3_clear hw (ik_90 hw)) (ok_X3_clear) (ltb rfl) (all3 gw_1197 gw_1126 gw_1127) (ik_90 hw) (by decide) (q := (RX3, TX3, 3)) rfl rfl rfl rfl (Nat.le_of_ble_eq_true rfl) dX7_findShifts_8 (fun σ2 => ?_)
  refine jo_aload_n (pc := 11) 0 rfl dX7_findShifts_11 rfl ?_
  refine jo_getf (pc := 12) ok_7_9 (ik_80 hw) gw_400 dX7_findShifts_12 (fun v3 => ?_)
  refine jo_istore_n (pc := 15) (lv' := [(1, .int v3), (0, .ref (adr w 80))]) dX7_findShifts_15 rfl (ltb rfl) rfl ?_
  refine jo_join1 (S := Mem) (fun (z4 : Mem) => z4) (fun (z4 : Mem) => [(0, .ref (adr w 80))]) (fun (z4 : Mem) => []) 109 ?_ (fun h109_4 => ?_)
  · intro σ4
    show JO w mu_X7_findShifts vV σ4 [(0, .ref (adr w 80))] [] 109 (j_X7_findShifts_109 σ4) _
    unfold j_X7_findShifts_109
    refine jo_aload_n (pc := 109) 0 rfl dX7_findShifts_109 rfl ?_
    refine jo_getf (pc := 110) ok_7_8 (ik_80 hw) gw_399 dX7_findShifts_110 (fun v5 => ?_)
    refine jo_istore_n (pc := 113) (lv' := [(1, .int v5), (0, .ref (adr w 80))]) dX7_findShifts_113 rfl (ltb rfl) rfl ?_
    refine jo_lv (lv' := [(0, .ref (adr w 80)), (1, .int v5)]) [1, 0] rfl ?_
    refine jo_loop (X := Mem) (fun (z7 : (Mem × Int32)) => z7.1) (fun (z7 : (Mem × Int32)) => [(0, .ref (adr w 80)), (1, .int z7.2)]) (body := (fun (z7 : (Mem × Int32)) => l_X7_findShifts_114 z7.1 z7.2)) (fun F114_7 hF114_7 s => ?_) (σ4, v5)
    obtain ⟨σ6, i7⟩ := s
    show JO w mu_X7_findShifts vV σ6 [(0, .ref (adr w 80)), (1, .int i7)] [] 114 (l_X7_findShifts_114 σ6 i7) _
    unfold l_X7_findShifts_114
    refine jo_iload_n (pc := 114) 1 rfl dX7_findShifts_114 rfl ?_
    refine jo_aload_n (pc := 115) 0 rfl dX7_findShifts_115 rfl ?_
    refine jo_getf (pc := 116) ok_7_8 (ik_80 hw) gw_399 dX7_findShifts_116 (fun v8 => ?_)
    refine jo_aload_n (pc := 119) 0 rfl dX7_findShifts_119 rfl ?_
    refine jo_getf (pc := 120) ok_7_9 (ik_80 hw) gw_400 dX7_findShifts_120 (fun v9 => ?_)
    refine jo_iadd (pc := 123) dX7_findShifts_123 ?_
    refine jo_icmp_ge (pc := 124) dX7_findShifts_124 (tgt := 148) rfl ?_ ?_
    · exact jo_return (pc := 148) rfl rfl dX7_findShifts_148
    · refine jo_aload_n (pc := 127) 0 rfl dX7_findShifts_127 rfl ?_
      refine jo_lconst (pc := 128) dX7_findShifts_128 (ic_l_0) ?_
      refine jo_cV_V_i (pc := 129) (μ' := mu_X7_putU) (fx := f_X7_putU σ6 0) (As := [.long 0]) (c_X7_putU hw) (ok_X7_putU) (ltb rfl) (all3 gw_924 gw_926 gw_20) (ik_80 hw) (by decide) (q := (RX7, TX7, 11)) rfl rfl rfl rfl (Nat.le_of_ble_eq_true rfl) dX7_findShifts_129 (fun σ10 => ?_)
      refine jo_aload_n (pc := 132) 0 rfl dX7_findShifts_132 rfl ?_
      refine jo_iload_n (pc := 133) 1 rfl dX7_findShifts_133 rfl ?_
      refine jo_lconst (pc := 134) dX7_findShifts_134 (ic_l_1) ?_
      refine jo_cV_V_i (pc := 135) (μ' := mu_X7_setU) (fx := f_X7_setU σ10 i7 1) (As := [.int i7, .long 1]) (c_X7_setU hw) (ok_X7_setU) (ltb rfl) (all3 gw_928 gw_930 gw_21) (ik_80 hw) (by decide) (q := (RX7, TX7, 11)) rfl rfl rfl rfl (Nat.le_of_ble_eq_true rfl) dX7_findShifts_135 (fun σ11 => ?_)
      refine jo_aload_n (pc := 138) 0 rfl dX7_findShifts_138 rfl ?_
      refine jo_cV_V_i (pc := 139) (μ' := mu_X7_insertShift) (fx := f_X7_insertShift σ11) (As := []) (c_X7_insertShift hw) (ok_X7_insertShift) (ltb rfl) (all3 gw_1217 gw_1219 gw_58) (ik_80 hw) (by decide) (q := (RX7, TX7, 11)) rfl rfl rfl rfl (Nat.le_of_ble_eq_true rfl) dX7_findShifts_139 (fun σ12 => ?_)
      refine jo_iinc (pc := 142) (lv' := [(1, .int (i7 + 1)), (0, .ref (adr w 80))]) 1 rfl dX7_findShifts_142 (congrArg (fun z => i7 + z) (ic_i_1)) (ltb rfl) rfl ?_
      refine jo_goto (pc := 145) dX7_findShifts_145 (tgt := 114) rfl ?_
      refine jo_lv (lv' := [(0, .ref (adr w 80)), (1, .int (i7 + 1))]) [1, 0] rfl ?_
      exact jo_leaf (by rfl) (hF114_7 (σ12, i7 + 1))
  · refine jo_lv (lv' := [(0, .ref (adr w 80)), (1, .int v3)]) [1, 0] rfl ?_
    refine jo_loop (X := Mem) (fun (z14 : (Mem × Int32)) => z14.1) (fun (z14 : (Mem × Int32)) => [(0, .ref (adr w 80)), (1, .int z14.2)]) (body := (fun (z14 : (Mem × Int32)) => l_X7_findShifts_16 z14.1 z14.2)) (fun F16_14 hF16_14 s => ?_) (σ2, v3)
    obtain ⟨σ13, i14⟩ := s
    show JO w mu_X7_findShifts vV σ13 [(0, .ref (adr w 80)), (1, .int i14)] [] 16 (l_X7_findShifts_16 σ13 i14) _
    unfold l_X7_findShifts_16
    refine jo_iload_n (pc := 16) 1 rfl dX7_findShifts_16 rfl ?_
    refine jo_aload_n (pc := 17) 0 rfl dX7_findShifts_17 rfl ?_
    refine jo_getf (pc := 18) ok_7_9 (ik_80 hw) gw_400 dX7_findShifts_18 (fun v15 => ?_)
    refine jo_aload_n (pc := 21) 0 rfl dX7_findShifts_21 rfl ?_
    refine jo_getf (pc := 22) ok_7_8 (ik_80 hw) gw_399 dX7_findShifts_22 (fun v16 => ?_)
    refine jo_iadd (pc := 25) dX7_findShifts_25 ?_
    refine jo_icmp_ge (pc := 26) dX7_findShifts_26 (tgt := 109) rfl ?_ ?_
    · refine jo_lv (lv' := [(0, .ref (adr w 80))]) [0] rfl ?_
      exact jo_leaf (by rfl) (h109_4 σ13)
    · refine jo_iload_n (pc := 29) 1 rfl dX7_findShifts_29 rfl ?_
      refine jo_bipush (pc := 30) dX7_findShifts_30 (ic_b_6) ?_
      refine jo_icmp_ge (pc := 32) dX7_findShifts_32 (tgt := 109) rfl ?_ ?_
      · refine jo_lv (lv' := [(0, .ref (adr w 80))]) [0] rfl ?_
        exact jo_leaf (by rfl) (h109_4 σ13)
      · refine jo_aload_n (pc := 35) 0 rfl dX7_findShifts_35 rfl ?_
        refine jo_getrE (pc := 36) ok_7_1 (ik_80 hw) rf_80_1 gw_392 dX7_findShifts_36 ?_
        refine jo_iload_n (pc := 39) 1 rfl dX7_findShifts_39 rfl ?_
        refine jo_cV_Z_p (pc := 40) (μ' := mu_X3_hasStep) (fx := f_X3_hasStep σ13 81 i14) (As := [.int i14]) (c_X3_hasStep hw (ik_81 hw)) (ok_X3_hasStep) (ltb rfl) (all3 gw_1213 gw_1214 gw_1215) (ik_81 hw) (by decide) (q := (RX3, TX3, 3)) rfl rfl rfl rfl (Nat.le_of_ble_eq_true rfl) dX7_findShifts_40 (fun b17 => ?_)
        refine jo_join1 (S := Mem) (fun (z18 : Mem) => z18) (fun (z18 : Mem) => [(0, .ref (adr w 80)), (1, .int i14)]) (fun (z18 : Mem) => []) 103 ?_ (fun h103_18 => ?_)
        · intro σ18
          show JO w mu_X7_findShifts vV σ18 [(0, .ref (adr w 80)), (1, .int i14)] [] 103 (j_X7_findShifts_103 i14 σ18) _
          unfold j_X7_findShifts_103
          refine jo_iinc (pc := 103) (lv' := [(1, .int (i14 + 1)), (0, .ref (adr w 80))]) 1 rfl dX7_findShifts_103 (congrArg (fun z => i14 + z) (ic_i_1)) (ltb rfl) rfl ?_
          refine jo_goto (pc := 106) dX7_findShifts_106 (tgt := 16) rfl ?_
          refine jo_lv (lv' := [(0, .ref (adr w 80)), (1, .int (i14 + 1))]) [1, 0] rfl ?_
          exact jo_leaf (by rfl) (hF16_14 (σ18, i14 + 1))
        · refine jo_ifz_eq (pc := 43) dX7_findShifts_43 (tgt := 103) rfl ?_ ?_
          · exact jo_leaf (by rfl) (h103_18 σ13)
          · refine jo_aload_n (pc := 46) 0 rfl dX7_findShifts_46 rfl ?_
            refine jo_lconst (pc := 47) dX7_findShifts_47 (ic_l_0) ?_
            refine jo_cV_V_i (pc := 48) (μ' := mu_X7_putU) (fx := f_X7_putU σ13 0) (As := [.long 0]) (c_X7_putU hw) (ok_X7_putU) (ltb rfl) (all3 gw_924 gw_926 gw_20) (ik_80 hw) (by decide) (q := (RX7, TX7, 11)) rfl rfl rfl rfl (Nat.le_of_ble_eq_true rfl) dX7_findShifts_48 (fun σ19 => ?_)
            refine jo_iconst (pc := 51) dX7_findShifts_51 (ic_i_0) ?_
            refine jo_istore_n (pc := 52) (lv' := [(2, .int 0), (0, .ref (adr w 80)), (1, .int i14)]) dX7_findShifts_52 rfl (ltb rfl) rfl ?_
            refine jo_join1 (S := Mem) (fun (z20 : Mem) => z20) (fun (z20 : Mem) => [(0, .ref (adr w 80)), (1, .int i14)]) (fun (z20 : Mem) => []) 99 ?_ (fun h99_20 => ?_)
            · intro σ20
              show JO w mu_X7_findShifts vV σ20 [(0, .ref (adr w 80)), (1, .int i14)] [] 99 (j_X7_findShifts_99 σ20) _
              unfold j_X7_findShifts_99
              refine jo_aload_n (pc := 99) 0 rfl dX7_findShifts_99 rfl ?_
              refine jo_cV_V_i (pc := 100) (μ' := mu_X7_insertShift) (fx := f_X7_insertShift σ20) (As := []) (c_X7_insertShift hw) (ok_X7_insertShift) (ltb rfl) (all3 gw_1217 gw_1219 gw_58) (ik_80 hw) (by decide) (q := (RX7, TX7, 11)) rfl rfl rfl rfl (Nat.le_of_ble_eq_true rfl) dX7_findShifts_100 (fun σ21 => ?_)
              exact jo_leaf (by rfl) (h103_18 σ21)
            · refine jo_lv (lv' := [(0, .ref (adr w 80)), (1, .int i14), (2, .int 0)]) [1, 2, 0] rfl ?_
              refine jo_loop (X := Mem) (fun (z23 : (Mem × Int32)) => z23.1) (fun (z23 : (Mem × Int32)) => [(0, .ref (adr w 80)), (1, .int i14), (2, .int z23.2)]) (body := (fun (z23 : (Mem × Int32)) => l_X7_findShifts_53 i14 z23.1 z23.2)) (fun F53_23 hF53_23 s => ?_) (σ19, 0)
              obtain ⟨σ22, i23⟩ := s
              show JO w mu_X7_findShifts vV σ22 [(0, .ref (adr w 80)), (1, .int i14), (2, .int i23)] [] 53 (l_X7_findShifts_53 i14 σ22 i23) _
              unfold l_X7_findShifts_53
              refine jo_iload_n (pc := 53) 2 rfl dX7_findShifts_53 rfl ?_
              refine jo_aload_n (pc := 54) 0 rfl dX7_findShifts_54 rfl ?_
              refine jo_getf (pc := 55) ok_7_8 (ik_80 hw) gw_399 dX7_findShifts_55 (fun v24 => ?_)
              refine jo_icmp_ge (pc := 58) dX7_findShifts_58 (tgt := 99) rfl ?_ ?_
              · refine jo_lv (lv' := [(0, .ref (adr w 80)), (1, .int i14)]) [0, 1] rfl ?_
                exact jo_leaf (by rfl) (h99_20 σ22)
              · refine jo_aload_n (pc := 61) 0 rfl dX7_findShifts_61 rfl ?_
                refine jo_getf (pc := 62) ok_7_9 (ik_80 hw) gw_400 dX7_findShifts_62 (fun v25 => ?_)
                refine jo_iload_n (pc := 65) 2 rfl dX7_findShifts_65 rfl ?_
                refine jo_iadd (pc := 66) dX7_findShifts_66 ?_
                refine jo_bipush (pc := 67) dX7_findShifts_67 (ic_b_6) ?_
                refine jo_icmp_ge (pc := 69) dX7_findShifts_69 (tgt := 99) rfl ?_ ?_
                · refine jo_lv (lv' := [(0, .ref (adr w 80)), (1, .int i14)]) [0, 1] rfl ?_
                  exact jo_leaf (by rfl) (h99_20 σ22)
                · refine jo_aload_n (pc := 72) 0 rfl dX7_findShifts_72 rfl ?_
                  refine jo_iload_n (pc := 73) 2 rfl dX7_findShifts_73 rfl ?_
                  refine jo_aload_n (pc := 74) 0 rfl dX7_findShifts_74 rfl ?_
                  refine jo_getrE (pc := 75) ok_7_1 (ik_80 hw) rf_80_1 gw_392 dX7_findShifts_75 ?_
                  refine jo_getrE (pc := 78) ok_3_1 (ik_81 hw) rf_81_1 gw_380 dX7_findShifts_78 ?_
                  refine jo_iload_n (pc := 81) 1 rfl dX7_findShifts_81 rfl ?_
                  refine jo_aaldG (pc := 82) (z := 13) hw (ik_82 hw) (by decide) (t := 4) rfl rfl (by decide) dX7_findShifts_82 (fun p26 hp26 => ?_)
                  refine jo_aload_n (pc := 83) 0 rfl dX7_findShifts_83 rfl ?_
                  refine jo_getf (pc := 84) ok_7_9 (ik_80 hw) gw_400 dX7_findShifts_84 (fun v27 => ?_)
                  refine jo_iload_n (pc := 87) 2 rfl dX7_findShifts_87 rfl ?_
                  refine jo_iadd (pc := 88) dX7_findShifts_88 ?_
                  refine jo_lald (pc := 89) (hp26) dX7_findShifts_89 (fun v28 => ?_)
                  refine jo_cV_V_i (pc := 90) (μ' := mu_X7_setU) (fx := f_X7_setU σ22 i23 v28) (As := [.int i23, .long v28]) (c_X7_setU hw) (ok_X7_setU) (ltb rfl) (all3 gw_928 gw_930 gw_21) (ik_80 hw) (by decide) (q := (RX7, TX7, 11)) rfl rfl rfl rfl (Nat.le_of_ble_eq_true rfl) dX7_findShifts_90 (fun σ29 => ?_)
                  refine jo_iinc (pc := 93) (lv' := [(2, .int (i23 + 1)), (0, .ref (adr w 80)), (1, .int i14)]) 2 rfl dX7_findShifts_93 (congrArg (fun z => i23 + z) (ic_i_1)) (ltb rfl) rfl ?_
                  refine jo_goto (pc := 96) dX7_findShifts_96 (tgt := 53) rfl ?_
                  refine jo_lv (lv' := [(0, .ref (adr w 80)), (1, .int i14), (2, .int (i23 + 1))]) [1, 2, 0] rfl ?_
                  exact jo_leaf (by rfl) (hF53_23 (σ29, i23 + 1))
theorem c_X7_findShifts {w : Wd} (hw : WOK w) {σ : Mem} : ∀ σ', f_X7_findShifts σ = some σ' → MC w mu_X7_findShifts none [.ref (adr w 80)] σ σ' := mc_ofV ok_X7_findShifts rfl (Nat.le_of_ble_eq_true rfl) (t_X7_findShifts hw)
abbrev mu_X7_areConjugates : MD := (yX7_areConjugates, cX7_areConjugates, 3, some .boolean, 6)
theorem ok_X7_areConjugates : MOK mu_X7_areConjugates 2 := ⟨gw_1188, gw_165, (by decide +kernel : plainFor yX7_areConjugates = true), ⟨(by decide +kernel : yX7_areConjugates.cls ≠ "java/lang/invoke/MethodHandle"), (by decide +kernel : yX7_areConjugates.cls ≠ "java/lang/invoke/VarHandle"), (by decide +kernel : (parseMethodDescriptor yX7_areConjugates.desc).map (fun d => d.parameters.length) = some 2)⟩, Nat.le_of_ble_eq_true rfl⟩
noncomputable def f_X7_areConjugates (σ : Mem) (x0 : Nat) (x1 : Nat) : Option (Bool × Mem) :=
  (f_X6_countOf σ 41 1).bind (fun (v1 : Int32) => pF σ 80 8 v1 (fun (σ2 : Mem) => (f_X6_countOf σ2 41 2).bind (fun (v3 : Int32) => pF σ2 80 9 v3 (fun (σ4 : Mem) => (f_X6_countOf σ4 41 3).bind (fun (v5 : Int32) => pF σ4 80 10 v5 (fun (σ6 : Mem) => (f_X7_findGaps σ6 x0 x1).bind (fun (σ7 : Mem) => (f_X7_putU σ7 0).bind (fun (σ8 : Mem) => gF σ8 80 8 (fun (v9 : Int32) => (f_X7_areClosed σ8 0 v9).bind (fun (b10 : Bool) => if b10 then (f_X7_findTurns σ8).bind (fun (σ11 : Mem) => bq (f_X7_turnWeightTwo σ11) (fun (b12 : Bool) (σ13 : Mem) => if b12 then gF σ13 80 8 (fun (v14 : Int32) => gF σ13 80 9 (fun (v15 : Int32) => gF σ13 80 10 (fun (v16 : Int32) => (f_X7_copyGaps σ13 (v14 + v15) v16 102).bind (fun (σ17 : Mem) => (f_X7_findGaps σ17 x1 x1).bind (fun (σ18 : Mem) => (f_X7_findShifts σ18).bind (fun (σ19 : Mem) => bq (f_X3_reduce σ19 90 102) (fun (b20 : Bool) (σ21 : Mem) => some (b20, σ21)))))))) else some (false, σ13))) else some (false, σ8)))))))))))
theorem t_X7_areConjugates {w : Wd} (hw : WOK w) {σ : Mem} {x0 : Nat} {x1 : Nat} (hx0 : isk w x0 13) (hx1 : isk w x1 13) : JO w mu_X7_areConjugates vB σ [(0, .ref (adr w 80)), (1, .ref (adr w x0)), (2, .ref (adr w x1))] [] 0 (f_X7_areConjugates σ x0 x1) some := by
  unfold f_X7_areConjugates
  refine jo_aload_n (pc := 0) 0 rfl dX7_areConjugates_0 rfl ?_
  refine jo_aload_n (pc := 1) 0 rfl dX7_areConjugates_1 rfl ?_
  refine jo_getrE (pc := 2) ok_7_0 (ik_80 hw) rf_80_0 gw_391 dX7_areConjugates_2 ?_
  refine jo_getrE (pc := 5) ok_4_0 (ik_40 hw) rf_40_0 gw_300 dX7_areConjugates_5 ?_
  refine jo_iconst (pc := 8) dX7_areConjugates_8 (ic_i_1) ?_
  refine jo_cV_I_p (pc := 9) (μ' := mu_X6_countOf) (fx := f_X6_countOf σ 41 1) (As := [.int 1]) (c_X6_countOf hw (ik_41 hw)) (ok_X6_countOf) (ltb rfl) (all3 gw_1189 gw_1190 gw_1191) (ik_41 hw) (by decide) (q := (RX6, TX6, 3)) rfl rfl rfl rfl (Nat.le_of_ble_eq_true rfl) dX7_areConjugates_9 (fun v1 => ?_)
  refine jo_putf (pc := 12) ok_7_8 okp_7_8 (ik_80 hw) gw_399 dX7_areConjugates_12 (fun σ2 => ?_)
  refine jo_aload_n (pc := 15) 0 rfl dX7_areConjugates_15 rfl ?_
  refine jo_aload_n (pc := 16) 0 rfl dX7_areConjugates_16 rfl ?_
  refine jo_getrE (pc := 17) ok_7_0 (ik_80 hw) rf_80_0 gw_391 dX7_areConjugates_17 ?_
  refine jo_getrE (pc := 20) ok_4_0 (ik_40 hw) rf_40_0 gw_300 dX7_areConjugates_20 ?_
  refine jo_iconst (pc := 23) dX7_areConjugates_23 (ic_i_2) ?_
  refine jo_cV_I_p (pc := 24) (μ' := mu_X6_countOf) (fx := f_X6_countOf σ2 41 2) (As := [.int 2]) (c_X6_countOf hw (ik_41 hw)) (ok_X6_countOf) (ltb rfl) (all3 gw_1189 gw_1190 gw_1191) (ik_41 hw) (by decide) (q := (RX6, TX6, 3)) rfl rfl rfl rfl (Nat.le_of_ble_eq_true rfl) dX7_areConjugates_24 (fun v3 => ?_)
  refine jo_putf (pc := 27) ok_7_9 okp_7_9 (ik_80 hw) gw_400 dX7_areConjugates_27 (fun σ4 => ?_)
  refine jo_aload_n (pc := 30) 0 rfl dX7_areConjugates_30 rfl ?_
  refine jo_aload_n (pc := 31) 0 rfl dX7_areConjugates_31 rfl ?_
  refine jo_getrE (pc := 32) ok_7_0 (ik_80 hw) rf_80_0 gw_391 dX7_areConjugates_32 ?_
  refine jo_getrE (pc := 35) ok_4_0 (ik_40 hw) rf_40_0 gw_300 dX7_areConjugates_35 ?_
  refine jo_iconst (pc := 38) dX7_areConjugates_38 (ic_i_3) ?_
  refine jo_cV_I_p (pc := 39) (μ' := mu_X6_countOf) (fx := f_X6_countOf σ4 41 3) (As := [.int 3]) (c_X6_countOf hw (ik_41 hw)) (ok_X6_countOf) (ltb rfl) (all3 gw_1189 gw_1190 gw_1191) (ik_41 hw) (by decide) (q := (RX6, TX6, 3)) rfl rfl rfl rfl (Nat.le_of_ble_eq_true rfl) dX7_areConjugates_39 (fun v5 => ?_)
  refine jo_putf (pc := 42) ok_7_10 okp_7_10 (ik_80 hw) gw_401 dX7_areConjugates_42 (fun σ6 => ?_)
  refine jo_aload_n (pc := 45) 0 rfl dX7_areConjugates_45 rfl ?_
  refine jo_aload_n (pc := 46) 1 rfl dX7_areConjugates_46 rfl ?_
  refine jo_aload_n (pc := 47) 2 rfl dX7_areConjugates_47 rfl ?_
  refine jo_cV_V_i (pc := 48) (μ' := mu_X7_findGaps) (fx := f_X7_findGaps σ6 x0 x1) (As := [.ref (adr w x0), .ref (adr w x1)]) (c_X7_findGaps hw (hx0) (hx1)) (ok_X7_findGaps) (ltb rfl) (all3 gw_905 gw_907 gw_18) (ik_80 hw) (by decide) (q := (RX7, TX7, 11)) rfl rfl rfl rfl (Nat.le_of_ble_eq_true rfl) dX7_areConjugates_48 (fun σ7 => ?_)
  refine jo_aload_n (pc := 51) 0 rfl dX7_areConjugates_51 rfl ?_
  refine jo_lconst (pc := 52) dX7_areConjugates_52 (ic_l_0) ?_
  refine jo_cV_V_i (pc := 53) (μ' := mu_X7_putU) (fx := f_X7_putU σ7 0) (As := [.long 0]) (c_X7_putU hw) (ok_X7_putU) (ltb rfl) (all3 gw_924 gw_926 gw_20) (ik_80 hw) (by decide) (q := (RX7, TX7, 11)) rfl rfl rfl rfl (Nat.le_of_ble_eq_true rfl) dX7_areConjugates_53 (fun σ8 => ?_)
  refine jo_aload_n (pc := 56) 0 rfl dX7_areConjugates_56 rfl ?_
  refine jo_iconst (pc := 57) dX7_areConjugates_57 (ic_i_0) ?_
  refine jo_aload_n (pc := 58) 0 rfl dX7_areConjugates_58 rfl ?_
  refine jo_getf (pc := 59) ok_7_8 (ik_80 hw) gw_399 dX7_areConjugates_59 (fun v9 => ?_)
  refine jo_cV_Z_p (pc := 62) (μ' := mu_X7_areClosed) (fx := f_X7_areClosed σ8 0 v9) (As := [.int 0, .int v9]) (c_X7_areClosed hw) (ok_X7_areClosed) (ltb rfl) (all3 gw_933 gw_935 gw_22) (ik_80 hw) (by decide) (q := (RX7, TX7, 11)) rfl rfl rfl rfl (Nat.le_of_ble_eq_true rfl) dX7_areConjugates_62 (fun b10 => ?_)
  refine jo_ifz_ne (pc := 65) dX7_areConjugates_65 (tgt := 70) rfl ?_ ?_
  · refine jo_aload_n (pc := 70) 0 rfl dX7_areConjugates_70 rfl ?_
    refine jo_cV_V_i (pc := 71) (μ' := mu_X7_findTurns) (fx := f_X7_findTurns σ8) (As := []) (c_X7_findTurns hw) (ok_X7_findTurns) (ltb rfl) (all3 gw_1193 gw_1195 gw_54) (ik_80 hw) (by decide) (q := (RX7, TX7, 11)) rfl rfl rfl rfl (Nat.le_of_ble_eq_true rfl) dX7_areConjugates_71 (fun σ11 => ?_)
    refine jo_aload_n (pc := 74) 0 rfl dX7_areConjugates_74 rfl ?_
    refine jo_cV_Z_i (pc := 75) (μ' := mu_X7_turnWeightTwo) (fx := f_X7_turnWeightTwo σ11) (As := []) (c_X7_turnWeightTwo hw) (ok_X7_turnWeightTwo) (ltb rfl) (all3 gw_1204 gw_1206 gw_56) (ik_80 hw) (by decide) (q := (RX7, TX7, 11)) rfl rfl rfl rfl (Nat.le_of_ble_eq_true rfl) dX7_areConjugates_75 (fun b12 σ13 => ?_)
    refine jo_ifz_ne (pc := 78) dX7_areConjugates_78 (tgt := 83) rfl ?_ ?_
    · refine jo_aload_n (pc := 83) 0 rfl dX7_areConjugates_83 rfl ?_
      refine jo_aload_n (pc := 84) 0 rfl dX7_areConjugates_84 rfl ?_
      refine jo_getf (pc := 85) ok_7_8 (ik_80 hw) gw_399 dX7_areConjugates_85 (fun v14 => ?_)
      refine jo_aload_n (pc := 88) 0 rfl dX7_areConjugates_88 rfl ?_
      refine jo_getf (pc := 89) ok_7_9 (ik_80 hw) gw_400 dX7_areConjugates_89 (fun v15 => ?_)
      refine jo_iadd (pc := 92) dX7_areConjugates_92 ?_
      refine jo_aload_n (pc := 93) 0 rfl dX7_areConjugates_93 rfl ?_
      refine jo_getf (pc := 94) ok_7_10 (ik_80 hw) gw_401 dX7_areConjugates_94 (fun v16 => ?_)
      refine jo_aload_n (pc := 97) 0 rfl dX7_areConjugates_97 rfl ?_
      refine jo_getrE (pc := 98) ok_7_6 (ik_80 hw) rf_80_6 gw_397 dX7_areConjugates_98 ?_
      refine jo_cV_V_i (pc := 101) (μ' := mu_X7_copyGaps) (fx := f_X7_copyGaps σ13 (v14 + v15) v16 102) (As := [.int (v14 + v15), .int v16, .ref (adr w 102)]) (c_X7_copyGaps hw (ik_102 hw)) (ok_X7_copyGaps) (ltb rfl) (all3 gw_1198 gw_1200 gw_55) (ik_80 hw) (by decide) (q := (RX7, TX7, 11)) rfl rfl rfl rfl (Nat.le_of_ble_eq_true rfl) dX7_areConjugates_101 (fun σ17 => ?_)
      refine jo_aload_n (pc := 104) 0 rfl dX7_areConjugates_104 rfl ?_
      refine jo_aload_n (pc := 105) 2 rfl dX7_areConjugates_105 rfl ?_
      refine jo_aload_n (pc := 106) 2 rfl dX7_areConjugates_106 rfl ?_
      refine jo_cV_V_i (pc := 107) (μ' := mu_X7_findGaps) (fx := f_X7_findGaps σ17 x1 x1) (As := [.ref (adr w x1), .ref (adr w x1)]) (c_X7_findGaps hw (hx1) (hx1)) (ok_X7_findGaps) (ltb rfl) (all3 gw_905 gw_907 gw_18) (ik_80 hw) (by decide) (q := (RX7, TX7, 11)) rfl rfl rfl rfl (Nat.le_of_ble_eq_true rfl) dX7_areConjugates_107 (fun σ18 => ?_)
      refine jo_aload_n (pc := 110) 0 rfl dX7_areConjugates_110 rfl ?_
      refine jo_cV_V_i (pc := 111) (μ' := mu_X7_findShifts) (fx := f_X7_findShifts σ18) (As := []) (c_X7_findShifts hw) (ok_X7_findShifts) (ltb rfl) (all3 gw_1209 gw_1211 gw_57) (ik_80 hw) (by decide) (q := (RX7, TX7, 11)) rfl rfl rfl rfl (Nat.le_of_ble_eq_true rfl) dX7_areConjugates_111 (fun σ19 => ?_)
      refine jo_aload_n (pc := 114) 0 rfl dX7_areConjugates_114 rfl ?_
      refine jo_getrE (pc := 115) ok_7_2 (ik_80 hw) rf_80_2 gw_393 dX7_areConjugates_115 ?_
      refine jo_aload_n (pc := 118) 0 rfl dX7_areConjugates_118 rfl ?_
      refine jo_getrE (pc := 119) ok_7_6 (ik_80 hw) rf_80_6 gw_397 dX7_areConjugates_119 ?_
      refine jo_cV_Z_i (pc := 122) (μ' := mu_X3_reduce) (fx := f_X3_reduce σ19 90 102) (As := [.ref (adr w 102)]) (c_X3_reduce hw (ik_90 hw) (ik_102 hw)) (ok_X3_reduce) (ltb rfl) (all3 gw_1208 gw_1169 gw_1170) (ik_90 hw) (by decide) (q := (RX3, TX3, 3)) rfl rfl rfl rfl (Nat.le_of_ble_eq_true rfl) dX7_areConjugates_122 (fun b20 σ21 => ?_)
      exact jo_breturn (pc := 125) (b := b20) rfl rfl dX7_areConjugates_125
    · refine jo_iconst (pc := 81) dX7_areConjugates_81 (ic_i_0) ?_
      exact jo_breturn (pc := 82) (b := false) rfl rfl dX7_areConjugates_82
  · refine jo_iconst (pc := 68) dX7_areConjugates_68 (ic_i_0) ?_
    exact jo_breturn (pc := 69) (b := false) rfl rfl dX7_areConjugates_69
theorem c_X7_areConjugates {w : Wd} (hw : WOK w) {σ : Mem} {x0 : Nat} {x1 : Nat} (hx0 : isk w x0 13) (hx1 : isk w x1 13) : ∀ r σ', f_X7_areConjugates σ x0 x1 = some (r, σ') → MC w mu_X7_areConjugates (vB r) [.ref (adr w 80), .ref (adr w x0), .ref (adr w x1)] σ σ' := mc_of ok_X7_areConjugates rfl (Nat.le_of_ble_eq_true rfl) (t_X7_areConjugates hw hx0 hx1)
abbrev mu_X8_clearRegisters : MD := (yX8_clearRegisters, cX8_clearRegisters, 2, none, 1)
theorem ok_X8_clearRegisters : MOK mu_X8_clearRegisters 0 := ⟨gw_713, gw_159, (by decide +kernel : plainFor yX8_clearRegisters = true), ⟨(by decide +kernel : yX8_clearRegisters.cls ≠ "java/lang/invoke/MethodHandle"), (by decide +kernel : yX8_clearRegisters.cls ≠ "java/lang/invoke/VarHandle"), (by decide +kernel : (parseMethodDescriptor yX8_clearRegisters.desc).map (fun d => d.parameters.length) = some 0)⟩, Nat.le_of_ble_eq_true rfl⟩
noncomputable def l_X8_clearRegisters_2 (a : Nat) (σ1 : Mem) (i2 : Int32) : Option ((Mem × Int32) ⊕ Mem) :=
  if 10 ≤ i2 then (some (Sum.inr σ1)) else (gR (rf a 1) i2 (fun (p3 : Nat) => (f_J7_fill_d0a16 σ1 p3 0).bind (fun (σ4 : Mem) => some (Sum.inl (σ4, i2 + 1)))))
noncomputable def f_X8_clearRegisters (σ : Mem) (a : Nat) : Option Mem :=
  loopO (fun (z2 : (Mem × Int32)) => l_X8_clearRegisters_2 a z2.1 z2.2) (σ, 0)
theorem t_X8_clearRegisters {w : Wd} (hw : WOK w) {σ : Mem} {a : Nat} (ha : isk w a 8) : JO w mu_X8_clearRegisters vV σ [(0, .ref (adr w a))] [] 0 (f_X8_clearRegisters σ a) (fun z => some ((), z)) := by
  unfold f_X8_clearRegisters
  refine jo_iconst (pc := 0) dX8_clearRegisters_0 (ic_i_0) ?_
  refine jo_istore_n (pc := 1) (lv' := [(1, .int 0), (0, .ref (adr w a))]) dX8_clearRegisters_1 rfl (ltb rfl) rfl ?_
  refine jo_lv (lv' := [(0, .ref (adr w a)), (1, .int 0)]) [1, 0] rfl ?_
  refine jo_loop (X := Mem) (fun (z2 : (Mem × Int32)) => z2.1) (fun (z2 : (Mem × Int32)) => [(0, .ref (adr w a)), (1, .int z2.2)]) (body := (fun (z2 : (Mem × Int32)) => l_X8_clearRegisters_2 a z2.1 z2.2)) (fun F2_2 hF2_2 s => ?_) (σ, 0)
  obtain ⟨σ1, i2⟩ := s
  show JO w mu_X8_clearRegisters vV σ1 [(0, .ref (adr w a)), (1, .int i2)] [] 2 (l_X8_clearRegisters_2 a σ1 i2) _
  unfold l_X8_clearRegisters_2
  refine jo_iload_n (pc := 2) 1 rfl dX8_clearRegisters_2 rfl ?_
  refine jo_bipush (pc := 3) dX8_clearRegisters_3 (ic_b_10) ?_
  refine jo_icmp_ge (pc := 5) dX8_clearRegisters_5 (tgt := 24) rfl ?_ ?_
  · exact jo_return (pc := 24) rfl rfl dX8_clearRegisters_24
  · refine jo_aload_n (pc := 8) 0 rfl dX8_clearRegisters_8 rfl ?_
    refine jo_getr (pc := 9) ok_8_1 (ha) gw_220 dX8_clearRegisters_9 ?_
    refine jo_iload_n (pc := 12) 1 rfl dX8_clearRegisters_12 rfl ?_
    refine jo_aaldG (pc := 13) (z := 13) hw (wf_8_1 hw (ha)) (by decide) (t := 4) rfl rfl (by decide) dX8_clearRegisters_13 (fun p3 hp3 => ?_)
    refine jo_lconst (pc := 14) dX8_clearRegisters_14 (ic_l_0) ?_
    refine jo_cS_V_i (pc := 15) (μ' := mu_J7_fill_d0a16) (fx := f_J7_fill_d0a16 σ1 p3 0) (As := [.ref (adr w p3), .long 0]) (c_J7_fill_d0a16 hw (hp3)) (ok_J7_fill_d0a16) (ltb rfl) (all2 gw_714 gw_715) rfl rfl (Nat.le_of_ble_eq_true rfl) dX8_clearRegisters_15 (fun σ4 => ?_)
    refine jo_iinc (pc := 18) (lv' := [(1, .int (i2 + 1)), (0, .ref (adr w a))]) 1 rfl dX8_clearRegisters_18 (congrArg (fun z => i2 + z) (ic_i_1)) (ltb rfl) rfl ?_
    refine jo_goto (pc := 21) dX8_clearRegisters_21 (tgt := 2) rfl ?_
    refine jo_lv (lv' := [(0, .ref (adr w a)), (1, .int (i2 + 1))]) [1, 0] rfl ?_
    exact jo_leaf (by rfl) (hF2_2 (σ4, i2 + 1))
theorem c_X8_clearRegisters {w : Wd} (hw : WOK w) {σ : Mem} {a : Nat} (ha : isk w a 8) : ∀ σ', f_X8_clearRegisters σ a = some σ' → MC w mu_X8_clearRegisters none [.ref (adr w a)] σ σ' := mc_ofV ok_X8_clearRegisters rfl (Nat.le_of_ble_eq_true rfl) (t_X8_clearRegisters hw ha)
abbrev mu_X8_takeActed : MD := (yX8_takeActed, cX8_takeActed, 3, none, 2)
theorem ok_X8_takeActed : MOK mu_X8_takeActed 1 := ⟨gw_701, gw_159, (by decide +kernel : plainFor yX8_takeActed = true), ⟨(by decide +kernel : yX8_takeActed.cls ≠ "java/lang/invoke/MethodHandle"), (by decide +kernel : yX8_takeActed.cls ≠ "java/lang/invoke/VarHandle"), (by decide +kernel : (parseMethodDescriptor yX8_takeActed.desc).map (fun d => d.parameters.length) = some 1)⟩, Nat.le_of_ble_eq_true rfl⟩
noncomputable def l_X8_takeActed_13 (a : Nat) (x0 : Nat) (σ2 : Mem) (i3 : Int32) : Option ((Mem × Int32) ⊕ Mem) :=
  if 10 ≤ i3 then (some (Sum.inr σ2)) else (gR (rf x0 1) i3 (fun (p4 : Nat) => gR (rf a 1) i3 (fun (p5 : Nat) => (f_X0_copy σ2 p4 p5).bind (fun (σ6 : Mem) => some (Sum.inl (σ6, i3 + 1))))))
noncomputable def f_X8_takeActed (σ : Mem) (a : Nat) (x0 : Nat) : Option Mem :=
  (f_X6_takeAll σ (rf a 0) (rf x0 0)).bind (fun (σ1 : Mem) => loopO (fun (z3 : (Mem × Int32)) => l_X8_takeActed_13 a x0 z3.1 z3.2) (σ1, 0))
theorem t_X8_takeActed {w : Wd} (hw : WOK w) {σ : Mem} {a : Nat} {x0 : Nat} (ha : isk w a 8) (hx0 : isk w x0 8) : JO w mu_X8_takeActed vV σ [(0, .ref (adr w a)), (1, .ref (adr w x0))] [] 0 (f_X8_takeActed σ a x0) (fun z => some ((), z)) := by
  unfold f_X8_takeActed
  refine jo_aload_n (pc := 0) 0 rfl dX8_takeActed_0 rfl ?_
  refine jo_getr (pc := 1) ok_8_0 (ha) gw_217 dX8_takeActed_1 ?_
  refine jo_aload_n (pc := 4) 1 rfl dX8_takeActed_4 rfl ?_
  refine jo_getr (pc := 5) ok_8_0 (hx0) gw_217 dX8_takeActed_5 ?_
  refine jo_cV_V_i (pc := 8) (μ' := mu_X6_takeAll) (fx := f_X6_takeAll σ (rf a 0) (rf x0 0)) (As := [.ref (adr w (rf x0 0))]) (c_X6_takeAll hw (wf_8_0 hw (ha)) (wf_8_0 hw (hx0))) (ok_X6_takeAll) (ltb rfl) (all3 gw_702 gw_542 gw_543) (wf_8_0 hw (ha)) (by decide) (q := (RX6, TX6, 3)) rfl rfl rfl rfl (Nat.le_of_ble_eq_true rfl) dX8_takeActed_8 (fun σ1 => ?_)
  refine jo_iconst (pc := 11) dX8_takeActed_11 (ic_i_0) ?_
  refine jo_istore_n (pc := 12) (lv' := [(2, .int 0), (0, .ref (adr w a)), (1, .ref (adr w x0))]) dX8_takeActed_12 rfl (ltb rfl) rfl ?_
  refine jo_lv (lv' := [(0, .ref (adr w a)), (1, .ref (adr w x0)), (2, .int 0)]) [1, 2, 0] rfl ?_
  refine jo_loop (X := Mem) (fun (z3 : (Mem × Int32)) => z3.1) (fun (z3 : (Mem × Int32)) => [(0, .ref (adr w a)), (1, .ref (adr w x0)), (2, .int z3.2)]) (body := (fun (z3 : (Mem × Int32)) => l_X8_takeActed_13 a x0 z3.1 z3.2)) (fun F13_3 hF13_3 s => ?_) (σ1, 0)
  obtain ⟨σ2, i3⟩ := s
  show JO w mu_X8_takeActed vV σ2 [(0, .ref (adr w a)), (1, .ref (adr w x0)), (2, .int i3)] [] 13 (l_X8_takeActed_13 a x0 σ2 i3) _
  unfold l_X8_takeActed_13
  refine jo_iload_n (pc := 13) 2 rfl dX8_takeActed_13 rfl ?_
  refine jo_bipush (pc := 14) dX8_takeActed_14 (ic_b_10) ?_
  refine jo_icmp_ge (pc := 16) dX8_takeActed_16 (tgt := 40) rfl ?_ ?_
  · exact jo_return (pc := 40) rfl rfl dX8_takeActed_40
  · refine jo_aload_n (pc := 19) 1 rfl dX8_takeActed_19 rfl ?_
    refine jo_getr (pc := 20) ok_8_1 (hx0) gw_220 dX8_takeActed_20 ?_
    refine jo_iload_n (pc := 23) 2 rfl dX8_takeActed_23 rfl ?_
    refine jo_aaldG (pc := 24) (z := 13) hw (wf_8_1 hw (hx0)) (by decide) (t := 4) rfl rfl (by decide) dX8_takeActed_24 (fun p4 hp4 => ?_)
    refine jo_aload_n (pc := 25) 0 rfl dX8_takeActed_25 rfl ?_
    refine jo_getr (pc := 26) ok_8_1 (ha) gw_220 dX8_takeActed_26 ?_
    refine jo_iload_n (pc := 29) 2 rfl dX8_takeActed_29 rfl ?_
    refine jo_aaldG (pc := 30) (z := 13) hw (wf_8_1 hw (ha)) (by decide) (t := 4) rfl rfl (by decide) dX8_takeActed_30 (fun p5 hp5 => ?_)
    refine jo_cS_V_i (pc := 31) (μ' := mu_X0_copy) (fx := f_X0_copy σ2 p4 p5) (As := [.ref (adr w p4), .ref (adr w p5)]) (c_X0_copy hw (hp4) (hp5)) (ok_X0_copy) (ltb rfl) (all2 gw_703 gw_704) rfl rfl (Nat.le_of_ble_eq_true rfl) dX8_takeActed_31 (fun σ6 => ?_)
    refine jo_iinc (pc := 34) (lv' := [(2, .int (i3 + 1)), (0, .ref (adr w a)), (1, .ref (adr w x0))]) 2 rfl dX8_takeActed_34 (congrArg (fun z => i3 + z) (ic_i_1)) (ltb rfl) rfl ?_
    refine jo_goto (pc := 37) dX8_takeActed_37 (tgt := 13) rfl ?_
    refine jo_lv (lv' := [(0, .ref (adr w a)), (1, .ref (adr w x0)), (2, .int (i3 + 1))]) [1, 2, 0] rfl ?_
    exact jo_leaf (by rfl) (hF13_3 (σ6, i3 + 1))
theorem c_X8_takeActed {w : Wd} (hw : WOK w) {σ : Mem} {a : Nat} {x0 : Nat} (ha : isk w a 8) (hx0 : isk w x0 8) : ∀ σ', f_X8_takeActed σ a x0 = some σ' → MC w mu_X8_takeActed none [.ref (adr w a), .ref (adr w x0)] σ σ' := mc_ofV ok_X8_takeActed rfl (Nat.le_of_ble_eq_true rfl) (t_X8_takeActed hw ha hx0)
abbrev mu_X8_takeAll : MD := (yX8_takeAll, cX8_takeAll, 2, none, 3)
theorem ok_X8_takeAll : MOK mu_X8_takeAll 1 := ⟨gw_1251, gw_159, (by decide +kernel : plainFor yX8_takeAll = true), ⟨(by decide +kernel : yX8_takeAll.cls ≠ "java/lang/invoke/MethodHandle"), (by decide +kernel : yX8_takeAll.cls ≠ "java/lang/invoke/VarHandle"), (by decide +kernel : (parseMethodDescriptor yX8_takeAll.desc).map (fun d => d.parameters.length) = some 1)⟩, Nat.le_of_ble_eq_true rfl⟩
noncomputable def f_X8_takeAll (σ : Mem) (a : Nat) (x0 : Nat) : Option Mem :=
  (f_X8_takeActed σ a x0).bind (fun (σ1 : Mem) => cI σ1 (rf x0 2) 0 (rf a 2) 0 (Int32.ofNat (ln (rf a 2))) (fun (σ2 : Mem) => some σ2))
theorem t_X8_takeAll {w : Wd} (hw : WOK w) {σ : Mem} {a : Nat} {x0 : Nat} (ha : isk w a 8) (hx0 : isk w x0 8) : JO w mu_X8_takeAll vV σ [(0, .ref (adr w a)), (1, .ref (adr w x0))] [] 0 (f_X8_takeAll σ a x0) (fun z => some ((), z)) := by
  unfold f_X8_takeAll
  refine jo_aload_n (pc := 0) 0 rfl dX8_takeAll_0 rfl ?_
  refine jo_aload_n (pc := 1) 1 rfl dX8_takeAll_1 rfl ?_
  refine jo_cV_V_i (pc := 2) (μ' := mu_X8_takeActed) (fx := f_X8_takeActed σ a x0) (As := [.ref (adr w x0)]) (c_X8_takeActed hw (ha) (hx0)) (ok_X8_takeActed) (ltb rfl) (all3 gw_1252 gw_699 gw_700) (ha) (by decide) (q := (RX8, TX8, 3)) rfl rfl rfl rfl (Nat.le_of_ble_eq_true rfl) dX8_takeAll_2 (fun σ1 => ?_)
  refine jo_aload_n (pc := 5) 1 rfl dX8_takeAll_5 rfl ?_
  refine jo_getr (pc := 6) ok_8_2 (hx0) gw_223 dX8_takeAll_6 ?_
  refine jo_iconst (pc := 9) dX8_takeAll_9 (ic_i_0) ?_
  refine jo_aload_n (pc := 10) 0 rfl dX8_takeAll_10 rfl ?_
  refine jo_getr (pc := 11) ok_8_2 (ha) gw_223 dX8_takeAll_11 ?_
  refine jo_iconst (pc := 14) dX8_takeAll_14 (ic_i_0) ?_
  refine jo_aload_n (pc := 15) 0 rfl dX8_takeAll_15 rfl ?_
  refine jo_getr (pc := 16) ok_8_2 (ha) gw_223 dX8_takeAll_16 ?_
  refine jo_alenI (pc := 19) (wf_8_2 hw (ha)) (by decide) (t := 0) rfl dX8_takeAll_19 ?_
  refine jo_acI (pc := 20) (wf_8_2 hw (hx0)) (wf_8_2 hw (ha)) (all4 gw_1253 gw_547 gw_546 gw_170) (ltb rfl) (Nat.le_of_ble_eq_true rfl) dX8_takeAll_20 (fun σ2 => ?_)
  exact jo_return (pc := 23) rfl rfl dX8_takeAll_23
theorem c_X8_takeAll {w : Wd} (hw : WOK w) {σ : Mem} {a : Nat} {x0 : Nat} (ha : isk w a 8) (hx0 : isk w x0 8) : ∀ σ', f_X8_takeAll σ a x0 = some σ' → MC w mu_X8_takeAll none [.ref (adr w a), .ref (adr w x0)] σ σ' := mc_ofV ok_X8_takeAll rfl (Nat.le_of_ble_eq_true rfl) (t_X8_takeAll hw ha hx0)
abbrev mu_X9_greatestDegree : MD := (yX9_greatestDegree, cX9_greatestDegree, 5, some .int, 1)
theorem ok_X9_greatestDegree : MOK mu_X9_greatestDegree 0 := ⟨gw_782, gw_163, (by decide +kernel : plainFor yX9_greatestDegree = true), ⟨(by decide +kernel : yX9_greatestDegree.cls ≠ "java/lang/invoke/MethodHandle"), (by decide +kernel : yX9_greatestDegree.cls ≠ "java/lang/invoke/VarHandle"), (by decide +kernel : (parseMethodDescriptor yX9_greatestDegree.desc).map (fun d => d.parameters.length) = some 0)⟩, Nat.le_of_ble_eq_true rfl⟩
noncomputable def j_X9_greatestDegree_44 (σ : Mem) (i1 : Int32) (i2 : Int32) (i4 : Int32) : Option ((Int32 × Int32) ⊕ Int32) :=
  (f_J9_max_7cf53 σ i1 i4).bind (fun (v5 : Int32) => some (Sum.inl (v5, i2 + 1)))
noncomputable def l_X9_greatestDegree_17 (σ : Mem) (a : Nat) (i2 : Int32) (i6 : Int32) (i7 : Int32) : Option ((Int32 × Int32) ⊕ Int32) :=
  if 12 ≤ i7 then (some (Sum.inr i6)) else (gI σ (rf a 1) i2 (fun (v8 : Int32) => (f_X10_degree σ v8 i7).bind (fun (v9 : Int32) => bd (i6 + v9) (fun (v10 : Int32) => some (Sum.inl (v10, i7 + 1))))))
noncomputable def l_X9_greatestDegree_4 (σ : Mem) (a : Nat) (i1 : Int32) (i2 : Int32) : Option ((Int32 × Int32) ⊕ Int32) :=
  gF σ a 0 (fun (v3 : Int32) => if v3 ≤ i2 then (some (Sum.inr i1)) else ((loopO (fun (z7 : (Int32 × Int32)) => l_X9_greatestDegree_17 σ a i2 z7.1 z7.2) (0, 0) : Option Int32).bind (fun (z4 : Int32) => j_X9_greatestDegree_44 σ i1 i2 z4)))
noncomputable def f_X9_greatestDegree (σ : Mem) (a : Nat) : Option Int32 :=
  loopO (fun (z2 : (Int32 × Int32)) => l_X9_greatestDegree_4 σ a z2.1 z2.2) (0, 0)
theorem t_X9_greatestDegree {w : Wd} (hw : WOK w) {σ : Mem} {a : Nat} (ha : isk w a 9) : JO w mu_X9_greatestDegree vI σ [(0, .ref (adr w a))] [] 0 (f_X9_greatestDegree σ a) (fun z => some (z, σ)) := by
  unfold f_X9_greatestDegree
  refine jo_iconst (pc := 0) dX9_greatestDegree_0 (ic_i_0) ?_
  refine jo_istore_n (pc := 1) (lv' := [(1, .int 0), (0, .ref (adr w a))]) dX9_greatestDegree_1 rfl (ltb rfl) rfl ?_
  refine jo_iconst (pc := 2) dX9_greatestDegree_2 (ic_i_0) ?_
  refine jo_istore_n (pc := 3) (lv' := [(2, .int 0), (1, .int 0), (0, .ref (adr w a))]) dX9_greatestDegree_3 rfl (ltb rfl) rfl ?_
  refine jo_lv (lv' := [(0, .ref (adr w a)), (1, .int 0), (2, .int 0)]) [2, 1, 0] rfl ?_
  refine jo_loop (X := Int32) (fun (z2 : (Int32 × Int32)) => σ) (fun (z2 : (Int32 × Int32)) => [(0, .ref (adr w a)), (1, .int z2.1), (2, .int z2.2)]) (body := (fun (z2 : (Int32 × Int32)) => l_X9_greatestDegree_4 σ a z2.1 z2.2)) (fun F4_2 hF4_2 s => ?_) (0, 0)
  obtain ⟨i1, i2⟩ := s
  show JO w mu_X9_greatestDegree vI σ [(0, .ref (adr w a)), (1, .int i1), (2, .int i2)] [] 4 (l_X9_greatestDegree_4 σ a i1 i2) _
  unfold l_X9_greatestDegree_4
  refine jo_iload_n (pc := 4) 2 rfl dX9_greatestDegree_4 rfl ?_
  refine jo_aload_n (pc := 5) 0 rfl dX9_greatestDegree_5 rfl ?_
  refine jo_getf (pc := 6) ok_9_0 (ha) gw_279 dX9_greatestDegree_6 (fun v3 => ?_)
  refine jo_icmp_ge (pc := 9) dX9_greatestDegree_9 (tgt := 56) rfl ?_ ?_
  · refine jo_iload_n (pc := 56) 1 rfl dX9_greatestDegree_56 rfl ?_
    exact jo_ireturn (pc := 57) rfl rfl dX9_greatestDegree_57
  · refine jo_iconst (pc := 12) dX9_greatestDegree_12 (ic_i_0) ?_
    refine jo_istore_n (pc := 13) (lv' := [(3, .int 0), (0, .ref (adr w a)), (1, .int i1), (2, .int i2)]) dX9_greatestDegree_13 rfl (ltb rfl) rfl ?_
    refine jo_iconst (pc := 14) dX9_greatestDegree_14 (ic_i_0) ?_
    refine jo_istore (pc := 15) (lv' := [(4, .int 0), (3, .int 0), (0, .ref (adr w a)), (1, .int i1), (2, .int i2)]) dX9_greatestDegree_15 (ltb rfl) rfl ?_
    refine jo_join1 (S := Int32) (fun (z4 : Int32) => σ) (fun (z4 : Int32) => [(0, .ref (adr w a)), (1, .int i1), (2, .int i2), (3, .int z4)]) (fun (z4 : Int32) => []) 44 ?_ (fun h44_4 => ?_)
    · intro i4
      show JO w mu_X9_greatestDegree vI σ [(0, .ref (adr w a)), (1, .int i1), (2, .int i2), (3, .int i4)] [] 44 (j_X9_greatestDegree_44 σ i1 i2 i4) _
      unfold j_X9_greatestDegree_44
      refine jo_iload_n (pc := 44) 1 rfl dX9_greatestDegree_44 rfl ?_
      refine jo_iload_n (pc := 45) 3 rfl dX9_greatestDegree_45 rfl ?_
      refine jo_cS_I_p (pc := 46) (μ' := mu_J9_max_7cf53) (fx := f_J9_max_7cf53 σ i1 i4) (As := [.int i1, .int i4]) (c_J9_max_7cf53 hw) (ok_J9_max_7cf53) (ltb rfl) (all2 gw_783 gw_752) rfl rfl (Nat.le_of_ble_eq_true rfl) dX9_greatestDegree_46 (fun v5 => ?_)
      refine jo_istore_n (pc := 49) (lv' := [(1, .int v5), (0, .ref (adr w a)), (2, .int i2), (3, .int i4)]) dX9_greatestDegree_49 rfl (ltb rfl) rfl ?_
      refine jo_iinc (pc := 50) (lv' := [(2, .int (i2 + 1)), (1, .int v5), (0, .ref (adr w a)), (3, .int i4)]) 2 rfl dX9_greatestDegree_50 (congrArg (fun z => i2 + z) (ic_i_1)) (ltb rfl) rfl ?_
      refine jo_goto (pc := 53) dX9_greatestDegree_53 (tgt := 4) rfl ?_
      refine jo_lv (lv' := [(0, .ref (adr w a)), (1, .int v5), (2, .int (i2 + 1))]) [2, 1, 0] rfl ?_
      exact jo_leaf (by rfl) (hF4_2 (v5, i2 + 1))
    · refine jo_lv (lv' := [(0, .ref (adr w a)), (1, .int i1), (2, .int i2), (3, .int 0), (4, .int 0)]) [2, 3, 4, 1, 0] rfl ?_
      refine jo_loop (X := Int32) (fun (z7 : (Int32 × Int32)) => σ) (fun (z7 : (Int32 × Int32)) => [(0, .ref (adr w a)), (1, .int i1), (2, .int i2), (3, .int z7.1), (4, .int z7.2)]) (body := (fun (z7 : (Int32 × Int32)) => l_X9_greatestDegree_17 σ a i2 z7.1 z7.2)) (fun F17_7 hF17_7 s => ?_) (0, 0)
      obtain ⟨i6, i7⟩ := s
      show JO w mu_X9_greatestDegree vI σ [(0, .ref (adr w a)), (1, .int i1), (2, .int i2), (3, .int i6), (4, .int i7)] [] 17 (l_X9_greatestDegree_17 σ a i2 i6 i7) _
      unfold l_X9_greatestDegree_17
      refine jo_iload (pc := 17) 4 rfl dX9_greatestDegree_17 ?_
      refine jo_bipush (pc := 19) dX9_greatestDegree_19 (ic_b_12) ?_
      refine jo_icmp_ge (pc := 21) dX9_greatestDegree_21 (tgt := 44) rfl ?_ ?_
      · refine jo_lv (lv' := [(0, .ref (adr w a)), (1, .int i1), (2, .int i2), (3, .int i6)]) [0, 1, 2, 3] rfl ?_
        exact jo_leaf (by rfl) (h44_4 i6)
      · refine jo_iload_n (pc := 24) 3 rfl dX9_greatestDegree_24 rfl ?_
        refine jo_aload_n (pc := 25) 0 rfl dX9_greatestDegree_25 rfl ?_
        refine jo_getr (pc := 26) ok_9_1 (ha) gw_283 dX9_greatestDegree_26 ?_
        refine jo_iload_n (pc := 29) 2 rfl dX9_greatestDegree_29 rfl ?_
        refine jo_iald (pc := 30) (wf_9_1 hw (ha)) dX9_greatestDegree_30 (fun v8 => ?_)
        refine jo_iload (pc := 31) 4 rfl dX9_greatestDegree_31 ?_
        refine jo_cSN_I_p (pc := 33) (μ' := mu_X10_degree) (fx := f_X10_degree σ v8 i7) (As := [.int v8, .int i7]) (c_X10_degree hw) (ok_X10_degree) (ltb rfl) (host := "HallRegisters") (by decide +kernel) gw_629 rfl rfl (Nat.le_of_ble_eq_true rfl) dX9_greatestDegree_33 (fun v9 => ?_)
        refine jo_iadd (pc := 36) dX9_greatestDegree_36 ?_
        refine jo_bd ?_
        refine jo_istore_n (pc := 37) (lv' := [(3, .int (i6 + v9)), (0, .ref (adr w a)), (1, .int i1), (2, .int i2), (4, .int i7)]) dX9_greatestDegree_37 rfl (ltb rfl) rfl ?_
        generalize (i6 + v9) = v10
        refine jo_iinc (pc := 38) (lv' := [(4, .int (i7 + 1)), (3, .int v10), (0, .ref (adr w a)), (1, .int i1), (2, .int i2)]) 4 rfl dX9_greatestDegree_38 (congrArg (fun z => i7 + z) (ic_i_1)) (ltb rfl) rfl ?_
        refine jo_goto (pc := 41) dX9_greatestDegree_41 (tgt := 17) rfl ?_
        refine jo_lv (lv' := [(0, .ref (adr w a)), (1, .int i1), (2, .int i2), (3, .int v10), (4, .int (i7 + 1))]) [2, 3, 4, 1, 0] rfl ?_
        exact jo_leaf (by rfl) (hF17_7 (v10, i7 + 1))
theorem c_X9_greatestDegree {w : Wd} (hw : WOK w) {σ : Mem} {a : Nat} (ha : isk w a 9) : ∀ r, f_X9_greatestDegree σ a = some r → MC w mu_X9_greatestDegree (vI r) [.ref (adr w a)] σ σ := mc_ofP ok_X9_greatestDegree rfl (Nat.le_of_ble_eq_true rfl) (t_X9_greatestDegree hw ha)
abbrev mu_X9_greatestWeight : MD := (yX9_greatestWeight, cX9_greatestWeight, 6, some .int, 1)
theorem ok_X9_greatestWeight : MOK mu_X9_greatestWeight 1 := ⟨gw_787, gw_163, (by decide +kernel : plainFor yX9_greatestWeight = true), ⟨(by decide +kernel : yX9_greatestWeight.cls ≠ "java/lang/invoke/MethodHandle"), (by decide +kernel : yX9_greatestWeight.cls ≠ "java/lang/invoke/VarHandle"), (by decide +kernel : (parseMethodDescriptor yX9_greatestWeight.desc).map (fun d => d.parameters.length) = some 1)⟩, Nat.le_of_ble_eq_true rfl⟩
noncomputable def j_X9_greatestWeight_58 (σ : Mem) (i1 : Int32) (i2 : Int32) (i4 : Int32) : Option ((Int32 × Int32) ⊕ Int32) :=
  (f_J9_max_7cf53 σ i1 i4).bind (fun (v5 : Int32) => some (Sum.inl (v5, i2 + 1)))
noncomputable def l_X9_greatestWeight_18 (σ : Mem) (a : Nat) (x0 : Nat) (i2 : Int32) (i6 : Int32) (i7 : Int32) : Option ((Int32 × Int32) ⊕ Int32) :=
  if 12 ≤ i7 then (some (Sum.inr i6)) else (gI σ (rf a 1) i2 (fun (v8 : Int32) => (f_X10_degree σ v8 i7).bind (fun (v9 : Int32) => nzI 6 (gI σ (rf x0 1) (i7 - i7 / 6 * 6) (fun (v10 : Int32) => bd (i6 + (v9 * v10)) (fun (v11 : Int32) => some (Sum.inl (v11, i7 + 1))))))))
noncomputable def l_X9_greatestWeight_4 (σ : Mem) (a : Nat) (x0 : Nat) (i1 : Int32) (i2 : Int32) : Option ((Int32 × Int32) ⊕ Int32) :=
  gF σ a 0 (fun (v3 : Int32) => if v3 ≤ i2 then (some (Sum.inr i1)) else ((loopO (fun (z7 : (Int32 × Int32)) => l_X9_greatestWeight_18 σ a x0 i2 z7.1 z7.2) (0, 0) : Option Int32).bind (fun (z4 : Int32) => j_X9_greatestWeight_58 σ i1 i2 z4)))
noncomputable def f_X9_greatestWeight (σ : Mem) (a : Nat) (x0 : Nat) : Option Int32 :=
  loopO (fun (z2 : (Int32 × Int32)) => l_X9_greatestWeight_4 σ a x0 z2.1 z2.2) (0, 0)
theorem t_X9_greatestWeight {w : Wd} (hw : WOK w) {σ : Mem} {a : Nat} {x0 : Nat} (ha : isk w a 9) (hx0 : isk w x0 6) : JO w mu_X9_greatestWeight vI σ [(0, .ref (adr w a)), (1, .ref (adr w x0))] [] 0 (f_X9_greatestWeight σ a x0) (fun z => some (z, σ)) := by
  unfold f_X9_greatestWeight
  refine jo_iconst (pc := 0) dX9_greatestWeight_0 (ic_i_0) ?_
  refine jo_istore_n (pc := 1) (lv' := [(2, .int 0), (0, .ref (adr w a)), (1, .ref (adr w x0))]) dX9_greatestWeight_1 rfl (ltb rfl) rfl ?_
  refine jo_iconst (pc := 2) dX9_greatestWeight_2 (ic_i_0) ?_
  refine jo_istore_n (pc := 3) (lv' := [(3, .int 0), (2, .int 0), (0, .ref (adr w a)), (1, .ref (adr w x0))]) dX9_greatestWeight_3 rfl (ltb rfl) rfl ?_
  refine jo_lv (lv' := [(0, .ref (adr w a)), (1, .ref (adr w x0)), (2, .int 0), (3, .int 0)]) [2, 3, 1, 0] rfl ?_
  refine jo_loop (X := Int32) (fun (z2 : (Int32 × Int32)) => σ) (fun (z2 : (Int32 × Int32)) => [(0, .ref (adr w a)), (1, .ref (adr w x0)), (2, .int z2.1), (3, .int z2.2)]) (body := (fun (z2 : (Int32 × Int32)) => l_X9_greatestWeight_4 σ a x0 z2.1 z2.2)) (fun F4_2 hF4_2 s => ?_) (0, 0)
  obtain ⟨i1, i2⟩ := s
  show JO w mu_X9_greatestWeight vI σ [(0, .ref (adr w a)), (1, .ref (adr w x0)), (2, .int i1), (3, .int i2)] [] 4 (l_X9_greatestWeight_4 σ a x0 i1 i2) _
  unfold l_X9_greatestWeight_4
  refine jo_iload_n (pc := 4) 3 rfl dX9_greatestWeight_4 rfl ?_
  refine jo_aload_n (pc := 5) 0 rfl dX9_greatestWeight_5 rfl ?_
  refine jo_getf (pc := 6) ok_9_0 (ha) gw_279 dX9_greatestWeight_6 (fun v3 => ?_)
  refine jo_icmp_ge (pc := 9) dX9_greatestWeight_9 (tgt := 71) rfl ?_ ?_
  · refine jo_iload_n (pc := 71) 2 rfl dX9_greatestWeight_71 rfl ?_
    exact jo_ireturn (pc := 72) rfl rfl dX9_greatestWeight_72
  · refine jo_iconst (pc := 12) dX9_greatestWeight_12 (ic_i_0) ?_
    refine jo_istore (pc := 13) (lv' := [(4, .int 0), (0, .ref (adr w a)), (1, .ref (adr w x0)), (2, .int i1), (3, .int i2)]) dX9_greatestWeight_13 (ltb rfl) rfl ?_
    refine jo_iconst (pc := 15) dX9_greatestWeight_15 (ic_i_0) ?_
    refine jo_istore (pc := 16) (lv' := [(5, .int 0), (4, .int 0), (0, .ref (adr w a)), (1, .ref (adr w x0)), (2, .int i1), (3, .int i2)]) dX9_greatestWeight_16 (ltb rfl) rfl ?_
    refine jo_join1 (S := Int32) (fun (z4 : Int32) => σ) (fun (z4 : Int32) => [(0, .ref (adr w a)), (1, .ref (adr w x0)), (2, .int i1), (3, .int i2), (4, .int z4)]) (fun (z4 : Int32) => []) 58 ?_ (fun h58_4 => ?_)
    · intro i4
      show JO w mu_X9_greatestWeight vI σ [(0, .ref (adr w a)), (1, .ref (adr w x0)), (2, .int i1), (3, .int i2), (4, .int i4)] [] 58 (j_X9_greatestWeight_58 σ i1 i2 i4) _
      unfold j_X9_greatestWeight_58
      refine jo_iload_n (pc := 58) 2 rfl dX9_greatestWeight_58 rfl ?_
      refine jo_iload (pc := 59) 4 rfl dX9_greatestWeight_59 ?_
      refine jo_cS_I_p (pc := 61) (μ' := mu_J9_max_7cf53) (fx := f_J9_max_7cf53 σ i1 i4) (As := [.int i1, .int i4]) (c_J9_max_7cf53 hw) (ok_J9_max_7cf53) (ltb rfl) (all2 gw_783 gw_752) rfl rfl (Nat.le_of_ble_eq_true rfl) dX9_greatestWeight_61 (fun v5 => ?_)
      refine jo_istore_n (pc := 64) (lv' := [(2, .int v5), (0, .ref (adr w a)), (1, .ref (adr w x0)), (3, .int i2), (4, .int i4)]) dX9_greatestWeight_64 rfl (ltb rfl) rfl ?_
      refine jo_iinc (pc := 65) (lv' := [(3, .int (i2 + 1)), (2, .int v5), (0, .ref (adr w a)), (1, .ref (adr w x0)), (4, .int i4)]) 3 rfl dX9_greatestWeight_65 (congrArg (fun z => i2 + z) (ic_i_1)) (ltb rfl) rfl ?_
      refine jo_goto (pc := 68) dX9_greatestWeight_68 (tgt := 4) rfl ?_
      refine jo_lv (lv' := [(0, .ref (adr w a)), (1, .ref (adr w x0)), (2, .int v5), (3, .int (i2 + 1))]) [2, 3, 1, 0] rfl ?_
      exact jo_leaf (by rfl) (hF4_2 (v5, i2 + 1))
    · refine jo_lv (lv' := [(0, .ref (adr w a)), (1, .ref (adr w x0)), (2, .int i1), (3, .int i2), (4, .int 0), (5, .int 0)]) [2, 3, 4, 5, 1, 0] rfl ?_
      refine jo_loop (X := Int32) (fun (z7 : (Int32 × Int32)) => σ) (fun (z7 : (Int32 × Int32)) => [(0, .ref (adr w a)), (1, .ref (adr w x0)), (2, .int i1), (3, .int i2), (4, .int z7.1), (5, .int z7.2)]) (body := (fun (z7 : (Int32 × Int32)) => l_X9_greatestWeight_18 σ a x0 i2 z7.1 z7.2)) (fun F18_7 hF18_7 s => ?_) (0, 0)
      obtain ⟨i6, i7⟩ := s
      show JO w mu_X9_greatestWeight vI σ [(0, .ref (adr w a)), (1, .ref (adr w x0)), (2, .int i1), (3, .int i2), (4, .int i6), (5, .int i7)] [] 18 (l_X9_greatestWeight_18 σ a x0 i2 i6 i7) _
      unfold l_X9_greatestWeight_18
      refine jo_iload (pc := 18) 5 rfl dX9_greatestWeight_18 ?_
      refine jo_bipush (pc := 20) dX9_greatestWeight_20 (ic_b_12) ?_
      refine jo_icmp_ge (pc := 22) dX9_greatestWeight_22 (tgt := 58) rfl ?_ ?_
      · refine jo_lv (lv' := [(0, .ref (adr w a)), (1, .ref (adr w x0)), (2, .int i1), (3, .int i2), (4, .int i6)]) [0, 1, 2, 3, 4] rfl ?_
        exact jo_leaf (by rfl) (h58_4 i6)
      · refine jo_iload (pc := 25) 4 rfl dX9_greatestWeight_25 ?_
        refine jo_aload_n (pc := 27) 0 rfl dX9_greatestWeight_27 rfl ?_
        refine jo_getr (pc := 28) ok_9_1 (ha) gw_283 dX9_greatestWeight_28 ?_
        refine jo_iload_n (pc := 31) 3 rfl dX9_greatestWeight_31 rfl ?_
        refine jo_iald (pc := 32) (wf_9_1 hw (ha)) dX9_greatestWeight_32 (fun v8 => ?_)
        refine jo_iload (pc := 33) 5 rfl dX9_greatestWeight_33 ?_
        refine jo_cSN_I_p (pc := 35) (μ' := mu_X10_degree) (fx := f_X10_degree σ v8 i7) (As := [.int v8, .int i7]) (c_X10_degree hw) (ok_X10_degree) (ltb rfl) (host := "HallRegisters") (by decide +kernel) gw_629 rfl rfl (Nat.le_of_ble_eq_true rfl) dX9_greatestWeight_35 (fun v9 => ?_)
        refine jo_aload_n (pc := 38) 1 rfl dX9_greatestWeight_38 rfl ?_
        refine jo_getr (pc := 39) ok_6_1 (hx0) gw_204 dX9_greatestWeight_39 ?_
        refine jo_iload (pc := 42) 5 rfl dX9_greatestWeight_42 ?_
        refine jo_bipush (pc := 44) dX9_greatestWeight_44 (ic_b_6) ?_
        refine jo_irem (pc := 46) dX9_greatestWeight_46 ?_
        refine jo_iald (pc := 47) (wf_6_1 hw (hx0)) dX9_greatestWeight_47 (fun v10 => ?_)
        refine jo_imul (pc := 48) dX9_greatestWeight_48 ?_
        refine jo_iadd (pc := 49) dX9_greatestWeight_49 ?_
        refine jo_bd ?_
        refine jo_istore (pc := 50) (lv' := [(4, .int (i6 + (v9 * v10))), (0, .ref (adr w a)), (1, .ref (adr w x0)), (2, .int i1), (3, .int i2), (5, .int i7)]) dX9_greatestWeight_50 (ltb rfl) rfl ?_
        generalize (i6 + (v9 * v10)) = v11
        refine jo_iinc (pc := 52) (lv' := [(5, .int (i7 + 1)), (4, .int v11), (0, .ref (adr w a)), (1, .ref (adr w x0)), (2, .int i1), (3, .int i2)]) 5 rfl dX9_greatestWeight_52 (congrArg (fun z => i7 + z) (ic_i_1)) (ltb rfl) rfl ?_
        refine jo_goto (pc := 55) dX9_greatestWeight_55 (tgt := 18) rfl ?_
        refine jo_lv (lv' := [(0, .ref (adr w a)), (1, .ref (adr w x0)), (2, .int i1), (3, .int i2), (4, .int v11), (5, .int (i7 + 1))]) [2, 3, 4, 5, 1, 0] rfl ?_
        exact jo_leaf (by rfl) (hF18_7 (v11, i7 + 1))
theorem c_X9_greatestWeight {w : Wd} (hw : WOK w) {σ : Mem} {a : Nat} {x0 : Nat} (ha : isk w a 9) (hx0 : isk w x0 6) : ∀ r, f_X9_greatestWeight σ a x0 = some r → MC w mu_X9_greatestWeight (vI r) [.ref (adr w a), .ref (adr w x0)] σ σ := mc_ofP ok_X9_greatestWeight rfl (Nat.le_of_ble_eq_true rfl) (t_X9_greatestWeight hw ha hx0)
abbrev mu_X9_hasBoth : MD := (yX9_hasBoth, cX9_hasBoth, 2, some .boolean, 1)
theorem ok_X9_hasBoth : MOK mu_X9_hasBoth 1 := ⟨gw_794, gw_163, (by decide +kernel : plainFor yX9_hasBoth = true), ⟨(by decide +kernel : yX9_hasBoth.cls ≠ "java/lang/invoke/MethodHandle"), (by decide +kernel : yX9_hasBoth.cls ≠ "java/lang/invoke/VarHandle"), (by decide +kernel : (parseMethodDescriptor yX9_hasBoth.desc).map (fun d => d.parameters.length) = some 1)⟩, Nat.le_of_ble_eq_true rfl⟩
noncomputable def j_X9_hasBoth_29 (i1 : Int32) : Option (Int32 ⊕ Bool) :=
  some (Sum.inl (i1 + 1))
noncomputable def l_X9_hasBoth_2 (σ : Mem) (x0 : Int32) (i1 : Int32) : Option (Int32 ⊕ Bool) :=
  if 6 ≤ i1 then (some (Sum.inr false)) else ((f_X10_degree σ x0 i1).bind (fun (v2 : Int32) => (if v2 ≤ 0 then (some (Sum.inl ())) else ((f_X10_degree σ x0 (6 + i1)).bind (fun (v3 : Int32) => if v3 ≤ 0 then (some (Sum.inl ())) else (some (Sum.inr (Sum.inr true))))) : Option (Unit ⊕ (Int32 ⊕ Bool))).bind (Sum.elim (fun (z2 : Unit) => j_X9_hasBoth_29 i1) some)))
noncomputable def f_X9_hasBoth (σ : Mem) (x0 : Int32) : Option Bool :=
  loopO (fun (z1 : Int32) => l_X9_hasBoth_2 σ x0 z1) 0
theorem t_X9_hasBoth {w : Wd} (hw : WOK w) {σ : Mem} {x0 : Int32} : JO w mu_X9_hasBoth vB σ [(0, .int x0)] [] 0 (f_X9_hasBoth σ x0) (fun z => some (z, σ)) := by
  unfold f_X9_hasBoth
  refine jo_iconst (pc := 0) dX9_hasBoth_0 (ic_i_0) ?_
  refine jo_istore_n (pc := 1) (lv' := [(1, .int 0), (0, .int x0)]) dX9_hasBoth_1 rfl (ltb rfl) rfl ?_
  refine jo_lv (lv' := [(0, .int x0), (1, .int 0)]) [1, 0] rfl ?_
  refine jo_loop (X := Bool) (fun (z1 : Int32) => σ) (fun (z1 : Int32) => [(0, .int x0), (1, .int z1)]) (body := (fun (z1 : Int32) => l_X9_hasBoth_2 σ x0 z1)) (fun F2_1 hF2_1 s => ?_) 0
  revert s; intro i1
  show JO w mu_X9_hasBoth vB σ [(0, .int x0), (1, .int i1)] [] 2 (l_X9_hasBoth_2 σ x0 i1) _
  unfold l_X9_hasBoth_2
  refine jo_iload_n (pc := 2) 1 rfl dX9_hasBoth_2 rfl ?_
  refine jo_bipush (pc := 3) dX9_hasBoth_3 (ic_b_6) ?_
  refine jo_icmp_ge (pc := 5) dX9_hasBoth_5 (tgt := 35) rfl ?_ ?_
  · refine jo_iconst (pc := 35) dX9_hasBoth_35 (ic_i_0) ?_
    exact jo_breturn (pc := 36) (b := false) rfl rfl dX9_hasBoth_36
  · refine jo_iload_n (pc := 8) 0 rfl dX9_hasBoth_8 rfl ?_
    refine jo_iload_n (pc := 9) 1 rfl dX9_hasBoth_9 rfl ?_
    refine jo_cSN_I_p (pc := 10) (μ' := mu_X10_degree) (fx := f_X10_degree σ x0 i1) (As := [.int x0, .int i1]) (c_X10_degree hw) (ok_X10_degree) (ltb rfl) (host := "HallRegisters") (by decide +kernel) gw_629 rfl rfl (Nat.le_of_ble_eq_true rfl) dX9_hasBoth_10 (fun v2 => ?_)
    refine jo_joinS (S := Unit) (fun (z2 : Unit) => σ) (fun (z2 : Unit) => [(0, .int x0), (1, .int i1)]) (fun (z2 : Unit) => []) 29 ?_ (fun h29_2 => ?_)
    · intro _
      show JO w mu_X9_hasBoth vB σ [(0, .int x0), (1, .int i1)] [] 29 (j_X9_hasBoth_29 i1) _
      unfold j_X9_hasBoth_29
      refine jo_iinc (pc := 29) (lv' := [(1, .int (i1 + 1)), (0, .int x0)]) 1 rfl dX9_hasBoth_29 (congrArg (fun z => i1 + z) (ic_i_1)) (ltb rfl) rfl ?_
      refine jo_goto (pc := 32) dX9_hasBoth_32 (tgt := 2) rfl ?_
      refine jo_lv (lv' := [(0, .int x0), (1, .int (i1 + 1))]) [1, 0] rfl ?_
      exact jo_leaf (by rfl) (hF2_1 (i1 + 1))
    · refine jo_if_le (pc := 13) dX9_hasBoth_13 (tgt := 29) rfl ?_ ?_
      · exact jo_leaf (by rfl) (h29_2 ())
      · refine jo_iload_n (pc := 16) 0 rfl dX9_hasBoth_16 rfl ?_
        refine jo_bipush (pc := 17) dX9_hasBoth_17 (ic_b_6) ?_
        refine jo_iload_n (pc := 19) 1 rfl dX9_hasBoth_19 rfl ?_
        refine jo_iadd (pc := 20) dX9_hasBoth_20 ?_
        refine jo_cSN_I_p (pc := 21) (μ' := mu_X10_degree) (fx := f_X10_degree σ x0 (6 + i1)) (As := [.int x0, .int (6 + i1)]) (c_X10_degree hw) (ok_X10_degree) (ltb rfl) (host := "HallRegisters") (by decide +kernel) gw_629 rfl rfl (Nat.le_of_ble_eq_true rfl) dX9_hasBoth_21 (fun v3 => ?_)
        refine jo_if_le (pc := 24) dX9_hasBoth_24 (tgt := 29) rfl ?_ ?_
        · exact jo_leaf (by rfl) (h29_2 ())
        · refine jo_iconst (pc := 27) dX9_hasBoth_27 (ic_i_1) ?_
          exact jo_breturn (pc := 28) (b := true) rfl rfl dX9_hasBoth_28
theorem c_X9_hasBoth {w : Wd} (hw : WOK w) {σ : Mem} {x0 : Int32} : ∀ r, f_X9_hasBoth σ x0 = some r → MC w mu_X9_hasBoth (vB r) [.int x0] σ σ := mc_ofP ok_X9_hasBoth rfl (Nat.le_of_ble_eq_true rfl) (t_X9_hasBoth hw)
abbrev mu_X9_termsInBothRows : MD := (yX9_termsInBothRows, cX9_termsInBothRows, 3, some .int, 2)
theorem ok_X9_termsInBothRows : MOK mu_X9_termsInBothRows 0 := ⟨gw_791, gw_163, (by decide +kernel : plainFor yX9_termsInBothRows = true), ⟨(by decide +kernel : yX9_termsInBothRows.cls ≠ "java/lang/invoke/MethodHandle"), (by decide +kernel : yX9_termsInBothRows.cls ≠ "java/lang/invoke/VarHandle"), (by decide +kernel : (parseMethodDescriptor yX9_termsInBothRows.desc).map (fun d => d.parameters.length) = some 0)⟩, Nat.le_of_ble_eq_true rfl⟩
noncomputable def j_X9_termsInBothRows_30 (i1 : Int32) (i2 : Int32) (b6 : Bool) : Option ((Int32 × Int32) ⊕ Int32) :=
  bd (i1 + (b2i b6)) (fun (v7 : Int32) => some (Sum.inl (v7, i2 + 1)))
noncomputable def l_X9_termsInBothRows_4 (σ : Mem) (a : Nat) (i1 : Int32) (i2 : Int32) : Option ((Int32 × Int32) ⊕ Int32) :=
  gF σ a 0 (fun (v3 : Int32) => if v3 ≤ i2 then (some (Sum.inr i1)) else (gI σ (rf a 1) i2 (fun (v4 : Int32) => (f_X9_hasBoth σ v4).bind (fun (b5 : Bool) => (if b5 then some true else some false : Option Bool).bind (fun (z6 : Bool) => j_X9_termsInBothRows_30 i1 i2 z6)))))
noncomputable def f_X9_termsInBothRows (σ : Mem) (a : Nat) : Option Int32 :=
  loopO (fun (z2 : (Int32 × Int32)) => l_X9_termsInBothRows_4 σ a z2.1 z2.2) (0, 0)
theorem t_X9_termsInBothRows {w : Wd} (hw : WOK w) {σ : Mem} {a : Nat} (ha : isk w a 9) : JO w mu_X9_termsInBothRows vI σ [(0, .ref (adr w a))] [] 0 (f_X9_termsInBothRows σ a) (fun z => some (z, σ)) := by
  unfold f_X9_termsInBothRows
  refine jo_iconst (pc := 0) dX9_termsInBothRows_0 (ic_i_0) ?_
  refine jo_istore_n (pc := 1) (lv' := [(1, .int 0), (0, .ref (adr w a))]) dX9_termsInBothRows_1 rfl (ltb rfl) rfl ?_
  refine jo_iconst (pc := 2) dX9_termsInBothRows_2 (ic_i_0) ?_
  refine jo_istore_n (pc := 3) (lv' := [(2, .int 0), (1, .int 0), (0, .ref (adr w a))]) dX9_termsInBothRows_3 rfl (ltb rfl) rfl ?_
  refine jo_lv (lv' := [(0, .ref (adr w a)), (1, .int 0), (2, .int 0)]) [2, 1, 0] rfl ?_
  refine jo_loop (X := Int32) (fun (z2 : (Int32 × Int32)) => σ) (fun (z2 : (Int32 × Int32)) => [(0, .ref (adr w a)), (1, .int z2.1), (2, .int z2.2)]) (body := (fun (z2 : (Int32 × Int32)) => l_X9_termsInBothRows_4 σ a z2.1 z2.2)) (fun F4_2 hF4_2 s => ?_) (0, 0)
  obtain ⟨i1, i2⟩ := s
  show JO w mu_X9_termsInBothRows vI σ [(0, .ref (adr w a)), (1, .int i1), (2, .int i2)] [] 4 (l_X9_termsInBothRows_4 σ a i1 i2) _
  unfold l_X9_termsInBothRows_4
  refine jo_iload_n (pc := 4) 2 rfl dX9_termsInBothRows_4 rfl ?_
  refine jo_aload_n (pc := 5) 0 rfl dX9_termsInBothRows_5 rfl ?_
  refine jo_getf (pc := 6) ok_9_0 (ha) gw_279 dX9_termsInBothRows_6 (fun v3 => ?_)
  refine jo_icmp_ge (pc := 9) dX9_termsInBothRows_9 (tgt := 38) rfl ?_ ?_
  · refine jo_iload_n (pc := 38) 1 rfl dX9_termsInBothRows_38 rfl ?_
    exact jo_ireturn (pc := 39) rfl rfl dX9_termsInBothRows_39
  · refine jo_iload_n (pc := 12) 1 rfl dX9_termsInBothRows_12 rfl ?_
    refine jo_aload_n (pc := 13) 0 rfl dX9_termsInBothRows_13 rfl ?_
    refine jo_getr (pc := 14) ok_9_1 (ha) gw_283 dX9_termsInBothRows_14 ?_
    refine jo_iload_n (pc := 17) 2 rfl dX9_termsInBothRows_17 rfl ?_
    refine jo_iald (pc := 18) (wf_9_1 hw (ha)) dX9_termsInBothRows_18 (fun v4 => ?_)
    refine jo_cS_Z_p (pc := 19) (μ' := mu_X9_hasBoth) (fx := f_X9_hasBoth σ v4) (As := [.int v4]) (c_X9_hasBoth hw) (ok_X9_hasBoth) (ltb rfl) (all2 gw_792 gw_793) rfl rfl (Nat.le_of_ble_eq_true rfl) dX9_termsInBothRows_19 (fun b5 => ?_)
    refine jo_join1 (S := Bool) (fun (z6 : Bool) => σ) (fun (z6 : Bool) => [(0, .ref (adr w a)), (2, .int i2)]) (fun (z6 : Bool) => [.int (b2i z6), .int i1]) 30 ?_ (fun h30_6 => ?_)
    · intro b6
      show JO w mu_X9_termsInBothRows vI σ [(0, .ref (adr w a)), (2, .int i2)] [.int (b2i b6), .int i1] 30 (j_X9_termsInBothRows_30 i1 i2 b6) _
      unfold j_X9_termsInBothRows_30
      refine jo_iadd (pc := 30) dX9_termsInBothRows_30 ?_
      refine jo_bd ?_
      refine jo_istore_n (pc := 31) (lv' := [(1, .int (i1 + (b2i b6))), (0, .ref (adr w a)), (2, .int i2)]) dX9_termsInBothRows_31 rfl (ltb rfl) rfl ?_
      generalize (i1 + (b2i b6)) = v7
      refine jo_iinc (pc := 32) (lv' := [(2, .int (i2 + 1)), (1, .int v7), (0, .ref (adr w a))]) 2 rfl dX9_termsInBothRows_32 (congrArg (fun z => i2 + z) (ic_i_1)) (ltb rfl) rfl ?_
      refine jo_goto (pc := 35) dX9_termsInBothRows_35 (tgt := 4) rfl ?_
      refine jo_lv (lv' := [(0, .ref (adr w a)), (1, .int v7), (2, .int (i2 + 1))]) [2, 1, 0] rfl ?_
      exact jo_leaf (by rfl) (hF4_2 (v7, i2 + 1))
    · refine jo_ifz_eq (pc := 22) dX9_termsInBothRows_22 (tgt := 29) rfl ?_ ?_
      · refine jo_iconst (pc := 29) dX9_termsInBothRows_29 (ic_i_0) ?_
        refine jo_lv (lv' := [(0, .ref (adr w a)), (2, .int i2)]) [0, 2] rfl ?_
        exact jo_leaf (by rfl) (h30_6 false)
      · refine jo_iconst (pc := 25) dX9_termsInBothRows_25 (ic_i_1) ?_
        refine jo_goto (pc := 26) dX9_termsInBothRows_26 (tgt := 30) rfl ?_
        refine jo_lv (lv' := [(0, .ref (adr w a)), (2, .int i2)]) [0, 2] rfl ?_
        exact jo_leaf (by rfl) (h30_6 true)
theorem c_X9_termsInBothRows {w : Wd} (hw : WOK w) {σ : Mem} {a : Nat} (ha : isk w a 9) : ∀ r, f_X9_termsInBothRows σ a = some r → MC w mu_X9_termsInBothRows (vI r) [.ref (adr w a)] σ σ := mc_ofP ok_X9_termsInBothRows rfl (Nat.le_of_ble_eq_true rfl) (t_X9_termsInBothRows hw ha)
end
section
abbrev mu_X9_sumOfNumbers : MD := (yX9_sumOfNumbers, cX9_sumOfNumbers, 4, some .long, 0)
theorem ok_X9_sumOfNumbers : MOK mu_X9_sumOfNumbers 0 := ⟨gw_798, gw_163, (by decide +kernel : plainFor yX9_sumOfNumbers = true), ⟨(by decide +kernel : yX9_sumOfNumbers.cls ≠ "java/lang/invoke/MethodHandle"), (by decide +kernel : yX9_sumOfNumbers.cls ≠ "java/lang/invoke/VarHandle"), (by decide +kernel : (parseMethodDescriptor yX9_sumOfNumbers.desc).map (fun d => d.parameters.length) = some 0)⟩, Nat.le_of_ble_eq_true rfl⟩
noncomputable def l_X9_sumOfNumbers_4 (σ : Mem) (a : Nat) (l1 : Int64) (i2 : Int32) : Option ((Int64 × Int32) ⊕ Int64) :=
  gF σ a 0 (fun (v3 : Int32) => if v3 ≤ i2 then (some (Sum.inr l1)) else (gL σ (rf a 2) i2 (fun (v4 : Int64) => bd (l1 + v4) (fun (v5 : Int64) => some (Sum.inl (v5, i2 + 1))))))
noncomputable def f_X9_sumOfNumbers (σ : Mem) (a : Nat) : Option Int64 :=
  loopO (fun (z2 : (Int64 × Int32)) => l_X9_sumOfNumbers_4 σ a z2.1 z2.2) (0, 0)
theorem t_X9_sumOfNumbers {w : Wd} (hw : WOK w) {σ : Mem} {a : Nat} (ha : isk w a 9) : JO w mu_X9_sumOfNumbers vL σ [(0, .ref (adr w a))] [] 0 (f_X9_sumOfNumbers σ a) (fun z => some (z, σ)) := by
  unfold f_X9_sumOfNumbers
  refine jo_lconst (pc := 0) dX9_sumOfNumbers_0 (ic_l_0) ?_
  refine jo_lstore_n (pc := 1) (lv' := [(1, .long 0), (0, .ref (adr w a))]) dX9_sumOfNumbers_1 rfl (ltb rfl) rfl ?_
  refine jo_iconst (pc := 2) dX9_sumOfNumbers_2 (ic_i_0) ?_
  refine jo_istore_n (pc := 3) (lv' := [(3, .int 0), (1, .long 0), (0, .ref (adr w a))]) dX9_sumOfNumbers_3 rfl (ltb rfl) rfl ?_
  refine jo_lv (lv' := [(0, .ref (adr w a)), (1, .long 0), (3, .int 0)]) [2, 1, 0] rfl ?_
  refine jo_loop (X := Int64) (fun (z2 : (Int64 × Int32)) => σ) (fun (z2 : (Int64 × Int32)) => [(0, .ref (adr w a)), (1, .long z2.1), (3, .int z2.2)]) (body := (fun (z2 : (Int64 × Int32)) => l_X9_sumOfNumbers_4 σ a z2.1 z2.2)) (fun F4_2 hF4_2 s => ?_) (0, 0)
  obtain ⟨l1, i2⟩ := s
  show JO w mu_X9_sumOfNumbers vL σ [(0, .ref (adr w a)), (1, .long l1), (3, .int i2)] [] 4 (l_X9_sumOfNumbers_4 σ a l1 i2) _
  unfold l_X9_sumOfNumbers_4
  refine jo_iload_n (pc := 4) 2 rfl dX9_sumOfNumbers_4 rfl ?_
  refine jo_aload_n (pc := 5) 0 rfl dX9_sumOfNumbers_5 rfl ?_
  refine jo_getf (pc := 6) ok_9_0 (ha) gw_279 dX9_sumOfNumbers_6 (fun v3 => ?_)
  refine jo_icmp_ge (pc := 9) dX9_sumOfNumbers_9 (tgt := 27) rfl ?_ ?_
  · refine jo_lload_n (pc := 27) 1 rfl dX9_sumOfNumbers_27 rfl ?_
    exact jo_lreturn (pc := 28) rfl rfl dX9_sumOfNumbers_28
  · refine jo_lload_n (pc := 12) 1 rfl dX9_sumOfNumbers_12 rfl ?_
    refine jo_aload_n (pc := 13) 0 rfl dX9_sumOfNumbers_13 rfl ?_
    refine jo_getr (pc := 14) ok_9_2 (ha) gw_286 dX9_sumOfNumbers_14 ?_
    refine jo_iload_n (pc := 17) 2 rfl dX9_sumOfNumbers_17 rfl ?_
    refine jo_lald (pc := 18) (wf_9_2 hw (ha)) dX9_sumOfNumbers_18 (fun v4 => ?_)
    refine jo_ladd (pc := 19) dX9_sumOfNumbers_19 ?_
    refine jo_bd ?_
    refine jo_lstore_n (pc := 20) (lv' := [(1, .long (l1 + v4)), (0, .ref (adr w a)), (3, .int i2)]) dX9_sumOfNumbers_20 rfl (ltb rfl) rfl ?_
    generalize (l1 + v4) = v5
    refine jo_iinc (pc := 21) (lv' := [(3, .int (i2 + 1)), (1, .long v5), (0, .ref (adr w a))]) 2 rfl dX9_sumOfNumbers_21 (congrArg (fun z => i2 + z) (ic_i_1)) (ltb rfl) rfl ?_
    refine jo_goto (pc := 24) dX9_sumOfNumbers_24 (tgt := 4) rfl ?_
    refine jo_lv (lv' := [(0, .ref (adr w a)), (1, .long v5), (3, .int (i2 + 1))]) [2, 1, 0] rfl ?_
    exact jo_leaf (by rfl) (hF4_2 (v5, i2 + 1))
theorem c_X9_sumOfNumbers {w : Wd} (hw : WOK w) {σ : Mem} {a : Nat} (ha : isk w a 9) : ∀ r, f_X9_sumOfNumbers σ a = some r → MC w mu_X9_sumOfNumbers (vL r) [.ref (adr w a)] σ σ := mc_ofP ok_X9_sumOfNumbers rfl (Nat.le_of_ble_eq_true rfl) (t_X9_sumOfNumbers hw ha)
abbrev mu_X10_beginAct : MD := (yX10_beginAct, cX10_beginAct, 1, none, 3)
theorem ok_X10_beginAct : MOK mu_X10_beginAct 0 := ⟨gw_697, gw_158, (by decide +kernel : plainFor yX10_beginAct = true), ⟨(by decide +kernel : yX10_beginAct.cls ≠ "java/lang/invoke/MethodHandle"), (by decide +kernel : yX10_beginAct.cls ≠ "java/lang/invoke/VarHandle"), (by decide +kernel : (parseMethodDescriptor yX10_beginAct.desc).map (fun d => d.parameters.length) = some 0)⟩, Nat.le_of_ble_eq_true rfl⟩
noncomputable def f_X10_beginAct (σ : Mem) : Option Mem :=
  gF σ 0 5 (fun (v1 : Int32) => gR 33 v1 (fun (p2 : Nat) => (f_X8_takeActed σ p2 1).bind (fun (σ3 : Mem) => gF σ3 0 5 (fun (v4 : Int32) => nzI 8 (pF σ3 0 5 ((v4 + 1) - (v4 + 1) / 8 * 8) (fun (σ5 : Mem) => gF σ5 0 4 (fun (v6 : Int32) => (f_J9_min_7cf53 σ5 (v6 + 1) 8).bind (fun (v7 : Int32) => pF σ5 0 4 v7 (fun (σ8 : Mem) => some σ8)))))))))
theorem t_X10_beginAct {w : Wd} (hw : WOK w) {σ : Mem} : JO w mu_X10_beginAct vV σ [(0, .ref (adr w 0))] [] 0 (f_X10_beginAct σ) (fun z => some ((), z)) := by
  unfold f_X10_beginAct
  refine jo_aload_n (pc := 0) 0 rfl dX10_beginAct_0 rfl ?_
  refine jo_getrE (pc := 1) ok_10_3 (ik_0 hw) rf_0_3 gw_634 dX10_beginAct_1 ?_
  refine jo_aload_n (pc := 4) 0 rfl dX10_beginAct_4 rfl ?_
  refine jo_getf (pc := 5) ok_10_5 (ik_0 hw) gw_636 dX10_beginAct_5 (fun v1 => ?_)
  refine jo_aaldG (pc := 8) (z := 8) hw (ik_33 hw) (by decide) (t := 2) rfl rfl (by decide) dX10_beginAct_8 (fun p2 hp2 => ?_)
  refine jo_aload_n (pc := 9) 0 rfl dX10_beginAct_9 rfl ?_
  refine jo_getrE (pc := 10) ok_10_0 (ik_0 hw) rf_0_0 gw_631 dX10_beginAct_10 ?_
  refine jo_cV_V_i (pc := 13) (μ' := mu_X8_takeActed) (fx := f_X8_takeActed σ p2 1) (As := [.ref (adr w 1)]) (c_X8_takeActed hw (hp2) (ik_1 hw)) (ok_X8_takeActed) (ltb rfl) (all3 gw_698 gw_699 gw_700) (hp2) (by decide) (q := (RX8, TX8, 3)) rfl rfl rfl rfl (Nat.le_of_ble_eq_true rfl) dX10_beginAct_13 (fun σ3 => ?_)
  refine jo_aload_n (pc := 16) 0 rfl dX10_beginAct_16 rfl ?_
  refine jo_aload_n (pc := 17) 0 rfl dX10_beginAct_17 rfl ?_
  refine jo_getf (pc := 18) ok_10_5 (ik_0 hw) gw_636 dX10_beginAct_18 (fun v4 => ?_)
  refine jo_iconst (pc := 21) dX10_beginAct_21 (ic_i_1) ?_
  refine jo_iadd (pc := 22) dX10_beginAct_22 ?_
  refine jo_bipush (pc := 23) dX10_beginAct_23 (ic_b_8) ?_
  refine jo_irem (pc := 25) dX10_beginAct_25 ?_
  refine jo_putf (pc := 26) ok_10_5 okp_10_5 (ik_0 hw) gw_636 dX10_beginAct_26 (fun σ5 => ?_)
  refine jo_aload_n (pc := 29) 0 rfl dX10_beginAct_29 rfl ?_
  refine jo_aload_n (pc := 30) 0 rfl dX10_beginAct_30 rfl ?_
  refine jo_getf (pc := 31) ok_10_4 (ik_0 hw) gw_635 dX10_beginAct_31 (fun v6 => ?_)
  refine jo_iconst (pc := 34) dX10_beginAct_34 (ic_i_1) ?_
  refine jo_iadd (pc := 35) dX10_beginAct_35 ?_
  refine jo_bipush (pc := 36) dX10_beginAct_36 (ic_b_8) ?_
  refine jo_cS_I_p (pc := 38) (μ' := mu_J9_min_7cf53) (fx := f_J9_min_7cf53 σ5 (v6 + 1) 8) (As := [.int (v6 + 1), .int 8]) (c_J9_min_7cf53 hw) (ok_J9_min_7cf53) (ltb rfl) (all2 gw_707 gw_708) rfl rfl (Nat.le_of_ble_eq_true rfl) dX10_beginAct_38 (fun v7 => ?_)
  refine jo_putf (pc := 41) ok_10_4 okp_10_4 (ik_0 hw) gw_635 dX10_beginAct_41 (fun σ8 => ?_)
  exact jo_return (pc := 44) rfl rfl dX10_beginAct_44
theorem c_X10_beginAct {w : Wd} (hw : WOK w) {σ : Mem} : ∀ σ', f_X10_beginAct σ = some σ' → MC w mu_X10_beginAct none [.ref (adr w 0)] σ σ' := mc_ofV ok_X10_beginAct rfl (Nat.le_of_ble_eq_true rfl) (t_X10_beginAct hw)
abbrev mu_X10_beginGroupAct : MD := (yX10_beginGroupAct, cX10_beginGroupAct, 1, none, 4)
theorem ok_X10_beginGroupAct : MOK mu_X10_beginGroupAct 0 := ⟨gw_693, gw_158, (by decide +kernel : plainFor yX10_beginGroupAct = true), ⟨(by decide +kernel : yX10_beginGroupAct.cls ≠ "java/lang/invoke/MethodHandle"), (by decide +kernel : yX10_beginGroupAct.cls ≠ "java/lang/invoke/VarHandle"), (by decide +kernel : (parseMethodDescriptor yX10_beginGroupAct.desc).map (fun d => d.parameters.length) = some 0)⟩, Nat.le_of_ble_eq_true rfl⟩
noncomputable def f_X10_beginGroupAct (σ : Mem) : Option Mem :=
  (f_X10_beginAct σ).bind (fun (σ1 : Mem) => (f_X8_clearRegisters σ1 1).bind (fun (σ2 : Mem) => some σ2))
theorem t_X10_beginGroupAct {w : Wd} (hw : WOK w) {σ : Mem} : JO w mu_X10_beginGroupAct vV σ [(0, .ref (adr w 0))] [] 0 (f_X10_beginGroupAct σ) (fun z => some ((), z)) := by
  unfold f_X10_beginGroupAct
  refine jo_aload_n (pc := 0) 0 rfl dX10_beginGroupAct_0 rfl ?_
  refine jo_cV_V_i (pc := 1) (μ' := mu_X10_beginAct) (fx := f_X10_beginAct σ) (As := []) (c_X10_beginAct hw) (ok_X10_beginAct) (ltb rfl) (all3 gw_694 gw_696 gw_10) (ik_0 hw) (by decide) (q := (RX10, TX10, 17)) rfl rfl rfl rfl (Nat.le_of_ble_eq_true rfl) dX10_beginGroupAct_1 (fun σ1 => ?_)
  refine jo_aload_n (pc := 4) 0 rfl dX10_beginGroupAct_4 rfl ?_
  refine jo_getrE (pc := 5) ok_10_0 (ik_0 hw) rf_0_0 gw_631 dX10_beginGroupAct_5 ?_
  refine jo_cV_V_i (pc := 8) (μ' := mu_X8_clearRegisters) (fx := f_X8_clearRegisters σ1 1) (As := []) (c_X8_clearRegisters hw (ik_1 hw)) (ok_X8_clearRegisters) (ltb rfl) (all3 gw_710 gw_711 gw_712) (ik_1 hw) (by decide) (q := (RX8, TX8, 3)) rfl rfl rfl rfl (Nat.le_of_ble_eq_true rfl) dX10_beginGroupAct_8 (fun σ2 => ?_)
  exact jo_return (pc := 11) rfl rfl dX10_beginGroupAct_11
theorem c_X10_beginGroupAct {w : Wd} (hw : WOK w) {σ : Mem} : ∀ σ', f_X10_beginGroupAct σ = some σ' → MC w mu_X10_beginGroupAct none [.ref (adr w 0)] σ σ' := mc_ofV ok_X10_beginGroupAct rfl (Nat.le_of_ble_eq_true rfl) (t_X10_beginGroupAct hw)
abbrev mu_X10_group : MD := (yX10_group, cX10_group, 3, some .boolean, 7)
theorem ok_X10_group : MOK mu_X10_group 2 := ⟨gw_686, gw_158, (by decide +kernel : plainFor yX10_group = true), ⟨(by decide +kernel : yX10_group.cls ≠ "java/lang/invoke/MethodHandle"), (by decide +kernel : yX10_group.cls ≠ "java/lang/invoke/VarHandle"), (by decide +kernel : (parseMethodDescriptor yX10_group.desc).map (fun d => d.parameters.length) = some 2)⟩, Nat.le_of_ble_eq_true rfl⟩
noncomputable def f_X10_group (σ : Mem) (x0 : Int32) (x1 : Int32) : Option (Bool × Mem) :=
  (f_X6_areWeights σ x0 x1).bind (fun (b1 : Bool) => if b1 then (f_X10_beginGroupAct σ).bind (fun (σ2 : Mem) => (f_X6_reset σ2 2 x0 x1).bind (fun (σ3 : Mem) => (f_X4_follow σ3 2).bind (fun (σ4 : Mem) => some (true, σ4)))) else some (false, σ))
theorem t_X10_group {w : Wd} (hw : WOK w) {σ : Mem} {x0 : Int32} {x1 : Int32} : JO w mu_X10_group vB σ [(0, .ref (adr w 0)), (1, .int x0), (2, .int x1)] [] 0 (f_X10_group σ x0 x1) some := by
  unfold f_X10_group
  refine jo_iload_n (pc := 0) 1 rfl dX10_group_0 rfl ?_
  refine jo_iload_n (pc := 1) 2 rfl dX10_group_1 rfl ?_
  refine jo_cS_Z_p (pc := 2) (μ' := mu_X6_areWeights) (fx := f_X6_areWeights σ x0 x1) (As := [.int x0, .int x1]) (c_X6_areWeights hw) (ok_X6_areWeights) (ltb rfl) (all2 gw_687 gw_688) rfl rfl (Nat.le_of_ble_eq_true rfl) dX10_group_2 (fun b1 => ?_)
  refine jo_ifz_ne (pc := 5) dX10_group_5 (tgt := 10) rfl ?_ ?_
  · refine jo_aload_n (pc := 10) 0 rfl dX10_group_10 rfl ?_
    refine jo_cV_V_i (pc := 11) (μ' := mu_X10_beginGroupAct) (fx := f_X10_beginGroupAct σ) (As := []) (c_X10_beginGroupAct hw) (ok_X10_beginGroupAct) (ltb rfl) (all3 gw_690 gw_692 gw_9) (ik_0 hw) (by decide) (q := (RX10, TX10, 17)) rfl rfl rfl rfl (Nat.le_of_ble_eq_true rfl) dX10_group_11 (fun σ2 => ?_)
    refine jo_aload_n (pc := 14) 0 rfl dX10_group_14 rfl ?_
    refine jo_getrE (pc := 15) ok_10_0 (ik_0 hw) rf_0_0 gw_631 dX10_group_15 ?_
    refine jo_getrE (pc := 18) ok_8_0 (ik_1 hw) rf_1_0 gw_218 dX10_group_18 ?_
    refine jo_iload_n (pc := 21) 1 rfl dX10_group_21 rfl ?_
    refine jo_iload_n (pc := 22) 2 rfl dX10_group_22 rfl ?_
    refine jo_cV_V_i (pc := 23) (μ' := mu_X6_reset) (fx := f_X6_reset σ2 2 x0 x1) (As := [.int x0, .int x1]) (c_X6_reset hw (ik_2 hw)) (ok_X6_reset) (ltb rfl) (all3 gw_717 gw_517 gw_518) (ik_2 hw) (by decide) (q := (RX6, TX6, 3)) rfl rfl rfl rfl (Nat.le_of_ble_eq_true rfl) dX10_group_23 (fun σ3 => ?_)
    refine jo_aload_n (pc := 26) 0 rfl dX10_group_26 rfl ?_
    refine jo_getrE (pc := 27) ok_10_9 (ik_0 hw) rf_0_9 gw_640 dX10_group_27 ?_
    refine jo_aload_n (pc := 30) 0 rfl dX10_group_30 rfl ?_
    refine jo_getrE (pc := 31) ok_10_0 (ik_0 hw) rf_0_0 gw_631 dX10_group_31 ?_
    refine jo_getrE (pc := 34) ok_8_0 (ik_1 hw) rf_1_0 gw_218 dX10_group_34 ?_
    refine jo_cV_V_i (pc := 37) (μ' := mu_X4_follow) (fx := f_X4_follow σ3 2) (As := [.ref (adr w 2)]) (c_X4_follow hw (ik_2 hw)) (ok_X4_follow) (ltb rfl) (all3 gw_533 gw_534 gw_535) (ik_40 hw) (by decide) (q := (RX4, TX4, 9)) rfl rfl rfl rfl (Nat.le_of_ble_eq_true rfl) dX10_group_37 (fun σ4 => ?_)
    refine jo_iconst (pc := 40) dX10_group_40 (ic_i_1) ?_
    exact jo_breturn (pc := 41) (b := true) rfl rfl dX10_group_41
  · refine jo_iconst (pc := 8) dX10_group_8 (ic_i_0) ?_
    exact jo_breturn (pc := 9) (b := false) rfl rfl dX10_group_9
theorem c_X10_group {w : Wd} (hw : WOK w) {σ : Mem} {x0 : Int32} {x1 : Int32} : ∀ r σ', f_X10_group σ x0 x1 = some (r, σ') → MC w mu_X10_group (vB r) [.ref (adr w 0), .int x0, .int x1] σ σ' := mc_of ok_X10_group rfl (Nat.le_of_ble_eq_true rfl) (t_X10_group hw)
abbrev mu_X10_tail : MD := (yX10_tail, cX10_tail, 5, some .boolean, 7)
theorem ok_X10_tail : MOK mu_X10_tail 4 := ⟨gw_721, gw_158, (by decide +kernel : plainFor yX10_tail = true), ⟨(by decide +kernel : yX10_tail.cls ≠ "java/lang/invoke/MethodHandle"), (by decide +kernel : yX10_tail.cls ≠ "java/lang/invoke/VarHandle"), (by decide +kernel : (parseMethodDescriptor yX10_tail.desc).map (fun d => d.parameters.length) = some 4)⟩, Nat.le_of_ble_eq_true rfl⟩
noncomputable def f_X10_tail (σ : Mem) (x0 : Int32) (x1 : Int32) (x2 : Int32) (x3 : Int32) : Option (Bool × Mem) :=
  (f_X6_mayBe σ 2 (x0 - 1) (x1 - 1) (x2 - 1) x3).bind (fun (b1 : Bool) => if b1 then (f_X10_beginGroupAct σ).bind (fun (σ2 : Mem) => (f_X6_write σ2 2 (x0 - 1) (x1 - 1) (x2 - 1) x3).bind (fun (σ3 : Mem) => (f_X4_follow σ3 2).bind (fun (σ4 : Mem) => some (true, σ4)))) else some (false, σ))
theorem t_X10_tail {w : Wd} (hw : WOK w) {σ : Mem} {x0 : Int32} {x1 : Int32} {x2 : Int32} {x3 : Int32} : JO w mu_X10_tail vB σ [(0, .ref (adr w 0)), (1, .int x0), (2, .int x1), (3, .int x2), (4, .int x3)] [] 0 (f_X10_tail σ x0 x1 x2 x3) some := by
  unfold f_X10_tail
  refine jo_aload_n (pc := 0) 0 rfl dX10_tail_0 rfl ?_
  refine jo_getrE (pc := 1) ok_10_0 (ik_0 hw) rf_0_0 gw_631 dX10_tail_1 ?_
  refine jo_getrE (pc := 4) ok_8_0 (ik_1 hw) rf_1_0 gw_218 dX10_tail_4 ?_
  refine jo_iload_n (pc := 7) 1 rfl dX10_tail_7 rfl ?_
  refine jo_iconst (pc := 8) dX10_tail_8 (ic_i_1) ?_
  refine jo_isub (pc := 9) dX10_tail_9 ?_
  refine jo_iload_n (pc := 10) 2 rfl dX10_tail_10 rfl ?_
  refine jo_iconst (pc := 11) dX10_tail_11 (ic_i_1) ?_
  refine jo_isub (pc := 12) dX10_tail_12 ?_
  refine jo_iload_n (pc := 13) 3 rfl dX10_tail_13 rfl ?_
  refine jo_iconst (pc := 14) dX10_tail_14 (ic_i_1) ?_
  refine jo_isub (pc := 15) dX10_tail_15 ?_
  refine jo_iload (pc := 16) 4 rfl dX10_tail_16 ?_
  refine jo_cV_Z_p (pc := 18) (μ' := mu_X6_mayBe) (fx := f_X6_mayBe σ 2 (x0 - 1) (x1 - 1) (x2 - 1) x3) (As := [.int (x0 - 1), .int (x1 - 1), .int (x2 - 1), .int x3]) (c_X6_mayBe hw (ik_2 hw)) (ok_X6_mayBe) (ltb rfl) (all3 gw_722 gw_723 gw_724) (ik_2 hw) (by decide) (q := (RX6, TX6, 3)) rfl rfl rfl rfl (Nat.le_of_ble_eq_true rfl) dX10_tail_18 (fun b1 => ?_)
  refine jo_ifz_ne (pc := 21) dX10_tail_21 (tgt := 26) rfl ?_ ?_
  · refine jo_aload_n (pc := 26) 0 rfl dX10_tail_26 rfl ?_
    refine jo_cV_V_i (pc := 27) (μ' := mu_X10_beginGroupAct) (fx := f_X10_beginGroupAct σ) (As := []) (c_X10_beginGroupAct hw) (ok_X10_beginGroupAct) (ltb rfl) (all3 gw_690 gw_692 gw_9) (ik_0 hw) (by decide) (q := (RX10, TX10, 17)) rfl rfl rfl rfl (Nat.le_of_ble_eq_true rfl) dX10_tail_27 (fun σ2 => ?_)
    refine jo_aload_n (pc := 30) 0 rfl dX10_tail_30 rfl ?_
    refine jo_getrE (pc := 31) ok_10_0 (ik_0 hw) rf_0_0 gw_631 dX10_tail_31 ?_
    refine jo_getrE (pc := 34) ok_8_0 (ik_1 hw) rf_1_0 gw_218 dX10_tail_34 ?_
    refine jo_iload_n (pc := 37) 1 rfl dX10_tail_37 rfl ?_
    refine jo_iconst (pc := 38) dX10_tail_38 (ic_i_1) ?_
    refine jo_isub (pc := 39) dX10_tail_39 ?_
    refine jo_iload_n (pc := 40) 2 rfl dX10_tail_40 rfl ?_
    refine jo_iconst (pc := 41) dX10_tail_41 (ic_i_1) ?_
    refine jo_isub (pc := 42) dX10_tail_42 ?_
    refine jo_iload_n (pc := 43) 3 rfl dX10_tail_43 rfl ?_
    refine jo_iconst (pc := 44) dX10_tail_44 (ic_i_1) ?_
    refine jo_isub (pc := 45) dX10_tail_45 ?_
    refine jo_iload (pc := 46) 4 rfl dX10_tail_46 ?_
    refine jo_cV_V_i (pc := 48) (μ' := mu_X6_write) (fx := f_X6_write σ2 2 (x0 - 1) (x1 - 1) (x2 - 1) x3) (As := [.int (x0 - 1), .int (x1 - 1), .int (x2 - 1), .int x3]) (c_X6_write hw (ik_2 hw)) (ok_X6_write) (ltb rfl) (all3 gw_726 gw_526 gw_527) (ik_2 hw) (by decide) (q := (RX6, TX6, 3)) rfl rfl rfl rfl (Nat.le_of_ble_eq_true rfl) dX10_tail_48 (fun σ3 => ?_)
    refine jo_aload_n (pc := 51) 0 rfl dX10_tail_51 rfl ?_
    refine jo_getrE (pc := 52) ok_10_9 (ik_0 hw) rf_0_9 gw_640 dX10_tail_52 ?_
    refine jo_aload_n (pc := 55) 0 rfl dX10_tail_55 rfl ?_
    refine jo_getrE (pc := 56) ok_10_0 (ik_0 hw) rf_0_0 gw_631 dX10_tail_56 ?_
    refine jo_getrE (pc := 59) ok_8_0 (ik_1 hw) rf_1_0 gw_218 dX10_tail_59 ?_
    refine jo_cV_V_i (pc := 62) (μ' := mu_X4_follow) (fx := f_X4_follow σ3 2) (As := [.ref (adr w 2)]) (c_X4_follow hw (ik_2 hw)) (ok_X4_follow) (ltb rfl) (all3 gw_533 gw_534 gw_535) (ik_40 hw) (by decide) (q := (RX4, TX4, 9)) rfl rfl rfl rfl (Nat.le_of_ble_eq_true rfl) dX10_tail_62 (fun σ4 => ?_)
    refine jo_iconst (pc := 65) dX10_tail_65 (ic_i_1) ?_
    exact jo_breturn (pc := 66) (b := true) rfl rfl dX10_tail_66
  · refine jo_iconst (pc := 24) dX10_tail_24 (ic_i_0) ?_
    exact jo_breturn (pc := 25) (b := false) rfl rfl dX10_tail_25
theorem c_X10_tail {w : Wd} (hw : WOK w) {σ : Mem} {x0 : Int32} {x1 : Int32} {x2 : Int32} {x3 : Int32} : ∀ r σ', f_X10_tail σ x0 x1 x2 x3 = some (r, σ') → MC w mu_X10_tail (vB r) [.ref (adr w 0), .int x0, .int x1, .int x2, .int x3] σ σ' := mc_of ok_X10_tail rfl (Nat.le_of_ble_eq_true rfl) (t_X10_tail hw)
abbrev mu_X10_kind : MD := (yX10_kind, cX10_kind, 2, some .boolean, 7)
theorem ok_X10_kind : MOK mu_X10_kind 1 := ⟨gw_730, gw_158, (by decide +kernel : plainFor yX10_kind = true), ⟨(by decide +kernel : yX10_kind.cls ≠ "java/lang/invoke/MethodHandle"), (by decide +kernel : yX10_kind.cls ≠ "java/lang/invoke/VarHandle"), (by decide +kernel : (parseMethodDescriptor yX10_kind.desc).map (fun d => d.parameters.length) = some 1)⟩, Nat.le_of_ble_eq_true rfl⟩
noncomputable def f_X10_kind (σ : Mem) (x0 : Int32) : Option (Bool × Mem) :=
  if x0 < 0 then (some (false, σ)) else (if x0 < (Int32.ofNat (tabL 0)) then ((f_X10_beginGroupAct σ).bind (fun (σ1 : Mem) => (f_X6_takeKind σ1 2 x0).bind (fun (σ2 : Mem) => (f_X4_follow σ2 2).bind (fun (σ3 : Mem) => some (true, σ3))))) else (some (false, σ)))
theorem t_X10_kind {w : Wd} (hw : WOK w) {σ : Mem} {x0 : Int32} : JO w mu_X10_kind vB σ [(0, .ref (adr w 0)), (1, .int x0)] [] 0 (f_X10_kind σ x0) some := by
  unfold f_X10_kind
  refine jo_iload_n (pc := 0) 1 rfl dX10_kind_0 rfl ?_
  refine jo_if_lt (pc := 1) dX10_kind_1 (tgt := 12) rfl ?_ ?_
  · refine jo_iconst (pc := 12) dX10_kind_12 (ic_i_0) ?_
    exact jo_breturn (pc := 13) (b := false) rfl rfl dX10_kind_13
  · refine jo_iload_n (pc := 4) 1 rfl dX10_kind_4 rfl ?_
    refine jo_gets (pc := 5) (k := 0) (by decide) gw_731 dX10_kind_5 ?_
    refine jo_tablen (pc := 8) (by decide) dX10_kind_8 ?_
    refine jo_icmp_lt (pc := 9) dX10_kind_9 (tgt := 14) rfl ?_ ?_
    · refine jo_aload_n (pc := 14) 0 rfl dX10_kind_14 rfl ?_
      refine jo_cV_V_i (pc := 15) (μ' := mu_X10_beginGroupAct) (fx := f_X10_beginGroupAct σ) (As := []) (c_X10_beginGroupAct hw) (ok_X10_beginGroupAct) (ltb rfl) (all3 gw_690 gw_692 gw_9) (ik_0 hw) (by decide) (q := (RX10, TX10, 17)) rfl rfl rfl rfl (Nat.le_of_ble_eq_true rfl) dX10_kind_15 (fun σ1 => ?_)
      refine jo_aload_n (pc := 18) 0 rfl dX10_kind_18 rfl ?_
      refine jo_getrE (pc := 19) ok_10_0 (ik_0 hw) rf_0_0 gw_631 dX10_kind_19 ?_
      refine jo_getrE (pc := 22) ok_8_0 (ik_1 hw) rf_1_0 gw_218 dX10_kind_22 ?_
      refine jo_iload_n (pc := 25) 1 rfl dX10_kind_25 rfl ?_
      refine jo_cV_V_i (pc := 26) (μ' := mu_X6_takeKind) (fx := f_X6_takeKind σ1 2 x0) (As := [.int x0]) (c_X6_takeKind hw (ik_2 hw)) (ok_X6_takeKind) (ltb rfl) (all3 gw_508 gw_509 gw_510) (ik_2 hw) (by decide) (q := (RX6, TX6, 3)) rfl rfl rfl rfl (Nat.le_of_ble_eq_true rfl) dX10_kind_26 (fun σ2 => ?_)
      refine jo_aload_n (pc := 29) 0 rfl dX10_kind_29 rfl ?_
      refine jo_getrE (pc := 30) ok_10_9 (ik_0 hw) rf_0_9 gw_640 dX10_kind_30 ?_
      refine jo_aload_n (pc := 33) 0 rfl dX10_kind_33 rfl ?_
      refine jo_getrE (pc := 34) ok_10_0 (ik_0 hw) rf_0_0 gw_631 dX10_kind_34 ?_
      refine jo_getrE (pc := 37) ok_8_0 (ik_1 hw) rf_1_0 gw_218 dX10_kind_37 ?_
      refine jo_cV_V_i (pc := 40) (μ' := mu_X4_follow) (fx := f_X4_follow σ2 2) (As := [.ref (adr w 2)]) (c_X4_follow hw (ik_2 hw)) (ok_X4_follow) (ltb rfl) (all3 gw_533 gw_534 gw_535) (ik_40 hw) (by decide) (q := (RX4, TX4, 9)) rfl rfl rfl rfl (Nat.le_of_ble_eq_true rfl) dX10_kind_40 (fun σ3 => ?_)
      refine jo_iconst (pc := 43) dX10_kind_43 (ic_i_1) ?_
      exact jo_breturn (pc := 44) (b := true) rfl rfl dX10_kind_44
    · refine jo_iconst (pc := 12) dX10_kind_12 (ic_i_0) ?_
      exact jo_breturn (pc := 13) (b := false) rfl rfl dX10_kind_13
theorem c_X10_kind {w : Wd} (hw : WOK w) {σ : Mem} {x0 : Int32} : ∀ r σ', f_X10_kind σ x0 = some (r, σ') → MC w mu_X10_kind (vB r) [.ref (adr w 0), .int x0] σ σ' := mc_of ok_X10_kind rfl (Nat.le_of_ble_eq_true rfl) (t_X10_kind hw)
abbrev mu_X10_bit : MD := (yX10_bit, cX10_bit, 1, some .int, 0)
theorem ok_X10_bit : MOK mu_X10_bit 1 := ⟨gw_738, gw_158, (by decide +kernel : plainFor yX10_bit = true), ⟨(by decide +kernel : yX10_bit.cls ≠ "java/lang/invoke/MethodHandle"), (by decide +kernel : yX10_bit.cls ≠ "java/lang/invoke/VarHandle"), (by decide +kernel : (parseMethodDescriptor yX10_bit.desc).map (fun d => d.parameters.length) = some 1)⟩, Nat.le_of_ble_eq_true rfl⟩
noncomputable def f_X10_bit (σ : Mem) (x0 : Bool) : Option Int32 :=
  if x0 then some 1 else some 0
theorem t_X10_bit {w : Wd} (hw : WOK w) {σ : Mem} {x0 : Bool} : JO w mu_X10_bit vI σ [(0, .int (b2i x0))] [] 0 (f_X10_bit σ x0) (fun z => some (z, σ)) := by
  unfold f_X10_bit
  refine jo_iload_n (pc := 0) 0 rfl dX10_bit_0 rfl ?_
  refine jo_ifz_eq (pc := 1) dX10_bit_1 (tgt := 8) rfl ?_ ?_
  · refine jo_iconst (pc := 8) dX10_bit_8 (ic_i_0) ?_
    exact jo_ireturn (pc := 9) rfl rfl dX10_bit_9
  · refine jo_iconst (pc := 4) dX10_bit_4 (ic_i_1) ?_
    refine jo_goto (pc := 5) dX10_bit_5 (tgt := 9) rfl ?_
    exact jo_ireturn (pc := 9) rfl rfl dX10_bit_9
theorem c_X10_bit {w : Wd} (hw : WOK w) {σ : Mem} {x0 : Bool} : ∀ r, f_X10_bit σ x0 = some r → MC w mu_X10_bit (vI r) [.int (b2i x0)] σ σ := mc_ofP ok_X10_bit rfl (Nat.le_of_ble_eq_true rfl) (t_X10_bit hw)
abbrev mu_X10_consistent : MD := (yX10_consistent, cX10_consistent, 1, some .int, 1)
theorem ok_X10_consistent : MOK mu_X10_consistent 0 := ⟨gw_735, gw_158, (by decide +kernel : plainFor yX10_consistent = true), ⟨(by decide +kernel : yX10_consistent.cls ≠ "java/lang/invoke/MethodHandle"), (by decide +kernel : yX10_consistent.cls ≠ "java/lang/invoke/VarHandle"), (by decide +kernel : (parseMethodDescriptor yX10_consistent.desc).map (fun d => d.parameters.length) = some 0)⟩, Nat.le_of_ble_eq_true rfl⟩
noncomputable def f_X10_consistent (σ : Mem) : Option Int32 :=
  gZ σ 40 3 (fun (b1 : Bool) => (f_X10_bit σ b1).bind (fun (v2 : Int32) => some v2))
theorem t_X10_consistent {w : Wd} (hw : WOK w) {σ : Mem} : JO w mu_X10_consistent vI σ [(0, .ref (adr w 0))] [] 0 (f_X10_consistent σ) (fun z => some (z, σ)) := by
  unfold f_X10_consistent
  refine jo_aload_n (pc := 0) 0 rfl dX10_consistent_0 rfl ?_
  refine jo_getrE (pc := 1) ok_10_9 (ik_0 hw) rf_0_9 gw_640 dX10_consistent_1 ?_
  refine jo_getz (pc := 4) ok_4_3 (ik_40 hw) gw_308 dX10_consistent_4 (fun b1 => ?_)
  refine jo_cS_I_p (pc := 7) (μ' := mu_X10_bit) (fx := f_X10_bit σ b1) (As := [.int (b2i b1)]) (c_X10_bit hw) (ok_X10_bit) (ltb rfl) (all2 gw_736 gw_737) rfl rfl (Nat.le_of_ble_eq_true rfl) dX10_consistent_7 (fun v2 => ?_)
  exact jo_ireturn (pc := 10) rfl rfl dX10_consistent_10
theorem c_X10_consistent {w : Wd} (hw : WOK w) {σ : Mem} : ∀ r, f_X10_consistent σ = some r → MC w mu_X10_consistent (vI r) [.ref (adr w 0)] σ σ := mc_ofP ok_X10_consistent rfl (Nat.le_of_ble_eq_true rfl) (t_X10_consistent hw)
abbrev mu_X10_isGenerator : MD := (yX10_isGenerator, cX10_isGenerator, 2, some .boolean, 0)
theorem ok_X10_isGenerator : MOK mu_X10_isGenerator 1 := ⟨gw_746, gw_158, (by decide +kernel : plainFor yX10_isGenerator = true), ⟨(by decide +kernel : yX10_isGenerator.cls ≠ "java/lang/invoke/MethodHandle"), (by decide +kernel : yX10_isGenerator.cls ≠ "java/lang/invoke/VarHandle"), (by decide +kernel : (parseMethodDescriptor yX10_isGenerator.desc).map (fun d => d.parameters.length) = some 1)⟩, Nat.le_of_ble_eq_true rfl⟩
noncomputable def j_X10_isGenerator_23  : Option Bool :=
  some false
noncomputable def f_X10_isGenerator (σ : Mem) (x0 : Int32) : Option Bool :=
  (if x0 < 1 then (some (Sum.inl ())) else (gF σ 2 0 (fun (v1 : Int32) => if v1 < x0 then (some (Sum.inl ())) else (some (Sum.inr true)))) : Option (Unit ⊕ Bool)).bind (Sum.elim (fun (z0 : Unit) => j_X10_isGenerator_23) some)
theorem t_X10_isGenerator {w : Wd} (hw : WOK w) {σ : Mem} {x0 : Int32} : JO w mu_X10_isGenerator vB σ [(0, .ref (adr w 0)), (1, .int x0)] [] 0 (f_X10_isGenerator σ x0) (fun z => some (z, σ)) := by
  unfold f_X10_isGenerator
  refine jo_iload_n (pc := 0) 1 rfl dX10_isGenerator_0 rfl ?_
  refine jo_iconst (pc := 1) dX10_isGenerator_1 (ic_i_1) ?_
  refine jo_joinS (S := Unit) (fun (z0 : Unit) => σ) (fun (z0 : Unit) => []) (fun (z0 : Unit) => []) 23 ?_ (fun h23_0 => ?_)
  · intro _
    show JO w mu_X10_isGenerator vB σ [] [] 23 (j_X10_isGenerator_23) _
    unfold j_X10_isGenerator_23
    refine jo_iconst (pc := 23) dX10_isGenerator_23 (ic_i_0) ?_
    exact jo_breturn (pc := 24) (b := false) rfl rfl dX10_isGenerator_24
  · refine jo_icmp_lt (pc := 2) dX10_isGenerator_2 (tgt := 23) rfl ?_ ?_
    · refine jo_lv (lv' := []) [] rfl ?_
      exact jo_leaf (by rfl) (h23_0 ())
    · refine jo_iload_n (pc := 5) 1 rfl dX10_isGenerator_5 rfl ?_
      refine jo_aload_n (pc := 6) 0 rfl dX10_isGenerator_6 rfl ?_
      refine jo_getrE (pc := 7) ok_10_0 (ik_0 hw) rf_0_0 gw_631 dX10_isGenerator_7 ?_
      refine jo_getrE (pc := 10) ok_8_0 (ik_1 hw) rf_1_0 gw_218 dX10_isGenerator_10 ?_
      refine jo_getf (pc := 13) ok_6_0 (ik_2 hw) gw_198 dX10_isGenerator_13 (fun v1 => ?_)
      refine jo_icmp_gt (pc := 16) dX10_isGenerator_16 (tgt := 23) rfl ?_ ?_
      · refine jo_lv (lv' := []) [] rfl ?_
        exact jo_leaf (by rfl) (h23_0 ())
      · refine jo_iconst (pc := 19) dX10_isGenerator_19 (ic_i_1) ?_
        refine jo_goto (pc := 20) dX10_isGenerator_20 (tgt := 24) rfl ?_
        exact jo_breturn (pc := 24) (b := true) rfl rfl dX10_isGenerator_24
theorem c_X10_isGenerator {w : Wd} (hw : WOK w) {σ : Mem} {x0 : Int32} : ∀ r, f_X10_isGenerator σ x0 = some r → MC w mu_X10_isGenerator (vB r) [.ref (adr w 0), .int x0] σ σ := mc_ofP ok_X10_isGenerator rfl (Nat.le_of_ble_eq_true rfl) (t_X10_isGenerator hw)
abbrev mu_X10_generator : MD := (yX10_generator, cX10_generator, 3, some .int, 3)
theorem ok_X10_generator : MOK mu_X10_generator 2 := ⟨gw_742, gw_158, (by decide +kernel : plainFor yX10_generator = true), ⟨(by decide +kernel : yX10_generator.cls ≠ "java/lang/invoke/MethodHandle"), (by decide +kernel : yX10_generator.cls ≠ "java/lang/invoke/VarHandle"), (by decide +kernel : (parseMethodDescriptor yX10_generator.desc).map (fun d => d.parameters.length) = some 2)⟩, Nat.le_of_ble_eq_true rfl⟩
noncomputable def f_X10_generator (σ : Mem) (x0 : Int32) (x1 : Int32) : Option Int32 :=
  (f_X10_isGenerator σ x0).bind (fun (b1 : Bool) => if b1 then if x1 < 0 then (some (-1)) else (if x1 ≤ 1 then (if x1 = 0 then (gI σ 3 (x0 - 1) (fun (v5 : Int32) => some v5)) else (gZ σ 40 3 (fun (b2 : Bool) => if b2 then (f_X6_isCentral σ 2 (x0 - 1)).bind (fun (b3 : Bool) => (f_X10_bit σ b3).bind (fun (v4 : Int32) => some v4)) else some (-1)))) else (some (-1))) else some (-1))
theorem t_X10_generator {w : Wd} (hw : WOK w) {σ : Mem} {x0 : Int32} {x1 : Int32} : JO w mu_X10_generator vI σ [(0, .ref (adr w 0)), (1, .int x0), (2, .int x1)] [] 0 (f_X10_generator σ x0 x1) (fun z => some (z, σ)) := by
  unfold f_X10_generator
  refine jo_aload_n (pc := 0) 0 rfl dX10_generator_0 rfl ?_
  refine jo_iload_n (pc := 1) 1 rfl dX10_generator_1 rfl ?_
  refine jo_cV_Z_p (pc := 2) (μ' := mu_X10_isGenerator) (fx := f_X10_isGenerator σ x0) (As := [.int x0]) (c_X10_isGenerator hw) (ok_X10_isGenerator) (ltb rfl) (all3 gw_743 gw_745 gw_11) (ik_0 hw) (by decide) (q := (RX10, TX10, 17)) rfl rfl rfl rfl (Nat.le_of_ble_eq_true rfl) dX10_generator_2 (fun b1 => ?_)
  refine jo_ifz_eq (pc := 5) dX10_generator_5 (tgt := 17) rfl ?_ ?_
  · refine jo_iconst (pc := 17) dX10_generator_17 (ic_i_m1) ?_
    exact jo_ireturn (pc := 18) rfl rfl dX10_generator_18
  · refine jo_iload_n (pc := 8) 2 rfl dX10_generator_8 rfl ?_
    refine jo_if_lt (pc := 9) dX10_generator_9 (tgt := 17) rfl ?_ ?_
    · refine jo_iconst (pc := 17) dX10_generator_17 (ic_i_m1) ?_
      exact jo_ireturn (pc := 18) rfl rfl dX10_generator_18
    · refine jo_iload_n (pc := 12) 2 rfl dX10_generator_12 rfl ?_
      refine jo_iconst (pc := 13) dX10_generator_13 (ic_i_1) ?_
      refine jo_icmp_le (pc := 14) dX10_generator_14 (tgt := 19) rfl ?_ ?_
      · refine jo_iload_n (pc := 19) 2 rfl dX10_generator_19 rfl ?_
        refine jo_if_ne (pc := 20) dX10_generator_20 (tgt := 38) rfl ?_ ?_
        · refine jo_aload_n (pc := 38) 0 rfl dX10_generator_38 rfl ?_
          refine jo_getrE (pc := 39) ok_10_9 (ik_0 hw) rf_0_9 gw_640 dX10_generator_39 ?_
          refine jo_getz (pc := 42) ok_4_3 (ik_40 hw) gw_308 dX10_generator_42 (fun b2 => ?_)
          refine jo_ifz_eq (pc := 45) dX10_generator_45 (tgt := 67) rfl ?_ ?_
          · refine jo_iconst (pc := 67) dX10_generator_67 (ic_i_m1) ?_
            exact jo_ireturn (pc := 68) rfl rfl dX10_generator_68
          · refine jo_aload_n (pc := 48) 0 rfl dX10_generator_48 rfl ?_
            refine jo_getrE (pc := 49) ok_10_0 (ik_0 hw) rf_0_0 gw_631 dX10_generator_49 ?_
            refine jo_getrE (pc := 52) ok_8_0 (ik_1 hw) rf_1_0 gw_218 dX10_generator_52 ?_
            refine jo_iload_n (pc := 55) 1 rfl dX10_generator_55 rfl ?_
            refine jo_iconst (pc := 56) dX10_generator_56 (ic_i_1) ?_
            refine jo_isub (pc := 57) dX10_generator_57 ?_
            refine jo_cV_Z_p (pc := 58) (μ' := mu_X6_isCentral) (fx := f_X6_isCentral σ 2 (x0 - 1)) (As := [.int (x0 - 1)]) (c_X6_isCentral hw (ik_2 hw)) (ok_X6_isCentral) (ltb rfl) (all3 gw_747 gw_748 gw_749) (ik_2 hw) (by decide) (q := (RX6, TX6, 3)) rfl rfl rfl rfl (Nat.le_of_ble_eq_true rfl) dX10_generator_58 (fun b3 => ?_)
            refine jo_cS_I_p (pc := 61) (μ' := mu_X10_bit) (fx := f_X10_bit σ b3) (As := [.int (b2i b3)]) (c_X10_bit hw) (ok_X10_bit) (ltb rfl) (all2 gw_736 gw_737) rfl rfl (Nat.le_of_ble_eq_true rfl) dX10_generator_61 (fun v4 => ?_)
            refine jo_goto (pc := 64) dX10_generator_64 (tgt := 68) rfl ?_
            exact jo_ireturn (pc := 68) rfl rfl dX10_generator_68
        · refine jo_aload_n (pc := 23) 0 rfl dX10_generator_23 rfl ?_
          refine jo_getrE (pc := 24) ok_10_0 (ik_0 hw) rf_0_0 gw_631 dX10_generator_24 ?_
          refine jo_getrE (pc := 27) ok_8_0 (ik_1 hw) rf_1_0 gw_218 dX10_generator_27 ?_
          refine jo_getrE (pc := 30) ok_6_1 (ik_2 hw) rf_2_1 gw_203 dX10_generator_30 ?_
          refine jo_iload_n (pc := 33) 1 rfl dX10_generator_33 rfl ?_
          refine jo_iconst (pc := 34) dX10_generator_34 (ic_i_1) ?_
          refine jo_isub (pc := 35) dX10_generator_35 ?_
          refine jo_iald (pc := 36) (ik_3 hw) dX10_generator_36 (fun v5 => ?_)
          exact jo_ireturn (pc := 37) rfl rfl dX10_generator_37
      · refine jo_iconst (pc := 17) dX10_generator_17 (ic_i_m1) ?_
        exact jo_ireturn (pc := 18) rfl rfl dX10_generator_18
theorem c_X10_generator {w : Wd} (hw : WOK w) {σ : Mem} {x0 : Int32} {x1 : Int32} : ∀ r, f_X10_generator σ x0 x1 = some r → MC w mu_X10_generator (vI r) [.ref (adr w 0), .int x0, .int x1] σ σ := mc_ofP ok_X10_generator rfl (Nat.le_of_ble_eq_true rfl) (t_X10_generator hw)
abbrev mu_X10_tailOf : MD := (yX10_tailOf, cX10_tailOf, 4, some .int, 2)
theorem ok_X10_tailOf : MOK mu_X10_tailOf 3 := ⟨gw_759, gw_158, (by decide +kernel : plainFor yX10_tailOf = true), ⟨(by decide +kernel : yX10_tailOf.cls ≠ "java/lang/invoke/MethodHandle"), (by decide +kernel : yX10_tailOf.cls ≠ "java/lang/invoke/VarHandle"), (by decide +kernel : (parseMethodDescriptor yX10_tailOf.desc).map (fun d => d.parameters.length) = some 3)⟩, Nat.le_of_ble_eq_true rfl⟩
noncomputable def f_X10_tailOf (σ : Mem) (x0 : Int32) (x1 : Int32) (x2 : Int32) : Option Int32 :=
  (f_X6_isTail σ 2 (x0 - 1) (x1 - 1) (x2 - 1)).bind (fun (b1 : Bool) => if b1 then (f_X6_read σ 2 (x0 - 1) (x1 - 1) (x2 - 1)).bind (fun (v2 : Int32) => some v2) else some (-1))
theorem t_X10_tailOf {w : Wd} (hw : WOK w) {σ : Mem} {x0 : Int32} {x1 : Int32} {x2 : Int32} : JO w mu_X10_tailOf vI σ [(0, .ref (adr w 0)), (1, .int x0), (2, .int x1), (3, .int x2)] [] 0 (f_X10_tailOf σ x0 x1 x2) (fun z => some (z, σ)) := by
  unfold f_X10_tailOf
  refine jo_aload_n (pc := 0) 0 rfl dX10_tailOf_0 rfl ?_
  refine jo_getrE (pc := 1) ok_10_0 (ik_0 hw) rf_0_0 gw_631 dX10_tailOf_1 ?_
  refine jo_getrE (pc := 4) ok_8_0 (ik_1 hw) rf_1_0 gw_218 dX10_tailOf_4 ?_
  refine jo_iload_n (pc := 7) 1 rfl dX10_tailOf_7 rfl ?_
  refine jo_iconst (pc := 8) dX10_tailOf_8 (ic_i_1) ?_
  refine jo_isub (pc := 9) dX10_tailOf_9 ?_
  refine jo_iload_n (pc := 10) 2 rfl dX10_tailOf_10 rfl ?_
  refine jo_iconst (pc := 11) dX10_tailOf_11 (ic_i_1) ?_
  refine jo_isub (pc := 12) dX10_tailOf_12 ?_
  refine jo_iload_n (pc := 13) 3 rfl dX10_tailOf_13 rfl ?_
  refine jo_iconst (pc := 14) dX10_tailOf_14 (ic_i_1) ?_
  refine jo_isub (pc := 15) dX10_tailOf_15 ?_
  refine jo_cV_Z_p (pc := 16) (μ' := mu_X6_isTail) (fx := f_X6_isTail σ 2 (x0 - 1) (x1 - 1) (x2 - 1)) (As := [.int (x0 - 1), .int (x1 - 1), .int (x2 - 1)]) (c_X6_isTail hw (ik_2 hw)) (ok_X6_isTail) (ltb rfl) (all3 gw_760 gw_530 gw_531) (ik_2 hw) (by decide) (q := (RX6, TX6, 3)) rfl rfl rfl rfl (Nat.le_of_ble_eq_true rfl) dX10_tailOf_16 (fun b1 => ?_)
  refine jo_ifz_eq (pc := 19) dX10_tailOf_19 (tgt := 44) rfl ?_ ?_
  · refine jo_iconst (pc := 44) dX10_tailOf_44 (ic_i_m1) ?_
    exact jo_ireturn (pc := 45) rfl rfl dX10_tailOf_45
  · refine jo_aload_n (pc := 22) 0 rfl dX10_tailOf_22 rfl ?_
    refine jo_getrE (pc := 23) ok_10_0 (ik_0 hw) rf_0_0 gw_631 dX10_tailOf_23 ?_
    refine jo_getrE (pc := 26) ok_8_0 (ik_1 hw) rf_1_0 gw_218 dX10_tailOf_26 ?_
    refine jo_iload_n (pc := 29) 1 rfl dX10_tailOf_29 rfl ?_
    refine jo_iconst (pc := 30) dX10_tailOf_30 (ic_i_1) ?_
    refine jo_isub (pc := 31) dX10_tailOf_31 ?_
    refine jo_iload_n (pc := 32) 2 rfl dX10_tailOf_32 rfl ?_
    refine jo_iconst (pc := 33) dX10_tailOf_33 (ic_i_1) ?_
    refine jo_isub (pc := 34) dX10_tailOf_34 ?_
    refine jo_iload_n (pc := 35) 3 rfl dX10_tailOf_35 rfl ?_
    refine jo_iconst (pc := 36) dX10_tailOf_36 (ic_i_1) ?_
    refine jo_isub (pc := 37) dX10_tailOf_37 ?_
    refine jo_cV_I_p (pc := 38) (μ' := mu_X6_read) (fx := f_X6_read σ 2 (x0 - 1) (x1 - 1) (x2 - 1)) (As := [.int (x0 - 1), .int (x1 - 1), .int (x2 - 1)]) (c_X6_read hw (ik_2 hw)) (ok_X6_read) (ltb rfl) (all3 gw_761 gw_569 gw_570) (ik_2 hw) (by decide) (q := (RX6, TX6, 3)) rfl rfl rfl rfl (Nat.le_of_ble_eq_true rfl) dX10_tailOf_38 (fun v2 => ?_)
    refine jo_goto (pc := 41) dX10_tailOf_41 (tgt := 45) rfl ?_
    exact jo_ireturn (pc := 45) rfl rfl dX10_tailOf_45
theorem c_X10_tailOf {w : Wd} (hw : WOK w) {σ : Mem} {x0 : Int32} {x1 : Int32} {x2 : Int32} : ∀ r, f_X10_tailOf σ x0 x1 x2 = some r → MC w mu_X10_tailOf (vI r) [.ref (adr w 0), .int x0, .int x1, .int x2] σ σ := mc_ofP ok_X10_tailOf rfl (Nat.le_of_ble_eq_true rfl) (t_X10_tailOf hw)
abbrev mu_X10_hasPolynomial : MD := (yX10_hasPolynomial, cX10_hasPolynomial, 2, some .boolean, 1)
theorem ok_X10_hasPolynomial : MOK mu_X10_hasPolynomial 1 := ⟨gw_769, gw_158, (by decide +kernel : plainFor yX10_hasPolynomial = true), ⟨(by decide +kernel : yX10_hasPolynomial.cls ≠ "java/lang/invoke/MethodHandle"), (by decide +kernel : yX10_hasPolynomial.cls ≠ "java/lang/invoke/VarHandle"), (by decide +kernel : (parseMethodDescriptor yX10_hasPolynomial.desc).map (fun d => d.parameters.length) = some 1)⟩, Nat.le_of_ble_eq_true rfl⟩
noncomputable def j_X10_hasPolynomial_22  : Option Bool :=
  some false
noncomputable def f_X10_hasPolynomial (σ : Mem) (x0 : Int32) : Option Bool :=
  (f_X10_isGenerator σ x0).bind (fun (b1 : Bool) => (if b1 then gZ σ 40 3 (fun (b2 : Bool) => if b2 then some (Sum.inr true) else some (Sum.inl ())) else some (Sum.inl ()) : Option (Unit ⊕ Bool)).bind (Sum.elim (fun (z1 : Unit) => j_X10_hasPolynomial_22) some))
theorem t_X10_hasPolynomial {w : Wd} (hw : WOK w) {σ : Mem} {x0 : Int32} : JO w mu_X10_hasPolynomial vB σ [(0, .ref (adr w 0)), (1, .int x0)] [] 0 (f_X10_hasPolynomial σ x0) (fun z => some (z, σ)) := by
  unfold f_X10_hasPolynomial
  refine jo_aload_n (pc := 0) 0 rfl dX10_hasPolynomial_0 rfl ?_
  refine jo_iload_n (pc := 1) 1 rfl dX10_hasPolynomial_1 rfl ?_
  refine jo_cV_Z_p (pc := 2) (μ' := mu_X10_isGenerator) (fx := f_X10_isGenerator σ x0) (As := [.int x0]) (c_X10_isGenerator hw) (ok_X10_isGenerator) (ltb rfl) (all3 gw_743 gw_745 gw_11) (ik_0 hw) (by decide) (q := (RX10, TX10, 17)) rfl rfl rfl rfl (Nat.le_of_ble_eq_true rfl) dX10_hasPolynomial_2 (fun b1 => ?_)
  refine jo_joinS (S := Unit) (fun (z1 : Unit) => σ) (fun (z1 : Unit) => []) (fun (z1 : Unit) => []) 22 ?_ (fun h22_1 => ?_)
  · intro _
    show JO w mu_X10_hasPolynomial vB σ [] [] 22 (j_X10_hasPolynomial_22) _
    unfold j_X10_hasPolynomial_22
    refine jo_iconst (pc := 22) dX10_hasPolynomial_22 (ic_i_0) ?_
    exact jo_breturn (pc := 23) (b := false) rfl rfl dX10_hasPolynomial_23
  · refine jo_ifz_eq (pc := 5) dX10_hasPolynomial_5 (tgt := 22) rfl ?_ ?_
    · refine jo_lv (lv' := []) [] rfl ?_
      exact jo_leaf (by rfl) (h22_1 ())
    · refine jo_aload_n (pc := 8) 0 rfl dX10_hasPolynomial_8 rfl ?_
      refine jo_getrE (pc := 9) ok_10_9 (ik_0 hw) rf_0_9 gw_640 dX10_hasPolynomial_9 ?_
      refine jo_getz (pc := 12) ok_4_3 (ik_40 hw) gw_308 dX10_hasPolynomial_12 (fun b2 => ?_)
      refine jo_ifz_eq (pc := 15) dX10_hasPolynomial_15 (tgt := 22) rfl ?_ ?_
      · refine jo_lv (lv' := []) [] rfl ?_
        exact jo_leaf (by rfl) (h22_1 ())
      · refine jo_iconst (pc := 18) dX10_hasPolynomial_18 (ic_i_1) ?_
        refine jo_goto (pc := 19) dX10_hasPolynomial_19 (tgt := 23) rfl ?_
        exact jo_breturn (pc := 23) (b := true) rfl rfl dX10_hasPolynomial_23
theorem c_X10_hasPolynomial {w : Wd} (hw : WOK w) {σ : Mem} {x0 : Int32} : ∀ r, f_X10_hasPolynomial σ x0 = some r → MC w mu_X10_hasPolynomial (vB r) [.ref (adr w 0), .int x0] σ σ := mc_ofP ok_X10_hasPolynomial rfl (Nat.le_of_ble_eq_true rfl) (t_X10_hasPolynomial hw)
abbrev mu_X10_terms : MD := (yX10_terms, cX10_terms, 2, some .int, 2)
theorem ok_X10_terms : MOK mu_X10_terms 1 := ⟨gw_765, gw_158, (by decide +kernel : plainFor yX10_terms = true), ⟨(by decide +kernel : yX10_terms.cls ≠ "java/lang/invoke/MethodHandle"), (by decide +kernel : yX10_terms.cls ≠ "java/lang/invoke/VarHandle"), (by decide +kernel : (parseMethodDescriptor yX10_terms.desc).map (fun d => d.parameters.length) = some 1)⟩, Nat.le_of_ble_eq_true rfl⟩
noncomputable def f_X10_terms (σ : Mem) (x0 : Int32) : Option Int32 :=
  (f_X10_hasPolynomial σ x0).bind (fun (b1 : Bool) => if b1 then gR 44 (x0 - 1) (fun (p2 : Nat) => gF σ p2 0 (fun (v3 : Int32) => some v3)) else some (-1))
theorem t_X10_terms {w : Wd} (hw : WOK w) {σ : Mem} {x0 : Int32} : JO w mu_X10_terms vI σ [(0, .ref (adr w 0)), (1, .int x0)] [] 0 (f_X10_terms σ x0) (fun z => some (z, σ)) := by
  unfold f_X10_terms
  refine jo_aload_n (pc := 0) 0 rfl dX10_terms_0 rfl ?_
  refine jo_iload_n (pc := 1) 1 rfl dX10_terms_1 rfl ?_
  refine jo_cV_Z_p (pc := 2) (μ' := mu_X10_hasPolynomial) (fx := f_X10_hasPolynomial σ x0) (As := [.int x0]) (c_X10_hasPolynomial hw) (ok_X10_hasPolynomial) (ltb rfl) (all3 gw_766 gw_768 gw_12) (ik_0 hw) (by decide) (q := (RX10, TX10, 17)) rfl rfl rfl rfl (Nat.le_of_ble_eq_true rfl) dX10_terms_2 (fun b1 => ?_)
  refine jo_ifz_eq (pc := 5) dX10_terms_5 (tgt := 25) rfl ?_ ?_
  · refine jo_iconst (pc := 25) dX10_terms_25 (ic_i_m1) ?_
    exact jo_ireturn (pc := 26) rfl rfl dX10_terms_26
  · refine jo_aload_n (pc := 8) 0 rfl dX10_terms_8 rfl ?_
    refine jo_getrE (pc := 9) ok_10_9 (ik_0 hw) rf_0_9 gw_640 dX10_terms_9 ?_
    refine jo_getrE (pc := 12) ok_4_2 (ik_40 hw) rf_40_2 gw_306 dX10_terms_12 ?_
    refine jo_iload_n (pc := 15) 1 rfl dX10_terms_15 rfl ?_
    refine jo_iconst (pc := 16) dX10_terms_16 (ic_i_1) ?_
    refine jo_isub (pc := 17) dX10_terms_17 ?_
    refine jo_aaldG (pc := 18) (z := 9) hw (ik_44 hw) (by decide) (t := 3) rfl rfl (by decide) dX10_terms_18 (fun p2 hp2 => ?_)
    refine jo_getf (pc := 19) ok_9_0 (hp2) gw_282 dX10_terms_19 (fun v3 => ?_)
    refine jo_goto (pc := 22) dX10_terms_22 (tgt := 26) rfl ?_
    exact jo_ireturn (pc := 26) rfl rfl dX10_terms_26
theorem c_X10_terms {w : Wd} (hw : WOK w) {σ : Mem} {x0 : Int32} : ∀ r, f_X10_terms σ x0 = some r → MC w mu_X10_terms (vI r) [.ref (adr w 0), .int x0] σ σ := mc_ofP ok_X10_terms rfl (Nat.le_of_ble_eq_true rfl) (t_X10_terms hw)
abbrev mu_X10_term : MD := (yX10_term, cX10_term, 7, some .int, 2)
theorem ok_X10_term : MOK mu_X10_term 3 := ⟨gw_773, gw_158, (by decide +kernel : plainFor yX10_term = true), ⟨(by decide +kernel : yX10_term.cls ≠ "java/lang/invoke/MethodHandle"), (by decide +kernel : yX10_term.cls ≠ "java/lang/invoke/VarHandle"), (by decide +kernel : (parseMethodDescriptor yX10_term.desc).map (fun d => d.parameters.length) = some 3)⟩, Nat.le_of_ble_eq_true rfl⟩
noncomputable def j_X10_term_100 (σ : Mem) (x1 : Int32) (p3 : Nat) (i5 : Int32) : Option Int32 :=
  gI σ (rf p3 1) x1 (fun (v6 : Int32) => (f_X10_degree σ v6 i5).bind (fun (v7 : Int32) => some v7))
noncomputable def f_X10_term (σ : Mem) (x0 : Int32) (x1 : Int32) (x2 : Int32) : Option Int32 :=
  gF σ 2 0 (fun (v1 : Int32) => (f_X10_hasPolynomial σ x0).bind (fun (b2 : Bool) => if b2 then if x2 < 0 then (some (-10000)) else (if x2 ≤ (2 * v1) then (gR 44 (x0 - 1) (fun (p3 : Nat) => if x1 < 0 then (some (-10000)) else (gF σ p3 0 (fun (v4 : Int32) => if x1 < v4 then (if x2 = 0 then (gL σ (rf p3 2) x1 (fun (v8 : Int64) => some (Int64.toInt32 v8))) else ((if v1 < x2 then (some (((6 + x2) - v1) - 1)) else (some (x2 - 1)) : Option Int32).bind (fun (z5 : Int32) => j_X10_term_100 σ x1 p3 z5))) else (some (-10000)))))) else (some (-10000))) else some (-10000)))
theorem t_X10_term {w : Wd} (hw : WOK w) {σ : Mem} {x0 : Int32} {x1 : Int32} {x2 : Int32} : JO w mu_X10_term vI σ [(0, .ref (adr w 0)), (1, .int x0), (2, .int x1), (3, .int x2)] [] 0 (f_X10_term σ x0 x1 x2) (fun z => some (z, σ)) := by
  unfold f_X10_term
  refine jo_aload_n (pc := 0) 0 rfl dX10_term_0 rfl ?_
  refine jo_getrE (pc := 1) ok_10_0 (ik_0 hw) rf_0_0 gw_631 dX10_term_1 ?_
  refine jo_getrE (pc := 4) ok_8_0 (ik_1 hw) rf_1_0 gw_218 dX10_term_4 ?_
  refine jo_getf (pc := 7) ok_6_0 (ik_2 hw) gw_198 dX10_term_7 (fun v1 => ?_)
  refine jo_istore (pc := 10) (lv' := [(4, .int v1), (0, .ref (adr w 0)), (1, .int x0), (2, .int x1), (3, .int x2)]) dX10_term_10 (ltb rfl) rfl ?_
  refine jo_aload_n (pc := 12) 1 rfl dX10_term_12 rfl ?_
  refine jo_iload_n (pc := 13) 2 rfl dX10_term_13 rfl ?_
  refine jo_cV_Z_p (pc := 14) (μ' := mu_X10_hasPolynomial) (fx := f_X10_hasPolynomial σ x0) (As := [.int x0]) (c_X10_hasPolynomial hw) (ok_X10_hasPolynomial) (ltb rfl) (all3 gw_766 gw_768 gw_12) (ik_0 hw) (by decide) (q := (RX10, TX10, 17)) rfl rfl rfl rfl (Nat.le_of_ble_eq_true rfl) dX10_term_14 (fun b2 => ?_)
  refine jo_ifz_eq (pc := 17) dX10_term_17 (tgt := 32) rfl ?_ ?_
  · refine jo_sipush (pc := 32) dX10_term_32 (ic_s_m10000) ?_
    exact jo_ireturn (pc := 35) rfl rfl dX10_term_35
  · refine jo_iload_n (pc := 20) 4 rfl dX10_term_20 rfl ?_
    refine jo_if_lt (pc := 21) dX10_term_21 (tgt := 32) rfl ?_ ?_
    · refine jo_sipush (pc := 32) dX10_term_32 (ic_s_m10000) ?_
      exact jo_ireturn (pc := 35) rfl rfl dX10_term_35
    · refine jo_iload_n (pc := 24) 4 rfl dX10_term_24 rfl ?_
      refine jo_iconst (pc := 25) dX10_term_25 (ic_i_2) ?_
      refine jo_iload (pc := 26) 0 rfl dX10_term_26 ?_
      refine jo_imul (pc := 28) dX10_term_28 ?_
      refine jo_icmp_le (pc := 29) dX10_term_29 (tgt := 36) rfl ?_ ?_
      · refine jo_aload_n (pc := 36) 1 rfl dX10_term_36 rfl ?_
        refine jo_getrE (pc := 37) ok_10_9 (ik_0 hw) rf_0_9 gw_640 dX10_term_37 ?_
        refine jo_getrE (pc := 40) ok_4_2 (ik_40 hw) rf_40_2 gw_306 dX10_term_40 ?_
        refine jo_iload_n (pc := 43) 2 rfl dX10_term_43 rfl ?_
        refine jo_iconst (pc := 44) dX10_term_44 (ic_i_1) ?_
        refine jo_isub (pc := 45) dX10_term_45 ?_
        refine jo_aaldG (pc := 46) (z := 9) hw (ik_44 hw) (by decide) (t := 3) rfl rfl (by decide) dX10_term_46 (fun p3 hp3 => ?_)
        refine jo_astore (pc := 47) (lv' := [(5, .ref (adr w p3)), (4, .int v1), (0, .ref (adr w 0)), (1, .int x0), (2, .int x1), (3, .int x2)]) dX10_term_47 (ltb rfl) rfl ?_
        refine jo_iload_n (pc := 49) 4 rfl dX10_term_49 rfl ?_
        refine jo_if_lt (pc := 50) dX10_term_50 (tgt := 62) rfl ?_ ?_
        · refine jo_sipush (pc := 62) dX10_term_62 (ic_s_m10000) ?_
          exact jo_ireturn (pc := 65) rfl rfl dX10_term_65
        · refine jo_iload_n (pc := 53) 4 rfl dX10_term_53 rfl ?_
          refine jo_aload (pc := 54) 0 rfl dX10_term_54 ?_
          refine jo_getf (pc := 56) ok_9_0 (hp3) gw_282 dX10_term_56 (fun v4 => ?_)
          refine jo_icmp_lt (pc := 59) dX10_term_59 (tgt := 66) rfl ?_ ?_
          · refine jo_iload_n (pc := 66) 5 rfl dX10_term_66 rfl ?_
            refine jo_if_ne (pc := 67) dX10_term_67 (tgt := 79) rfl ?_ ?_
            · refine jo_iload_n (pc := 79) 5 rfl dX10_term_79 rfl ?_
              refine jo_iload (pc := 80) 1 rfl dX10_term_80 ?_
              refine jo_join1 (S := Int32) (fun (z5 : Int32) => σ) (fun (z5 : Int32) => [(5, .ref (adr w p3)), (2, .int x1)]) (fun (z5 : Int32) => [.int z5]) 100 ?_ (fun h100_5 => ?_)
              · intro i5
                show JO w mu_X10_term vI σ [(5, .ref (adr w p3)), (2, .int x1)] [.int i5] 100 (j_X10_term_100 σ x1 p3 i5) _
                unfold j_X10_term_100
                refine jo_istore (pc := 100) (lv' := [(6, .int i5), (5, .ref (adr w p3)), (2, .int x1)]) dX10_term_100 (ltb rfl) rfl ?_
                refine jo_aload (pc := 102) 1 rfl dX10_term_102 ?_
                refine jo_getr (pc := 104) ok_9_1 (hp3) gw_285 dX10_term_104 ?_
                refine jo_iload_n (pc := 107) 2 rfl dX10_term_107 rfl ?_
                refine jo_iald (pc := 108) (wf_9_1 hw (hp3)) dX10_term_108 (fun v6 => ?_)
                refine jo_iload (pc := 109) 0 rfl dX10_term_109 ?_
                refine jo_cS_I_p (pc := 111) (μ' := mu_X10_degree) (fx := f_X10_degree σ v6 i5) (As := [.int v6, .int i5]) (c_X10_degree hw) (ok_X10_degree) (ltb rfl) (all2 gw_774 gw_629) rfl rfl (Nat.le_of_ble_eq_true rfl) dX10_term_111 (fun v7 => ?_)
                exact jo_ireturn (pc := 114) rfl rfl dX10_term_114
              · refine jo_icmp_gt (pc := 82) dX10_term_82 (tgt := 91) rfl ?_ ?_
                · refine jo_bipush (pc := 91) dX10_term_91 (ic_b_6) ?_
                  refine jo_iload_n (pc := 93) 5 rfl dX10_term_93 rfl ?_
                  refine jo_iadd (pc := 94) dX10_term_94 ?_
                  refine jo_iload (pc := 95) 1 rfl dX10_term_95 ?_
                  refine jo_isub (pc := 97) dX10_term_97 ?_
                  refine jo_iconst (pc := 98) dX10_term_98 (ic_i_1) ?_
                  refine jo_isub (pc := 99) dX10_term_99 ?_
                  refine jo_lv (lv' := [(5, .ref (adr w p3)), (2, .int x1)]) [0, 4] rfl ?_
                  exact jo_leaf (by rfl) (h100_5 (((6 + x2) - v1) - 1))
                · refine jo_iload_n (pc := 85) 5 rfl dX10_term_85 rfl ?_
                  refine jo_iconst (pc := 86) dX10_term_86 (ic_i_1) ?_
                  refine jo_isub (pc := 87) dX10_term_87 ?_
                  refine jo_goto (pc := 88) dX10_term_88 (tgt := 100) rfl ?_
                  refine jo_lv (lv' := [(5, .ref (adr w p3)), (2, .int x1)]) [0, 4] rfl ?_
                  exact jo_leaf (by rfl) (h100_5 (x2 - 1))
            · refine jo_aload (pc := 70) 0 rfl dX10_term_70 ?_
              refine jo_getr (pc := 72) ok_9_2 (hp3) gw_288 dX10_term_72 ?_
              refine jo_iload_n (pc := 75) 4 rfl dX10_term_75 rfl ?_
              refine jo_lald (pc := 76) (wf_9_2 hw (hp3)) dX10_term_76 (fun v8 => ?_)
              refine jo_l2i (pc := 77) dX10_term_77 ?_
              exact jo_ireturn (pc := 78) rfl rfl dX10_term_78
          · refine jo_sipush (pc := 62) dX10_term_62 (ic_s_m10000) ?_
            exact jo_ireturn (pc := 65) rfl rfl dX10_term_65
      · refine jo_sipush (pc := 32) dX10_term_32 (ic_s_m10000) ?_
        exact jo_ireturn (pc := 35) rfl rfl dX10_term_35
theorem c_X10_term {w : Wd} (hw : WOK w) {σ : Mem} {x0 : Int32} {x1 : Int32} {x2 : Int32} : ∀ r, f_X10_term σ x0 x1 x2 = some r → MC w mu_X10_term (vI r) [.ref (adr w 0), .int x0, .int x1, .int x2] σ σ := mc_ofP ok_X10_term rfl (Nat.le_of_ble_eq_true rfl) (t_X10_term hw)
abbrev mu_X10_shape : MD := (yX10_shape, cX10_shape, 4, some .int, 3)
theorem ok_X10_shape : MOK mu_X10_shape 2 := ⟨gw_778, gw_158, (by decide +kernel : plainFor yX10_shape = true), ⟨(by decide +kernel : yX10_shape.cls ≠ "java/lang/invoke/MethodHandle"), (by decide +kernel : yX10_shape.cls ≠ "java/lang/invoke/VarHandle"), (by decide +kernel : (parseMethodDescriptor yX10_shape.desc).map (fun d => d.parameters.length) = some 2)⟩, Nat.le_of_ble_eq_true rfl⟩
noncomputable def f_X10_shape (σ : Mem) (x0 : Int32) (x1 : Int32) : Option Int32 :=
  (f_X10_hasPolynomial σ x0).bind (fun (b1 : Bool) => if b1 then gR 44 (x0 - 1) (fun (p2 : Nat) => if x1 = 0 then ((f_X9_greatestDegree σ p2).bind (fun (v4 : Int32) => some v4)) else if x1 = 1 then ((f_X9_greatestWeight σ p2 2).bind (fun (v6 : Int32) => some v6)) else if x1 = 2 then ((f_X9_termsInBothRows σ p2).bind (fun (v8 : Int32) => some v8)) else if x1 = 3 then ((f_X9_sumOfNumbers σ p2).bind (fun (v10 : Int64) => some (Int64.toInt32 v10))) else (some (-10000))) else some (-10000))
theorem t_X10_shape {w : Wd} (hw : WOK w) {σ : Mem} {x0 : Int32} {x1 : Int32} : JO w mu_X10_shape vI σ [(0, .ref (adr w 0)), (1, .int x0), (2, .int x1)] [] 0 (f_X10_shape σ x0 x1) (fun z => some (z, σ)) := by
  unfold f_X10_shape
  refine jo_aload_n (pc := 0) 0 rfl dX10_shape_0 rfl ?_
  refine jo_iload_n (pc := 1) 1 rfl dX10_shape_1 rfl ?_
  refine jo_cV_Z_p (pc := 2) (μ' := mu_X10_hasPolynomial) (fx := f_X10_hasPolynomial σ x0) (As := [.int x0]) (c_X10_hasPolynomial hw) (ok_X10_hasPolynomial) (ltb rfl) (all3 gw_766 gw_768 gw_12) (ik_0 hw) (by decide) (q := (RX10, TX10, 17)) rfl rfl rfl rfl (Nat.le_of_ble_eq_true rfl) dX10_shape_2 (fun b1 => ?_)
  refine jo_ifz_ne (pc := 5) dX10_shape_5 (tgt := 12) rfl ?_ ?_
  · refine jo_aload_n (pc := 12) 0 rfl dX10_shape_12 rfl ?_
    refine jo_getrE (pc := 13) ok_10_9 (ik_0 hw) rf_0_9 gw_640 dX10_shape_13 ?_
    refine jo_getrE (pc := 16) ok_4_2 (ik_40 hw) rf_40_2 gw_306 dX10_shape_16 ?_
    refine jo_iload_n (pc := 19) 1 rfl dX10_shape_19 rfl ?_
    refine jo_iconst (pc := 20) dX10_shape_20 (ic_i_1) ?_
    refine jo_isub (pc := 21) dX10_shape_21 ?_
    refine jo_aaldG (pc := 22) (z := 9) hw (ik_44 hw) (by decide) (t := 3) rfl rfl (by decide) dX10_shape_22 (fun p2 hp2 => ?_)
    refine jo_astore_n (pc := 23) (lv' := [(3, .ref (adr w p2)), (0, .ref (adr w 0)), (1, .int x0), (2, .int x1)]) dX10_shape_23 rfl (ltb rfl) rfl ?_
    refine jo_iload_n (pc := 24) 3 rfl dX10_shape_24 rfl ?_
    refine jo_case (v := 0) (fun h3 => ?_) (fun h3 => ?_)
    · refine jo_tswHit (pc := 25) dX10_shape_25 h3 (by decide) (by decide) (off := 31) (by rfl) (tgt := 56) rfl ?_
      refine jo_aload_n (pc := 56) 0 rfl dX10_shape_56 rfl ?_
      refine jo_cV_I_p (pc := 57) (μ' := mu_X9_greatestDegree) (fx := f_X9_greatestDegree σ p2) (As := []) (c_X9_greatestDegree hw (hp2)) (ok_X9_greatestDegree) (ltb rfl) (all3 gw_779 gw_780 gw_781) (hp2) (by decide) (q := (RX9, TX9, 4)) rfl rfl rfl rfl (Nat.le_of_ble_eq_true rfl) dX10_shape_57 (fun v4 => ?_)
      exact jo_ireturn (pc := 60) rfl rfl dX10_shape_60
    refine jo_case (v := 1) (fun h5 => ?_) (fun h5 => ?_)
    · refine jo_tswHit (pc := 25) dX10_shape_25 h5 (by decide) (by decide) (off := 36) (by rfl) (tgt := 61) rfl ?_
      refine jo_aload_n (pc := 61) 0 rfl dX10_shape_61 rfl ?_
      refine jo_aload_n (pc := 62) 1 rfl dX10_shape_62 rfl ?_
      refine jo_getrE (pc := 63) ok_10_0 (ik_0 hw) rf_0_0 gw_631 dX10_shape_63 ?_
      refine jo_getrE (pc := 66) ok_8_0 (ik_1 hw) rf_1_0 gw_218 dX10_shape_66 ?_
      refine jo_cV_I_p (pc := 69) (μ' := mu_X9_greatestWeight) (fx := f_X9_greatestWeight σ p2 2) (As := [.ref (adr w 2)]) (c_X9_greatestWeight hw (hp2) (ik_2 hw)) (ok_X9_greatestWeight) (ltb rfl) (all3 gw_784 gw_785 gw_786) (hp2) (by decide) (q := (RX9, TX9, 4)) rfl rfl rfl rfl (Nat.le_of_ble_eq_true rfl) dX10_shape_69 (fun v6 => ?_)
      exact jo_ireturn (pc := 72) rfl rfl dX10_shape_72
    refine jo_case (v := 2) (fun h7 => ?_) (fun h7 => ?_)
    · refine jo_tswHit (pc := 25) dX10_shape_25 h7 (by decide) (by decide) (off := 48) (by rfl) (tgt := 73) rfl ?_
      refine jo_aload_n (pc := 73) 0 rfl dX10_shape_73 rfl ?_
      refine jo_cV_I_p (pc := 74) (μ' := mu_X9_termsInBothRows) (fx := f_X9_termsInBothRows σ p2) (As := []) (c_X9_termsInBothRows hw (hp2)) (ok_X9_termsInBothRows) (ltb rfl) (all3 gw_788 gw_789 gw_790) (hp2) (by decide) (q := (RX9, TX9, 4)) rfl rfl rfl rfl (Nat.le_of_ble_eq_true rfl) dX10_shape_74 (fun v8 => ?_)
      exact jo_ireturn (pc := 77) rfl rfl dX10_shape_77
    refine jo_case (v := 3) (fun h9 => ?_) (fun h9 => ?_)
    · refine jo_tswHit (pc := 25) dX10_shape_25 h9 (by decide) (by decide) (off := 53) (by rfl) (tgt := 78) rfl ?_
      refine jo_aload_n (pc := 78) 0 rfl dX10_shape_78 rfl ?_
      refine jo_cV_J_p (pc := 79) (μ' := mu_X9_sumOfNumbers) (fx := f_X9_sumOfNumbers σ p2) (As := []) (c_X9_sumOfNumbers hw (hp2)) (ok_X9_sumOfNumbers) (ltb rfl) (all3 gw_795 gw_796 gw_797) (hp2) (by decide) (q := (RX9, TX9, 4)) rfl rfl rfl rfl (Nat.le_of_ble_eq_true rfl) dX10_shape_79 (fun v10 => ?_)
      refine jo_l2i (pc := 82) dX10_shape_82 ?_
      exact jo_ireturn (pc := 83) rfl rfl dX10_shape_83
    have qh3 : (x1).toInt ≠ 0 := fun e => h3 (Int32.toInt_inj.mp (e.trans (by decide)))
    have qh5 : (x1).toInt ≠ 1 := fun e => h5 (Int32.toInt_inj.mp (e.trans (by decide)))
    have qh7 : (x1).toInt ≠ 2 := fun e => h7 (Int32.toInt_inj.mp (e.trans (by decide)))
    have qh9 : (x1).toInt ≠ 3 := fun e => h9 (Int32.toInt_inj.mp (e.trans (by decide)))
    refine jo_tableOut (pc := 25) dX10_shape_25 (by omega) (tgt := 84) rfl ?_
    refine jo_sipush (pc := 84) dX10_shape_84 (ic_s_m10000) ?_
    exact jo_ireturn (pc := 87) rfl rfl dX10_shape_87
  · refine jo_sipush (pc := 8) dX10_shape_8 (ic_s_m10000) ?_
    exact jo_ireturn (pc := 11) rfl rfl dX10_shape_11
theorem c_X10_shape {w : Wd} (hw : WOK w) {σ : Mem} {x0 : Int32} {x1 : Int32} : ∀ r, f_X10_shape σ x0 x1 = some r → MC w mu_X10_shape (vI r) [.ref (adr w 0), .int x0, .int x1] σ σ := mc_ofP ok_X10_shape rfl (Nat.le_of_ble_eq_true rfl) (t_X10_shape hw)
abbrev mu_X10_set : MD := (yX10_set, cX10_set, 4, some .boolean, 4)
theorem ok_X10_set : MOK mu_X10_set 3 := ⟨gw_802, gw_158, (by decide +kernel : plainFor yX10_set = true), ⟨(by decide +kernel : yX10_set.cls ≠ "java/lang/invoke/MethodHandle"), (by decide +kernel : yX10_set.cls ≠ "java/lang/invoke/VarHandle"), (by decide +kernel : (parseMethodDescriptor yX10_set.desc).map (fun d => d.parameters.length) = some 3)⟩, Nat.le_of_ble_eq_true rfl⟩
noncomputable def f_X10_set (σ : Mem) (x0 : Int32) (x1 : Int32) (x2 : Int32) : Option (Bool × Mem) :=
  (f_X10_isRegister σ x0).bind (fun (b1 : Bool) => if b1 then (f_X10_isGenerator σ x1).bind (fun (b2 : Bool) => if b2 then gZ σ 40 3 (fun (b3 : Bool) => if b3 then if x2 < (-999) then (some (false, σ)) else (if x2 ≤ 999 then ((f_X10_beginAct σ).bind (fun (σ4 : Mem) => gR 5 x0 (fun (p5 : Nat) => pL σ4 p5 (x1 - 1) (Int32.toInt64 x2) (fun (σ6 : Mem) => some (true, σ6))))) else (some (false, σ))) else some (false, σ)) else some (false, σ)) else some (false, σ))
theorem t_X10_set {w : Wd} (hw : WOK w) {σ : Mem} {x0 : Int32} {x1 : Int32} {x2 : Int32} : JO w mu_X10_set vB σ [(0, .ref (adr w 0)), (1, .int x0), (2, .int x1), (3, .int x2)] [] 0 (f_X10_set σ x0 x1 x2) some := by
  unfold f_X10_set
  refine jo_iload_n (pc := 0) 1 rfl dX10_set_0 rfl ?_
  refine jo_cS_Z_p (pc := 1) (μ' := mu_X10_isRegister) (fx := f_X10_isRegister σ x0) (As := [.int x0]) (c_X10_isRegister hw) (ok_X10_isRegister) (ltb rfl) (all2 gw_803 gw_804) rfl rfl (Nat.le_of_ble_eq_true rfl) dX10_set_1 (fun b1 => ?_)
  refine jo_ifz_eq (pc := 4) dX10_set_4 (tgt := 25) rfl ?_ ?_
  · refine jo_iconst (pc := 25) dX10_set_25 (ic_i_0) ?_
    exact jo_breturn (pc := 26) (b := false) rfl rfl dX10_set_26
  · refine jo_aload_n (pc := 7) 0 rfl dX10_set_7 rfl ?_
    refine jo_iload_n (pc := 8) 2 rfl dX10_set_8 rfl ?_
    refine jo_cV_Z_p (pc := 9) (μ' := mu_X10_isGenerator) (fx := f_X10_isGenerator σ x1) (As := [.int x1]) (c_X10_isGenerator hw) (ok_X10_isGenerator) (ltb rfl) (all3 gw_743 gw_745 gw_11) (ik_0 hw) (by decide) (q := (RX10, TX10, 17)) rfl rfl rfl rfl (Nat.le_of_ble_eq_true rfl) dX10_set_9 (fun b2 => ?_)
    refine jo_ifz_eq (pc := 12) dX10_set_12 (tgt := 25) rfl ?_ ?_
    · refine jo_iconst (pc := 25) dX10_set_25 (ic_i_0) ?_
      exact jo_breturn (pc := 26) (b := false) rfl rfl dX10_set_26
    · refine jo_aload_n (pc := 15) 0 rfl dX10_set_15 rfl ?_
      refine jo_getrE (pc := 16) ok_10_9 (ik_0 hw) rf_0_9 gw_640 dX10_set_16 ?_
      refine jo_getz (pc := 19) ok_4_3 (ik_40 hw) gw_308 dX10_set_19 (fun b3 => ?_)
      refine jo_ifz_ne (pc := 22) dX10_set_22 (tgt := 27) rfl ?_ ?_
      · refine jo_iload_n (pc := 27) 3 rfl dX10_set_27 rfl ?_
        refine jo_sipush (pc := 28) dX10_set_28 (ic_s_m999) ?_
        refine jo_icmp_lt (pc := 31) dX10_set_31 (tgt := 41) rfl ?_ ?_
        · refine jo_iconst (pc := 41) dX10_set_41 (ic_i_0) ?_
          exact jo_breturn (pc := 42) (b := false) rfl rfl dX10_set_42
        · refine jo_iload_n (pc := 34) 3 rfl dX10_set_34 rfl ?_
          refine jo_sipush (pc := 35) dX10_set_35 (ic_s_999) ?_
          refine jo_icmp_le (pc := 38) dX10_set_38 (tgt := 43) rfl ?_ ?_
          · refine jo_aload_n (pc := 43) 0 rfl dX10_set_43 rfl ?_
            refine jo_cV_V_i (pc := 44) (μ' := mu_X10_beginAct) (fx := f_X10_beginAct σ) (As := []) (c_X10_beginAct hw) (ok_X10_beginAct) (ltb rfl) (all3 gw_694 gw_696 gw_10) (ik_0 hw) (by decide) (q := (RX10, TX10, 17)) rfl rfl rfl rfl (Nat.le_of_ble_eq_true rfl) dX10_set_44 (fun σ4 => ?_)
            refine jo_aload_n (pc := 47) 0 rfl dX10_set_47 rfl ?_
            refine jo_getrE (pc := 48) ok_10_0 (ik_0 hw) rf_0_0 gw_631 dX10_set_48 ?_
            refine jo_getrE (pc := 51) ok_8_1 (ik_1 hw) rf_1_1 gw_221 dX10_set_51 ?_
            refine jo_iload_n (pc := 54) 1 rfl dX10_set_54 rfl ?_
            refine jo_aaldG (pc := 55) (z := 13) hw (ik_5 hw) (by decide) (t := 4) rfl rfl (by decide) dX10_set_55 (fun p5 hp5 => ?_)
            refine jo_iload_n (pc := 56) 2 rfl dX10_set_56 rfl ?_
            refine jo_iconst (pc := 57) dX10_set_57 (ic_i_1) ?_
            refine jo_isub (pc := 58) dX10_set_58 ?_
            refine jo_iload_n (pc := 59) 3 rfl dX10_set_59 rfl ?_
            refine jo_i2l (pc := 60) dX10_set_60 ?_
            refine jo_last (pc := 61) (hp5) dX10_set_61 (fun σ6 => ?_)
            refine jo_iconst (pc := 62) dX10_set_62 (ic_i_1) ?_
            exact jo_breturn (pc := 63) (b := true) rfl rfl dX10_set_63
          · refine jo_iconst (pc := 41) dX10_set_41 (ic_i_0) ?_
            exact jo_breturn (pc := 42) (b := false) rfl rfl dX10_set_42
      · refine jo_iconst (pc := 25) dX10_set_25 (ic_i_0) ?_
        exact jo_breturn (pc := 26) (b := false) rfl rfl dX10_set_26
theorem c_X10_set {w : Wd} (hw : WOK w) {σ : Mem} {x0 : Int32} {x1 : Int32} {x2 : Int32} : ∀ r σ', f_X10_set σ x0 x1 x2 = some (r, σ') → MC w mu_X10_set (vB r) [.ref (adr w 0), .int x0, .int x1, .int x2] σ σ' := mc_of ok_X10_set rfl (Nat.le_of_ble_eq_true rfl) (t_X10_set hw)
abbrev mu_X10_areUsable : MD := (yX10_areUsable, cX10_areUsable, 3, some .boolean, 1)
theorem ok_X10_areUsable : MOK mu_X10_areUsable 2 := ⟨gw_813, gw_158, (by decide +kernel : plainFor yX10_areUsable = true), ⟨(by decide +kernel : yX10_areUsable.cls ≠ "java/lang/invoke/MethodHandle"), (by decide +kernel : yX10_areUsable.cls ≠ "java/lang/invoke/VarHandle"), (by decide +kernel : (parseMethodDescriptor yX10_areUsable.desc).map (fun d => d.parameters.length) = some 2)⟩, Nat.le_of_ble_eq_true rfl⟩
noncomputable def j_X10_areUsable_28  : Option Bool :=
  some false
noncomputable def f_X10_areUsable (σ : Mem) (x0 : Int32) (x1 : Int32) : Option Bool :=
  (f_X10_isRegister σ x0).bind (fun (b1 : Bool) => (if b1 then (f_X10_isRegister σ x1).bind (fun (b2 : Bool) => if b2 then gZ σ 40 3 (fun (b3 : Bool) => if b3 then some (Sum.inr true) else some (Sum.inl ())) else some (Sum.inl ())) else some (Sum.inl ()) : Option (Unit ⊕ Bool)).bind (Sum.elim (fun (z1 : Unit) => j_X10_areUsable_28) some))
theorem t_X10_areUsable {w : Wd} (hw : WOK w) {σ : Mem} {x0 : Int32} {x1 : Int32} : JO w mu_X10_areUsable vB σ [(0, .ref (adr w 0)), (1, .int x0), (2, .int x1)] [] 0 (f_X10_areUsable σ x0 x1) (fun z => some (z, σ)) := by
  unfold f_X10_areUsable
  refine jo_iload_n (pc := 0) 1 rfl dX10_areUsable_0 rfl ?_
  refine jo_cS_Z_p (pc := 1) (μ' := mu_X10_isRegister) (fx := f_X10_isRegister σ x0) (As := [.int x0]) (c_X10_isRegister hw) (ok_X10_isRegister) (ltb rfl) (all2 gw_803 gw_804) rfl rfl (Nat.le_of_ble_eq_true rfl) dX10_areUsable_1 (fun b1 => ?_)
  refine jo_joinS (S := Unit) (fun (z1 : Unit) => σ) (fun (z1 : Unit) => []) (fun (z1 : Unit) => []) 28 ?_ (fun h28_1 => ?_)
  · intro _
    show JO w mu_X10_areUsable vB σ [] [] 28 (j_X10_areUsable_28) _
    unfold j_X10_areUsable_28
    refine jo_iconst (pc := 28) dX10_areUsable_28 (ic_i_0) ?_
    exact jo_breturn (pc := 29) (b := false) rfl rfl dX10_areUsable_29
  · refine jo_ifz_eq (pc := 4) dX10_areUsable_4 (tgt := 28) rfl ?_ ?_
    · refine jo_lv (lv' := []) [] rfl ?_
      exact jo_leaf (by rfl) (h28_1 ())
    · refine jo_iload_n (pc := 7) 2 rfl dX10_areUsable_7 rfl ?_
      refine jo_cS_Z_p (pc := 8) (μ' := mu_X10_isRegister) (fx := f_X10_isRegister σ x1) (As := [.int x1]) (c_X10_isRegister hw) (ok_X10_isRegister) (ltb rfl) (all2 gw_803 gw_804) rfl rfl (Nat.le_of_ble_eq_true rfl) dX10_areUsable_8 (fun b2 => ?_)
      refine jo_ifz_eq (pc := 11) dX10_areUsable_11 (tgt := 28) rfl ?_ ?_
      · refine jo_lv (lv' := []) [] rfl ?_
        exact jo_leaf (by rfl) (h28_1 ())
      · refine jo_aload_n (pc := 14) 0 rfl dX10_areUsable_14 rfl ?_
        refine jo_getrE (pc := 15) ok_10_9 (ik_0 hw) rf_0_9 gw_640 dX10_areUsable_15 ?_
        refine jo_getz (pc := 18) ok_4_3 (ik_40 hw) gw_308 dX10_areUsable_18 (fun b3 => ?_)
        refine jo_ifz_eq (pc := 21) dX10_areUsable_21 (tgt := 28) rfl ?_ ?_
        · refine jo_lv (lv' := []) [] rfl ?_
          exact jo_leaf (by rfl) (h28_1 ())
        · refine jo_iconst (pc := 24) dX10_areUsable_24 (ic_i_1) ?_
          refine jo_goto (pc := 25) dX10_areUsable_25 (tgt := 29) rfl ?_
          exact jo_breturn (pc := 29) (b := true) rfl rfl dX10_areUsable_29
theorem c_X10_areUsable {w : Wd} (hw : WOK w) {σ : Mem} {x0 : Int32} {x1 : Int32} : ∀ r, f_X10_areUsable σ x0 x1 = some r → MC w mu_X10_areUsable (vB r) [.ref (adr w 0), .int x0, .int x1] σ σ := mc_ofP ok_X10_areUsable rfl (Nat.le_of_ble_eq_true rfl) (t_X10_areUsable hw)
abbrev mu_X10_keep : MD := (yX10_keep, cX10_keep, 2, some .boolean, 4)
theorem ok_X10_keep : MOK mu_X10_keep 1 := ⟨gw_831, gw_158, (by decide +kernel : plainFor yX10_keep = true), ⟨(by decide +kernel : yX10_keep.cls ≠ "java/lang/invoke/MethodHandle"), (by decide +kernel : yX10_keep.cls ≠ "java/lang/invoke/VarHandle"), (by decide +kernel : (parseMethodDescriptor yX10_keep.desc).map (fun d => d.parameters.length) = some 1)⟩, Nat.le_of_ble_eq_true rfl⟩
noncomputable def f_X10_keep (σ : Mem) (x0 : Int32) : Option (Bool × Mem) :=
  (f_X10_isRegister σ x0).bind (fun (b1 : Bool) => if b1 then (f_X0_isWithin σ 176 999).bind (fun (b2 : Bool) => if b2 then (f_X10_beginAct σ).bind (fun (σ3 : Mem) => gR 5 x0 (fun (p4 : Nat) => (f_X0_copy σ3 176 p4).bind (fun (σ5 : Mem) => some (true, σ5)))) else some (false, σ)) else some (false, σ))
theorem t_X10_keep {w : Wd} (hw : WOK w) {σ : Mem} {x0 : Int32} : JO w mu_X10_keep vB σ [(0, .ref (adr w 0)), (1, .int x0)] [] 0 (f_X10_keep σ x0) some := by
  unfold f_X10_keep
  refine jo_iload_n (pc := 0) 1 rfl dX10_keep_0 rfl ?_
  refine jo_cS_Z_p (pc := 1) (μ' := mu_X10_isRegister) (fx := f_X10_isRegister σ x0) (As := [.int x0]) (c_X10_isRegister hw) (ok_X10_isRegister) (ltb rfl) (all2 gw_803 gw_804) rfl rfl (Nat.le_of_ble_eq_true rfl) dX10_keep_1 (fun b1 => ?_)
  refine jo_ifz_eq (pc := 4) dX10_keep_4 (tgt := 20) rfl ?_ ?_
  · refine jo_iconst (pc := 20) dX10_keep_20 (ic_i_0) ?_
    exact jo_breturn (pc := 21) (b := false) rfl rfl dX10_keep_21
  · refine jo_aload_n (pc := 7) 0 rfl dX10_keep_7 rfl ?_
    refine jo_getrE (pc := 8) ok_10_15 (ik_0 hw) rf_0_15 gw_646 dX10_keep_8 ?_
    refine jo_ldc2 (pc := 11) dX10_keep_11 gw_824 ?_
    refine jo_cS_Z_p (pc := 14) (μ' := mu_X0_isWithin) (fx := f_X0_isWithin σ 176 999) (As := [.ref (adr w 176), .long 999]) (c_X0_isWithin hw (ik_176 hw)) (ok_X0_isWithin) (ltb rfl) (all2 gw_825 gw_826) rfl rfl (Nat.le_of_ble_eq_true rfl) dX10_keep_14 (fun b2 => ?_)
    refine jo_ifz_ne (pc := 17) dX10_keep_17 (tgt := 22) rfl ?_ ?_
    · refine jo_aload_n (pc := 22) 0 rfl dX10_keep_22 rfl ?_
      refine jo_cV_V_i (pc := 23) (μ' := mu_X10_beginAct) (fx := f_X10_beginAct σ) (As := []) (c_X10_beginAct hw) (ok_X10_beginAct) (ltb rfl) (all3 gw_694 gw_696 gw_10) (ik_0 hw) (by decide) (q := (RX10, TX10, 17)) rfl rfl rfl rfl (Nat.le_of_ble_eq_true rfl) dX10_keep_23 (fun σ3 => ?_)
      refine jo_aload_n (pc := 26) 0 rfl dX10_keep_26 rfl ?_
      refine jo_getrE (pc := 27) ok_10_15 (ik_0 hw) rf_0_15 gw_646 dX10_keep_27 ?_
      refine jo_aload_n (pc := 30) 0 rfl dX10_keep_30 rfl ?_
      refine jo_getrE (pc := 31) ok_10_0 (ik_0 hw) rf_0_0 gw_631 dX10_keep_31 ?_
      refine jo_getrE (pc := 34) ok_8_1 (ik_1 hw) rf_1_1 gw_221 dX10_keep_34 ?_
      refine jo_iload_n (pc := 37) 1 rfl dX10_keep_37 rfl ?_
      refine jo_aaldG (pc := 38) (z := 13) hw (ik_5 hw) (by decide) (t := 4) rfl rfl (by decide) dX10_keep_38 (fun p4 hp4 => ?_)
      refine jo_cS_V_i (pc := 39) (μ' := mu_X0_copy) (fx := f_X0_copy σ3 176 p4) (As := [.ref (adr w 176), .ref (adr w p4)]) (c_X0_copy hw (ik_176 hw) (hp4)) (ok_X0_copy) (ltb rfl) (all2 gw_832 gw_704) rfl rfl (Nat.le_of_ble_eq_true rfl) dX10_keep_39 (fun σ5 => ?_)
      refine jo_iconst (pc := 42) dX10_keep_42 (ic_i_1) ?_
      exact jo_breturn (pc := 43) (b := true) rfl rfl dX10_keep_43
    · refine jo_iconst (pc := 20) dX10_keep_20 (ic_i_0) ?_
      exact jo_breturn (pc := 21) (b := false) rfl rfl dX10_keep_21
theorem c_X10_keep {w : Wd} (hw : WOK w) {σ : Mem} {x0 : Int32} : ∀ r σ', f_X10_keep σ x0 = some (r, σ') → MC w mu_X10_keep (vB r) [.ref (adr w 0), .int x0] σ σ' := mc_of ok_X10_keep rfl (Nat.le_of_ble_eq_true rfl) (t_X10_keep hw)
abbrev mu_X10_keepCounted : MD := (yX10_keepCounted, cX10_keepCounted, 2, some .boolean, 5)
theorem ok_X10_keepCounted : MOK mu_X10_keepCounted 1 := ⟨gw_823, gw_158, (by decide +kernel : plainFor yX10_keepCounted = true), ⟨(by decide +kernel : yX10_keepCounted.cls ≠ "java/lang/invoke/MethodHandle"), (by decide +kernel : yX10_keepCounted.cls ≠ "java/lang/invoke/VarHandle"), (by decide +kernel : (parseMethodDescriptor yX10_keepCounted.desc).map (fun d => d.parameters.length) = some 1)⟩, Nat.le_of_ble_eq_true rfl⟩
noncomputable def f_X10_keepCounted (σ : Mem) (x0 : Int32) : Option (Bool × Mem) :=
  (f_X0_isWithin σ 176 999).bind (fun (b1 : Bool) => if b1 then bq (f_X10_keep σ x0) (fun (b2 : Bool) (σ3 : Mem) => some (b2, σ3)) else gI σ 16 0 (fun (v4 : Int32) => pI σ 16 0 (v4 + 1) (fun (σ5 : Mem) => some (false, σ5))))
theorem t_X10_keepCounted {w : Wd} (hw : WOK w) {σ : Mem} {x0 : Int32} : JO w mu_X10_keepCounted vB σ [(0, .ref (adr w 0)), (1, .int x0)] [] 0 (f_X10_keepCounted σ x0) some := by
  unfold f_X10_keepCounted
  refine jo_aload_n (pc := 0) 0 rfl dX10_keepCounted_0 rfl ?_
  refine jo_getrE (pc := 1) ok_10_15 (ik_0 hw) rf_0_15 gw_646 dX10_keepCounted_1 ?_
  refine jo_ldc2 (pc := 4) dX10_keepCounted_4 gw_824 ?_
  refine jo_cS_Z_p (pc := 7) (μ' := mu_X0_isWithin) (fx := f_X0_isWithin σ 176 999) (As := [.ref (adr w 176), .long 999]) (c_X0_isWithin hw (ik_176 hw)) (ok_X0_isWithin) (ltb rfl) (all2 gw_825 gw_826) rfl rfl (Nat.le_of_ble_eq_true rfl) dX10_keepCounted_7 (fun b1 => ?_)
  refine jo_ifz_ne (pc := 10) dX10_keepCounted_10 (tgt := 28) rfl ?_ ?_
  · refine jo_aload_n (pc := 28) 0 rfl dX10_keepCounted_28 rfl ?_
    refine jo_iload_n (pc := 29) 1 rfl dX10_keepCounted_29 rfl ?_
    refine jo_cV_Z_i (pc := 30) (μ' := mu_X10_keep) (fx := f_X10_keep σ x0) (As := [.int x0]) (c_X10_keep hw) (ok_X10_keep) (ltb rfl) (all3 gw_828 gw_830 gw_15) (ik_0 hw) (by decide) (q := (RX10, TX10, 17)) rfl rfl rfl rfl (Nat.le_of_ble_eq_true rfl) dX10_keepCounted_30 (fun b2 σ3 => ?_)
    exact jo_breturn (pc := 33) (b := b2) rfl rfl dX10_keepCounted_33
  · refine jo_aload_n (pc := 13) 0 rfl dX10_keepCounted_13 rfl ?_
    refine jo_getrE (pc := 14) ok_10_0 (ik_0 hw) rf_0_0 gw_631 dX10_keepCounted_14 ?_
    refine jo_getrE (pc := 17) ok_8_2 (ik_1 hw) rf_1_2 gw_224 dX10_keepCounted_17 ?_
    refine jo_iconst (pc := 20) dX10_keepCounted_20 (ic_i_0) ?_
    refine jo_dup2 (pc := 21) dX10_keepCounted_21 rfl rfl ?_
    refine jo_iald (pc := 22) (ik_16 hw) dX10_keepCounted_22 (fun v4 => ?_)
    refine jo_iconst (pc := 23) dX10_keepCounted_23 (ic_i_1) ?_
    refine jo_iadd (pc := 24) dX10_keepCounted_24 ?_
    refine jo_iast (pc := 25) (ik_16 hw) dX10_keepCounted_25 (fun σ5 => ?_)
    refine jo_iconst (pc := 26) dX10_keepCounted_26 (ic_i_0) ?_
    exact jo_breturn (pc := 27) (b := false) rfl rfl dX10_keepCounted_27
theorem c_X10_keepCounted {w : Wd} (hw : WOK w) {σ : Mem} {x0 : Int32} : ∀ r σ', f_X10_keepCounted σ x0 = some (r, σ') → MC w mu_X10_keepCounted (vB r) [.ref (adr w 0), .int x0] σ σ' := mc_of ok_X10_keepCounted rfl (Nat.le_of_ble_eq_true rfl) (t_X10_keepCounted hw)
abbrev mu_X10_multiply : MD := (yX10_multiply, cX10_multiply, 4, some .boolean, 6)
theorem ok_X10_multiply : MOK mu_X10_multiply 3 := ⟨gw_809, gw_158, (by decide +kernel : plainFor yX10_multiply = true), ⟨(by decide +kernel : yX10_multiply.cls ≠ "java/lang/invoke/MethodHandle"), (by decide +kernel : yX10_multiply.cls ≠ "java/lang/invoke/VarHandle"), (by decide +kernel : (parseMethodDescriptor yX10_multiply.desc).map (fun d => d.parameters.length) = some 3)⟩, Nat.le_of_ble_eq_true rfl⟩
noncomputable def f_X10_multiply (σ : Mem) (x0 : Int32) (x1 : Int32) (x2 : Int32) : Option (Bool × Mem) :=
  (f_X10_areUsable σ x0 x1).bind (fun (b1 : Bool) => if b1 then (f_X10_isRegister σ x2).bind (fun (b2 : Bool) => if b2 then gR 5 x1 (fun (p3 : Nat) => gR 5 x2 (fun (p4 : Nat) => (f_X0_product σ 176 p3 p4).bind (fun (σ5 : Mem) => bq (f_X10_keepCounted σ5 x0) (fun (b6 : Bool) (σ7 : Mem) => some (b6, σ7))))) else some (false, σ)) else some (false, σ))
theorem t_X10_multiply {w : Wd} (hw : WOK w) {σ : Mem} {x0 : Int32} {x1 : Int32} {x2 : Int32} : JO w mu_X10_multiply vB σ [(0, .ref (adr w 0)), (1, .int x0), (2, .int x1), (3, .int x2)] [] 0 (f_X10_multiply σ x0 x1 x2) some := by
  unfold f_X10_multiply
  refine jo_aload_n (pc := 0) 0 rfl dX10_multiply_0 rfl ?_
  refine jo_iload_n (pc := 1) 1 rfl dX10_multiply_1 rfl ?_
  refine jo_iload_n (pc := 2) 2 rfl dX10_multiply_2 rfl ?_
  refine jo_cV_Z_p (pc := 3) (μ' := mu_X10_areUsable) (fx := f_X10_areUsable σ x0 x1) (As := [.int x0, .int x1]) (c_X10_areUsable hw) (ok_X10_areUsable) (ltb rfl) (all3 gw_810 gw_812 gw_13) (ik_0 hw) (by decide) (q := (RX10, TX10, 17)) rfl rfl rfl rfl (Nat.le_of_ble_eq_true rfl) dX10_multiply_3 (fun b1 => ?_)
  refine jo_ifz_eq (pc := 6) dX10_multiply_6 (tgt := 16) rfl ?_ ?_
  · refine jo_iconst (pc := 16) dX10_multiply_16 (ic_i_0) ?_
    exact jo_breturn (pc := 17) (b := false) rfl rfl dX10_multiply_17
  · refine jo_iload_n (pc := 9) 3 rfl dX10_multiply_9 rfl ?_
    refine jo_cS_Z_p (pc := 10) (μ' := mu_X10_isRegister) (fx := f_X10_isRegister σ x2) (As := [.int x2]) (c_X10_isRegister hw) (ok_X10_isRegister) (ltb rfl) (all2 gw_803 gw_804) rfl rfl (Nat.le_of_ble_eq_true rfl) dX10_multiply_10 (fun b2 => ?_)
    refine jo_ifz_ne (pc := 13) dX10_multiply_13 (tgt := 18) rfl ?_ ?_
    · refine jo_aload_n (pc := 18) 0 rfl dX10_multiply_18 rfl ?_
      refine jo_getrE (pc := 19) ok_10_10 (ik_0 hw) rf_0_10 gw_641 dX10_multiply_19 ?_
      refine jo_aload_n (pc := 22) 0 rfl dX10_multiply_22 rfl ?_
      refine jo_getrE (pc := 23) ok_10_15 (ik_0 hw) rf_0_15 gw_646 dX10_multiply_23 ?_
      refine jo_aload_n (pc := 26) 0 rfl dX10_multiply_26 rfl ?_
      refine jo_getrE (pc := 27) ok_10_0 (ik_0 hw) rf_0_0 gw_631 dX10_multiply_27 ?_
      refine jo_getrE (pc := 30) ok_8_1 (ik_1 hw) rf_1_1 gw_221 dX10_multiply_30 ?_
      refine jo_iload_n (pc := 33) 2 rfl dX10_multiply_33 rfl ?_
      refine jo_aaldG (pc := 34) (z := 13) hw (ik_5 hw) (by decide) (t := 4) rfl rfl (by decide) dX10_multiply_34 (fun p3 hp3 => ?_)
      refine jo_aload_n (pc := 35) 0 rfl dX10_multiply_35 rfl ?_
      refine jo_getrE (pc := 36) ok_10_0 (ik_0 hw) rf_0_0 gw_631 dX10_multiply_36 ?_
      refine jo_getrE (pc := 39) ok_8_1 (ik_1 hw) rf_1_1 gw_221 dX10_multiply_39 ?_
      refine jo_iload_n (pc := 42) 3 rfl dX10_multiply_42 rfl ?_
      refine jo_aaldG (pc := 43) (z := 13) hw (ik_5 hw) (by decide) (t := 4) rfl rfl (by decide) dX10_multiply_43 (fun p4 hp4 => ?_)
      refine jo_cV_V_i (pc := 44) (μ' := mu_X0_product) (fx := f_X0_product σ 176 p3 p4) (As := [.ref (adr w 176), .ref (adr w p3), .ref (adr w p4)]) (c_X0_product hw (ik_176 hw) (hp3) (hp4)) (ok_X0_product) (ltb rfl) (all3 gw_814 gw_815 gw_816) (ik_72 hw) (by decide) (q := (RX0, TX0, 8)) rfl rfl rfl rfl (Nat.le_of_ble_eq_true rfl) dX10_multiply_44 (fun σ5 => ?_)
      refine jo_aload_n (pc := 47) 0 rfl dX10_multiply_47 rfl ?_
      refine jo_iload_n (pc := 48) 1 rfl dX10_multiply_48 rfl ?_
      refine jo_cV_Z_i (pc := 49) (μ' := mu_X10_keepCounted) (fx := f_X10_keepCounted σ5 x0) (As := [.int x0]) (c_X10_keepCounted hw) (ok_X10_keepCounted) (ltb rfl) (all3 gw_820 gw_822 gw_14) (ik_0 hw) (by decide) (q := (RX10, TX10, 17)) rfl rfl rfl rfl (Nat.le_of_ble_eq_true rfl) dX10_multiply_49 (fun b6 σ7 => ?_)
      exact jo_breturn (pc := 52) (b := b6) rfl rfl dX10_multiply_52
    · refine jo_iconst (pc := 16) dX10_multiply_16 (ic_i_0) ?_
      exact jo_breturn (pc := 17) (b := false) rfl rfl dX10_multiply_17
theorem c_X10_multiply {w : Wd} (hw : WOK w) {σ : Mem} {x0 : Int32} {x1 : Int32} {x2 : Int32} : ∀ r σ', f_X10_multiply σ x0 x1 x2 = some (r, σ') → MC w mu_X10_multiply (vB r) [.ref (adr w 0), .int x0, .int x1, .int x2] σ σ' := mc_of ok_X10_multiply rfl (Nat.le_of_ble_eq_true rfl) (t_X10_multiply hw)
abbrev mu_X10_invert : MD := (yX10_invert, cX10_invert, 3, some .boolean, 6)
theorem ok_X10_invert : MOK mu_X10_invert 2 := ⟨gw_836, gw_158, (by decide +kernel : plainFor yX10_invert = true), ⟨(by decide +kernel : yX10_invert.cls ≠ "java/lang/invoke/MethodHandle"), (by decide +kernel : yX10_invert.cls ≠ "java/lang/invoke/VarHandle"), (by decide +kernel : (parseMethodDescriptor yX10_invert.desc).map (fun d => d.parameters.length) = some 2)⟩, Nat.le_of_ble_eq_true rfl⟩
noncomputable def f_X10_invert (σ : Mem) (x0 : Int32) (x1 : Int32) : Option (Bool × Mem) :=
  (f_X10_areUsable σ x0 x1).bind (fun (b1 : Bool) => if b1 then gR 5 x1 (fun (p2 : Nat) => (f_X0_inverse σ 176 p2).bind (fun (σ3 : Mem) => bq (f_X10_keepCounted σ3 x0) (fun (b4 : Bool) (σ5 : Mem) => some (b4, σ5)))) else some (false, σ))
theorem t_X10_invert {w : Wd} (hw : WOK w) {σ : Mem} {x0 : Int32} {x1 : Int32} : JO w mu_X10_invert vB σ [(0, .ref (adr w 0)), (1, .int x0), (2, .int x1)] [] 0 (f_X10_invert σ x0 x1) some := by
  unfold f_X10_invert
  refine jo_aload_n (pc := 0) 0 rfl dX10_invert_0 rfl ?_
  refine jo_iload_n (pc := 1) 1 rfl dX10_invert_1 rfl ?_
  refine jo_iload_n (pc := 2) 2 rfl dX10_invert_2 rfl ?_
  refine jo_cV_Z_p (pc := 3) (μ' := mu_X10_areUsable) (fx := f_X10_areUsable σ x0 x1) (As := [.int x0, .int x1]) (c_X10_areUsable hw) (ok_X10_areUsable) (ltb rfl) (all3 gw_810 gw_812 gw_13) (ik_0 hw) (by decide) (q := (RX10, TX10, 17)) rfl rfl rfl rfl (Nat.le_of_ble_eq_true rfl) dX10_invert_3 (fun b1 => ?_)
  refine jo_ifz_ne (pc := 6) dX10_invert_6 (tgt := 11) rfl ?_ ?_
  · refine jo_aload_n (pc := 11) 0 rfl dX10_invert_11 rfl ?_
    refine jo_getrE (pc := 12) ok_10_10 (ik_0 hw) rf_0_10 gw_641 dX10_invert_12 ?_
    refine jo_aload_n (pc := 15) 0 rfl dX10_invert_15 rfl ?_
    refine jo_getrE (pc := 16) ok_10_15 (ik_0 hw) rf_0_15 gw_646 dX10_invert_16 ?_
    refine jo_aload_n (pc := 19) 0 rfl dX10_invert_19 rfl ?_
    refine jo_getrE (pc := 20) ok_10_0 (ik_0 hw) rf_0_0 gw_631 dX10_invert_20 ?_
    refine jo_getrE (pc := 23) ok_8_1 (ik_1 hw) rf_1_1 gw_221 dX10_invert_23 ?_
    refine jo_iload_n (pc := 26) 2 rfl dX10_invert_26 rfl ?_
    refine jo_aaldG (pc := 27) (z := 13) hw (ik_5 hw) (by decide) (t := 4) rfl rfl (by decide) dX10_invert_27 (fun p2 hp2 => ?_)
    refine jo_cV_V_i (pc := 28) (μ' := mu_X0_inverse) (fx := f_X0_inverse σ 176 p2) (As := [.ref (adr w 176), .ref (adr w p2)]) (c_X0_inverse hw (ik_176 hw) (hp2)) (ok_X0_inverse) (ltb rfl) (all3 gw_837 gw_838 gw_839) (ik_72 hw) (by decide) (q := (RX0, TX0, 8)) rfl rfl rfl rfl (Nat.le_of_ble_eq_true rfl) dX10_invert_28 (fun σ3 => ?_)
    refine jo_aload_n (pc := 31) 0 rfl dX10_invert_31 rfl ?_
    refine jo_iload_n (pc := 32) 1 rfl dX10_invert_32 rfl ?_
    refine jo_cV_Z_i (pc := 33) (μ' := mu_X10_keepCounted) (fx := f_X10_keepCounted σ3 x0) (As := [.int x0]) (c_X10_keepCounted hw) (ok_X10_keepCounted) (ltb rfl) (all3 gw_820 gw_822 gw_14) (ik_0 hw) (by decide) (q := (RX10, TX10, 17)) rfl rfl rfl rfl (Nat.le_of_ble_eq_true rfl) dX10_invert_33 (fun b4 σ5 => ?_)
    exact jo_breturn (pc := 36) (b := b4) rfl rfl dX10_invert_36
  · refine jo_iconst (pc := 9) dX10_invert_9 (ic_i_0) ?_
    exact jo_breturn (pc := 10) (b := false) rfl rfl dX10_invert_10
theorem c_X10_invert {w : Wd} (hw : WOK w) {σ : Mem} {x0 : Int32} {x1 : Int32} : ∀ r σ', f_X10_invert σ x0 x1 = some (r, σ') → MC w mu_X10_invert (vB r) [.ref (adr w 0), .int x0, .int x1] σ σ' := mc_of ok_X10_invert rfl (Nat.le_of_ble_eq_true rfl) (t_X10_invert hw)
abbrev mu_X10_power : MD := (yX10_power, cX10_power, 4, some .boolean, 6)
theorem ok_X10_power : MOK mu_X10_power 3 := ⟨gw_844, gw_158, (by decide +kernel : plainFor yX10_power = true), ⟨(by decide +kernel : yX10_power.cls ≠ "java/lang/invoke/MethodHandle"), (by decide +kernel : yX10_power.cls ≠ "java/lang/invoke/VarHandle"), (by decide +kernel : (parseMethodDescriptor yX10_power.desc).map (fun d => d.parameters.length) = some 3)⟩, Nat.le_of_ble_eq_true rfl⟩
noncomputable def f_X10_power (σ : Mem) (x0 : Int32) (x1 : Int32) (x2 : Int32) : Option (Bool × Mem) :=
  (f_X10_areUsable σ x0 x1).bind (fun (b1 : Bool) => if b1 then if x2 < (-99) then (some (false, σ)) else (if x2 ≤ 99 then (gR 5 x1 (fun (p2 : Nat) => (f_X0_raise σ 176 p2 (Int32.toInt64 x2)).bind (fun (σ3 : Mem) => bq (f_X10_keepCounted σ3 x0) (fun (b4 : Bool) (σ5 : Mem) => some (b4, σ5))))) else (some (false, σ))) else some (false, σ))
theorem t_X10_power {w : Wd} (hw : WOK w) {σ : Mem} {x0 : Int32} {x1 : Int32} {x2 : Int32} : JO w mu_X10_power vB σ [(0, .ref (adr w 0)), (1, .int x0), (2, .int x1), (3, .int x2)] [] 0 (f_X10_power σ x0 x1 x2) some := by
  unfold f_X10_power
  refine jo_aload_n (pc := 0) 0 rfl dX10_power_0 rfl ?_
  refine jo_iload_n (pc := 1) 1 rfl dX10_power_1 rfl ?_
  refine jo_iload_n (pc := 2) 2 rfl dX10_power_2 rfl ?_
  refine jo_cV_Z_p (pc := 3) (μ' := mu_X10_areUsable) (fx := f_X10_areUsable σ x0 x1) (As := [.int x0, .int x1]) (c_X10_areUsable hw) (ok_X10_areUsable) (ltb rfl) (all3 gw_810 gw_812 gw_13) (ik_0 hw) (by decide) (q := (RX10, TX10, 17)) rfl rfl rfl rfl (Nat.le_of_ble_eq_true rfl) dX10_power_3 (fun b1 => ?_)
  refine jo_ifz_eq (pc := 6) dX10_power_6 (tgt := 21) rfl ?_ ?_
  · refine jo_iconst (pc := 21) dX10_power_21 (ic_i_0) ?_
    exact jo_breturn (pc := 22) (b := false) rfl rfl dX10_power_22
  · refine jo_iload_n (pc := 9) 3 rfl dX10_power_9 rfl ?_
    refine jo_bipush (pc := 10) dX10_power_10 (ic_b_m99) ?_
    refine jo_icmp_lt (pc := 12) dX10_power_12 (tgt := 21) rfl ?_ ?_
    · refine jo_iconst (pc := 21) dX10_power_21 (ic_i_0) ?_
      exact jo_breturn (pc := 22) (b := false) rfl rfl dX10_power_22
    · refine jo_iload_n (pc := 15) 3 rfl dX10_power_15 rfl ?_
      refine jo_bipush (pc := 16) dX10_power_16 (ic_b_99) ?_
      refine jo_icmp_le (pc := 18) dX10_power_18 (tgt := 23) rfl ?_ ?_
      · refine jo_aload_n (pc := 23) 0 rfl dX10_power_23 rfl ?_
        refine jo_getrE (pc := 24) ok_10_10 (ik_0 hw) rf_0_10 gw_641 dX10_power_24 ?_
        refine jo_aload_n (pc := 27) 0 rfl dX10_power_27 rfl ?_
        refine jo_getrE (pc := 28) ok_10_15 (ik_0 hw) rf_0_15 gw_646 dX10_power_28 ?_
        refine jo_aload_n (pc := 31) 0 rfl dX10_power_31 rfl ?_
        refine jo_getrE (pc := 32) ok_10_0 (ik_0 hw) rf_0_0 gw_631 dX10_power_32 ?_
        refine jo_getrE (pc := 35) ok_8_1 (ik_1 hw) rf_1_1 gw_221 dX10_power_35 ?_
        refine jo_iload_n (pc := 38) 2 rfl dX10_power_38 rfl ?_
        refine jo_aaldG (pc := 39) (z := 13) hw (ik_5 hw) (by decide) (t := 4) rfl rfl (by decide) dX10_power_39 (fun p2 hp2 => ?_)
        refine jo_iload_n (pc := 40) 3 rfl dX10_power_40 rfl ?_
        refine jo_i2l (pc := 41) dX10_power_41 ?_
        refine jo_cV_V_i (pc := 42) (μ' := mu_X0_raise) (fx := f_X0_raise σ 176 p2 (Int32.toInt64 x2)) (As := [.ref (adr w 176), .ref (adr w p2), .long (Int32.toInt64 x2)]) (c_X0_raise hw (ik_176 hw) (hp2)) (ok_X0_raise) (ltb rfl) (all3 gw_845 gw_846 gw_847) (ik_72 hw) (by decide) (q := (RX0, TX0, 8)) rfl rfl rfl rfl (Nat.le_of_ble_eq_true rfl) dX10_power_42 (fun σ3 => ?_)
        refine jo_aload_n (pc := 45) 0 rfl dX10_power_45 rfl ?_
        refine jo_iload_n (pc := 46) 1 rfl dX10_power_46 rfl ?_
        refine jo_cV_Z_i (pc := 47) (μ' := mu_X10_keepCounted) (fx := f_X10_keepCounted σ3 x0) (As := [.int x0]) (c_X10_keepCounted hw) (ok_X10_keepCounted) (ltb rfl) (all3 gw_820 gw_822 gw_14) (ik_0 hw) (by decide) (q := (RX10, TX10, 17)) rfl rfl rfl rfl (Nat.le_of_ble_eq_true rfl) dX10_power_47 (fun b4 σ5 => ?_)
        exact jo_breturn (pc := 50) (b := b4) rfl rfl dX10_power_50
      · refine jo_iconst (pc := 21) dX10_power_21 (ic_i_0) ?_
        exact jo_breturn (pc := 22) (b := false) rfl rfl dX10_power_22
theorem c_X10_power {w : Wd} (hw : WOK w) {σ : Mem} {x0 : Int32} {x1 : Int32} {x2 : Int32} : ∀ r σ', f_X10_power σ x0 x1 x2 = some (r, σ') → MC w mu_X10_power (vB r) [.ref (adr w 0), .int x0, .int x1, .int x2] σ σ' := mc_of ok_X10_power rfl (Nat.le_of_ble_eq_true rfl) (t_X10_power hw)
abbrev mu_X10_commute : MD := (yX10_commute, cX10_commute, 4, some .boolean, 6)
theorem ok_X10_commute : MOK mu_X10_commute 3 := ⟨gw_869, gw_158, (by decide +kernel : plainFor yX10_commute = true), ⟨(by decide +kernel : yX10_commute.cls ≠ "java/lang/invoke/MethodHandle"), (by decide +kernel : yX10_commute.cls ≠ "java/lang/invoke/VarHandle"), (by decide +kernel : (parseMethodDescriptor yX10_commute.desc).map (fun d => d.parameters.length) = some 3)⟩, Nat.le_of_ble_eq_true rfl⟩
noncomputable def f_X10_commute (σ : Mem) (x0 : Int32) (x1 : Int32) (x2 : Int32) : Option (Bool × Mem) :=
  (f_X10_areUsable σ x0 x1).bind (fun (b1 : Bool) => if b1 then (f_X10_isRegister σ x2).bind (fun (b2 : Bool) => if b2 then gR 5 x1 (fun (p3 : Nat) => gR 5 x2 (fun (p4 : Nat) => (f_X0_commutator σ 176 p3 p4).bind (fun (σ5 : Mem) => bq (f_X10_keepCounted σ5 x0) (fun (b6 : Bool) (σ7 : Mem) => some (b6, σ7))))) else some (false, σ)) else some (false, σ))
theorem t_X10_commute {w : Wd} (hw : WOK w) {σ : Mem} {x0 : Int32} {x1 : Int32} {x2 : Int32} : JO w mu_X10_commute vB σ [(0, .ref (adr w 0)), (1, .int x0), (2, .int x1), (3, .int x2)] [] 0 (f_X10_commute σ x0 x1 x2) some := by
  unfold f_X10_commute
  refine jo_aload_n (pc := 0) 0 rfl dX10_commute_0 rfl ?_
  refine jo_iload_n (pc := 1) 1 rfl dX10_commute_1 rfl ?_
  refine jo_iload_n (pc := 2) 2 rfl dX10_commute_2 rfl ?_
  refine jo_cV_Z_p (pc := 3) (μ' := mu_X10_areUsable) (fx := f_X10_areUsable σ x0 x1) (As := [.int x0, .int x1]) (c_X10_areUsable hw) (ok_X10_areUsable) (ltb rfl) (all3 gw_810 gw_812 gw_13) (ik_0 hw) (by decide) (q := (RX10, TX10, 17)) rfl rfl rfl rfl (Nat.le_of_ble_eq_true rfl) dX10_commute_3 (fun b1 => ?_)
  refine jo_ifz_eq (pc := 6) dX10_commute_6 (tgt := 16) rfl ?_ ?_
  · refine jo_iconst (pc := 16) dX10_commute_16 (ic_i_0) ?_
    exact jo_breturn (pc := 17) (b := false) rfl rfl dX10_commute_17
  · refine jo_iload_n (pc := 9) 3 rfl dX10_commute_9 rfl ?_
    refine jo_cS_Z_p (pc := 10) (μ' := mu_X10_isRegister) (fx := f_X10_isRegister σ x2) (As := [.int x2]) (c_X10_isRegister hw) (ok_X10_isRegister) (ltb rfl) (all2 gw_803 gw_804) rfl rfl (Nat.le_of_ble_eq_true rfl) dX10_commute_10 (fun b2 => ?_)
    refine jo_ifz_ne (pc := 13) dX10_commute_13 (tgt := 18) rfl ?_ ?_
    · refine jo_aload_n (pc := 18) 0 rfl dX10_commute_18 rfl ?_
      refine jo_getrE (pc := 19) ok_10_10 (ik_0 hw) rf_0_10 gw_641 dX10_commute_19 ?_
      refine jo_aload_n (pc := 22) 0 rfl dX10_commute_22 rfl ?_
      refine jo_getrE (pc := 23) ok_10_15 (ik_0 hw) rf_0_15 gw_646 dX10_commute_23 ?_
      refine jo_aload_n (pc := 26) 0 rfl dX10_commute_26 rfl ?_
      refine jo_getrE (pc := 27) ok_10_0 (ik_0 hw) rf_0_0 gw_631 dX10_commute_27 ?_
      refine jo_getrE (pc := 30) ok_8_1 (ik_1 hw) rf_1_1 gw_221 dX10_commute_30 ?_
      refine jo_iload_n (pc := 33) 2 rfl dX10_commute_33 rfl ?_
      refine jo_aaldG (pc := 34) (z := 13) hw (ik_5 hw) (by decide) (t := 4) rfl rfl (by decide) dX10_commute_34 (fun p3 hp3 => ?_)
      refine jo_aload_n (pc := 35) 0 rfl dX10_commute_35 rfl ?_
      refine jo_getrE (pc := 36) ok_10_0 (ik_0 hw) rf_0_0 gw_631 dX10_commute_36 ?_
      refine jo_getrE (pc := 39) ok_8_1 (ik_1 hw) rf_1_1 gw_221 dX10_commute_39 ?_
      refine jo_iload_n (pc := 42) 3 rfl dX10_commute_42 rfl ?_
      refine jo_aaldG (pc := 43) (z := 13) hw (ik_5 hw) (by decide) (t := 4) rfl rfl (by decide) dX10_commute_43 (fun p4 hp4 => ?_)
      refine jo_cV_V_i (pc := 44) (μ' := mu_X0_commutator) (fx := f_X0_commutator σ 176 p3 p4) (As := [.ref (adr w 176), .ref (adr w p3), .ref (adr w p4)]) (c_X0_commutator hw (ik_176 hw) (hp3) (hp4)) (ok_X0_commutator) (ltb rfl) (all3 gw_870 gw_871 gw_872) (ik_72 hw) (by decide) (q := (RX0, TX0, 8)) rfl rfl rfl rfl (Nat.le_of_ble_eq_true rfl) dX10_commute_44 (fun σ5 => ?_)
      refine jo_aload_n (pc := 47) 0 rfl dX10_commute_47 rfl ?_
      refine jo_iload_n (pc := 48) 1 rfl dX10_commute_48 rfl ?_
      refine jo_cV_Z_i (pc := 49) (μ' := mu_X10_keepCounted) (fx := f_X10_keepCounted σ5 x0) (As := [.int x0]) (c_X10_keepCounted hw) (ok_X10_keepCounted) (ltb rfl) (all3 gw_820 gw_822 gw_14) (ik_0 hw) (by decide) (q := (RX10, TX10, 17)) rfl rfl rfl rfl (Nat.le_of_ble_eq_true rfl) dX10_commute_49 (fun b6 σ7 => ?_)
      exact jo_breturn (pc := 52) (b := b6) rfl rfl dX10_commute_52
    · refine jo_iconst (pc := 16) dX10_commute_16 (ic_i_0) ?_
      exact jo_breturn (pc := 17) (b := false) rfl rfl dX10_commute_17
theorem c_X10_commute {w : Wd} (hw : WOK w) {σ : Mem} {x0 : Int32} {x1 : Int32} {x2 : Int32} : ∀ r σ', f_X10_commute σ x0 x1 x2 = some (r, σ') → MC w mu_X10_commute (vB r) [.ref (adr w 0), .int x0, .int x1, .int x2] σ σ' := mc_of ok_X10_commute rfl (Nat.le_of_ble_eq_true rfl) (t_X10_commute hw)
abbrev mu_X10_conjugate : MD := (yX10_conjugate, cX10_conjugate, 4, some .boolean, 6)
theorem ok_X10_conjugate : MOK mu_X10_conjugate 3 := ⟨gw_878, gw_158, (by decide +kernel : plainFor yX10_conjugate = true), ⟨(by decide +kernel : yX10_conjugate.cls ≠ "java/lang/invoke/MethodHandle"), (by decide +kernel : yX10_conjugate.cls ≠ "java/lang/invoke/VarHandle"), (by decide +kernel : (parseMethodDescriptor yX10_conjugate.desc).map (fun d => d.parameters.length) = some 3)⟩, Nat.le_of_ble_eq_true rfl⟩
noncomputable def f_X10_conjugate (σ : Mem) (x0 : Int32) (x1 : Int32) (x2 : Int32) : Option (Bool × Mem) :=
  (f_X10_areUsable σ x0 x1).bind (fun (b1 : Bool) => if b1 then (f_X10_isRegister σ x2).bind (fun (b2 : Bool) => if b2 then gR 5 x1 (fun (p3 : Nat) => gR 5 x2 (fun (p4 : Nat) => (f_X0_conjugated σ 176 p3 p4).bind (fun (σ5 : Mem) => bq (f_X10_keepCounted σ5 x0) (fun (b6 : Bool) (σ7 : Mem) => some (b6, σ7))))) else some (false, σ)) else some (false, σ))
theorem t_X10_conjugate {w : Wd} (hw : WOK w) {σ : Mem} {x0 : Int32} {x1 : Int32} {x2 : Int32} : JO w mu_X10_conjugate vB σ [(0, .ref (adr w 0)), (1, .int x0), (2, .int x1), (3, .int x2)] [] 0 (f_X10_conjugate σ x0 x1 x2) some := by
  unfold f_X10_conjugate
  refine jo_aload_n (pc := 0) 0 rfl dX10_conjugate_0 rfl ?_
  refine jo_iload_n (pc := 1) 1 rfl dX10_conjugate_1 rfl ?_
  refine jo_iload_n (pc := 2) 2 rfl dX10_conjugate_2 rfl ?_
  refine jo_cV_Z_p (pc := 3) (μ' := mu_X10_areUsable) (fx := f_X10_areUsable σ x0 x1) (As := [.int x0, .int x1]) (c_X10_areUsable hw) (ok_X10_areUsable) (ltb rfl) (all3 gw_810 gw_812 gw_13) (ik_0 hw) (by decide) (q := (RX10, TX10, 17)) rfl rfl rfl rfl (Nat.le_of_ble_eq_true rfl) dX10_conjugate_3 (fun b1 => ?_)
  refine jo_ifz_eq (pc := 6) dX10_conjugate_6 (tgt := 16) rfl ?_ ?_
  · refine jo_iconst (pc := 16) dX10_conjugate_16 (ic_i_0) ?_
    exact jo_breturn (pc := 17) (b := false) rfl rfl dX10_conjugate_17
  · refine jo_iload_n (pc := 9) 3 rfl dX10_conjugate_9 rfl ?_
    refine jo_cS_Z_p (pc := 10) (μ' := mu_X10_isRegister) (fx := f_X10_isRegister σ x2) (As := [.int x2]) (c_X10_isRegister hw) (ok_X10_isRegister) (ltb rfl) (all2 gw_803 gw_804) rfl rfl (Nat.le_of_ble_eq_true rfl) dX10_conjugate_10 (fun b2 => ?_)
    refine jo_ifz_ne (pc := 13) dX10_conjugate_13 (tgt := 18) rfl ?_ ?_
    · refine jo_aload_n (pc := 18) 0 rfl dX10_conjugate_18 rfl ?_
      refine jo_getrE (pc := 19) ok_10_10 (ik_0 hw) rf_0_10 gw_641 dX10_conjugate_19 ?_
      refine jo_aload_n (pc := 22) 0 rfl dX10_conjugate_22 rfl ?_
      refine jo_getrE (pc := 23) ok_10_15 (ik_0 hw) rf_0_15 gw_646 dX10_conjugate_23 ?_
      refine jo_aload_n (pc := 26) 0 rfl dX10_conjugate_26 rfl ?_
      refine jo_getrE (pc := 27) ok_10_0 (ik_0 hw) rf_0_0 gw_631 dX10_conjugate_27 ?_
      refine jo_getrE (pc := 30) ok_8_1 (ik_1 hw) rf_1_1 gw_221 dX10_conjugate_30 ?_
      refine jo_iload_n (pc := 33) 2 rfl dX10_conjugate_33 rfl ?_
      refine jo_aaldG (pc := 34) (z := 13) hw (ik_5 hw) (by decide) (t := 4) rfl rfl (by decide) dX10_conjugate_34 (fun p3 hp3 => ?_)
      refine jo_aload_n (pc := 35) 0 rfl dX10_conjugate_35 rfl ?_
      refine jo_getrE (pc := 36) ok_10_0 (ik_0 hw) rf_0_0 gw_631 dX10_conjugate_36 ?_
      refine jo_getrE (pc := 39) ok_8_1 (ik_1 hw) rf_1_1 gw_221 dX10_conjugate_39 ?_
      refine jo_iload_n (pc := 42) 3 rfl dX10_conjugate_42 rfl ?_
      refine jo_aaldG (pc := 43) (z := 13) hw (ik_5 hw) (by decide) (t := 4) rfl rfl (by decide) dX10_conjugate_43 (fun p4 hp4 => ?_)
      refine jo_cV_V_i (pc := 44) (μ' := mu_X0_conjugated) (fx := f_X0_conjugated σ 176 p3 p4) (As := [.ref (adr w 176), .ref (adr w p3), .ref (adr w p4)]) (c_X0_conjugated hw (ik_176 hw) (hp3) (hp4)) (ok_X0_conjugated) (ltb rfl) (all3 gw_879 gw_880 gw_881) (ik_72 hw) (by decide) (q := (RX0, TX0, 8)) rfl rfl rfl rfl (Nat.le_of_ble_eq_true rfl) dX10_conjugate_44 (fun σ5 => ?_)
      refine jo_aload_n (pc := 47) 0 rfl dX10_conjugate_47 rfl ?_
      refine jo_iload_n (pc := 48) 1 rfl dX10_conjugate_48 rfl ?_
      refine jo_cV_Z_i (pc := 49) (μ' := mu_X10_keepCounted) (fx := f_X10_keepCounted σ5 x0) (As := [.int x0]) (c_X10_keepCounted hw) (ok_X10_keepCounted) (ltb rfl) (all3 gw_820 gw_822 gw_14) (ik_0 hw) (by decide) (q := (RX10, TX10, 17)) rfl rfl rfl rfl (Nat.le_of_ble_eq_true rfl) dX10_conjugate_49 (fun b6 σ7 => ?_)
      exact jo_breturn (pc := 52) (b := b6) rfl rfl dX10_conjugate_52
    · refine jo_iconst (pc := 16) dX10_conjugate_16 (ic_i_0) ?_
      exact jo_breturn (pc := 17) (b := false) rfl rfl dX10_conjugate_17
theorem c_X10_conjugate {w : Wd} (hw : WOK w) {σ : Mem} {x0 : Int32} {x1 : Int32} {x2 : Int32} : ∀ r σ', f_X10_conjugate σ x0 x1 x2 = some (r, σ') → MC w mu_X10_conjugate (vB r) [.ref (adr w 0), .int x0, .int x1, .int x2] σ σ' := mc_of ok_X10_conjugate rfl (Nat.le_of_ble_eq_true rfl) (t_X10_conjugate hw)
abbrev mu_X10_root : MD := (yX10_root, cX10_root, 4, some .boolean, 5)
theorem ok_X10_root : MOK mu_X10_root 3 := ⟨gw_886, gw_158, (by decide +kernel : plainFor yX10_root = true), ⟨(by decide +kernel : yX10_root.cls ≠ "java/lang/invoke/MethodHandle"), (by decide +kernel : yX10_root.cls ≠ "java/lang/invoke/VarHandle"), (by decide +kernel : (parseMethodDescriptor yX10_root.desc).map (fun d => d.parameters.length) = some 3)⟩, Nat.le_of_ble_eq_true rfl⟩
noncomputable def j_X10_root_59 (σ5 : Mem) : Option (Bool × Mem) :=
  some (false, σ5)
noncomputable def f_X10_root (σ : Mem) (x0 : Int32) (x1 : Int32) (x2 : Int32) : Option (Bool × Mem) :=
  (f_X10_areUsable σ x0 x1).bind (fun (b1 : Bool) => if b1 then if x2 < 1 then (some (false, σ)) else (if x2 ≤ 99 then (gR 5 x1 (fun (p2 : Nat) => bq (f_X0_extract σ 176 p2 (Int32.toInt64 x2)) (fun (b3 : Bool) (σ4 : Mem) => (if b3 then bq (f_X10_keep σ4 x0) (fun (b6 : Bool) (σ7 : Mem) => if b6 then some (Sum.inr (true, σ7)) else some (Sum.inl σ7)) else some (Sum.inl σ4) : Option (Mem ⊕ (Bool × Mem))).bind (Sum.elim (fun (z5 : Mem) => j_X10_root_59 z5) some)))) else (some (false, σ))) else some (false, σ))
theorem t_X10_root {w : Wd} (hw : WOK w) {σ : Mem} {x0 : Int32} {x1 : Int32} {x2 : Int32} : JO w mu_X10_root vB σ [(0, .ref (adr w 0)), (1, .int x0), (2, .int x1), (3, .int x2)] [] 0 (f_X10_root σ x0 x1 x2) some := by
  unfold f_X10_root
  refine jo_aload_n (pc := 0) 0 rfl dX10_root_0 rfl ?_
  refine jo_iload_n (pc := 1) 1 rfl dX10_root_1 rfl ?_
  refine jo_iload_n (pc := 2) 2 rfl dX10_root_2 rfl ?_
  refine jo_cV_Z_p (pc := 3) (μ' := mu_X10_areUsable) (fx := f_X10_areUsable σ x0 x1) (As := [.int x0, .int x1]) (c_X10_areUsable hw) (ok_X10_areUsable) (ltb rfl) (all3 gw_810 gw_812 gw_13) (ik_0 hw) (by decide) (q := (RX10, TX10, 17)) rfl rfl rfl rfl (Nat.le_of_ble_eq_true rfl) dX10_root_3 (fun b1 => ?_)
  refine jo_ifz_eq (pc := 6) dX10_root_6 (tgt := 20) rfl ?_ ?_
  · refine jo_iconst (pc := 20) dX10_root_20 (ic_i_0) ?_
    exact jo_breturn (pc := 21) (b := false) rfl rfl dX10_root_21
  · refine jo_iload_n (pc := 9) 3 rfl dX10_root_9 rfl ?_
    refine jo_iconst (pc := 10) dX10_root_10 (ic_i_1) ?_
    refine jo_icmp_lt (pc := 11) dX10_root_11 (tgt := 20) rfl ?_ ?_
    · refine jo_iconst (pc := 20) dX10_root_20 (ic_i_0) ?_
      exact jo_breturn (pc := 21) (b := false) rfl rfl dX10_root_21
    · refine jo_iload_n (pc := 14) 3 rfl dX10_root_14 rfl ?_
      refine jo_bipush (pc := 15) dX10_root_15 (ic_b_99) ?_
      refine jo_icmp_le (pc := 17) dX10_root_17 (tgt := 22) rfl ?_ ?_
      · refine jo_aload_n (pc := 22) 0 rfl dX10_root_22 rfl ?_
        refine jo_getrE (pc := 23) ok_10_10 (ik_0 hw) rf_0_10 gw_641 dX10_root_23 ?_
        refine jo_aload_n (pc := 26) 0 rfl dX10_root_26 rfl ?_
        refine jo_getrE (pc := 27) ok_10_15 (ik_0 hw) rf_0_15 gw_646 dX10_root_27 ?_
        refine jo_aload_n (pc := 30) 0 rfl dX10_root_30 rfl ?_
        refine jo_getrE (pc := 31) ok_10_0 (ik_0 hw) rf_0_0 gw_631 dX10_root_31 ?_
        refine jo_getrE (pc := 34) ok_8_1 (ik_1 hw) rf_1_1 gw_221 dX10_root_34 ?_
        refine jo_iload_n (pc := 37) 2 rfl dX10_root_37 rfl ?_
        refine jo_aaldG (pc := 38) (z := 13) hw (ik_5 hw) (by decide) (t := 4) rfl rfl (by decide) dX10_root_38 (fun p2 hp2 => ?_)
        refine jo_iload_n (pc := 39) 3 rfl dX10_root_39 rfl ?_
        refine jo_i2l (pc := 40) dX10_root_40 ?_
        refine jo_cV_Z_i (pc := 41) (μ' := mu_X0_extract) (fx := f_X0_extract σ 176 p2 (Int32.toInt64 x2)) (As := [.ref (adr w 176), .ref (adr w p2), .long (Int32.toInt64 x2)]) (c_X0_extract hw (ik_176 hw) (hp2)) (ok_X0_extract) (ltb rfl) (all3 gw_887 gw_888 gw_889) (ik_72 hw) (by decide) (q := (RX0, TX0, 8)) rfl rfl rfl rfl (Nat.le_of_ble_eq_true rfl) dX10_root_41 (fun b3 σ4 => ?_)
        refine jo_joinS (S := Mem) (fun (z5 : Mem) => z5) (fun (z5 : Mem) => []) (fun (z5 : Mem) => []) 59 ?_ (fun h59_5 => ?_)
        · intro σ5
          show JO w mu_X10_root vB σ5 [] [] 59 (j_X10_root_59 σ5) _
          unfold j_X10_root_59
          refine jo_iconst (pc := 59) dX10_root_59 (ic_i_0) ?_
          exact jo_breturn (pc := 60) (b := false) rfl rfl dX10_root_60
        · refine jo_ifz_eq (pc := 44) dX10_root_44 (tgt := 59) rfl ?_ ?_
          · refine jo_lv (lv' := []) [] rfl ?_
            exact jo_leaf (by rfl) (h59_5 σ4)
          · refine jo_aload_n (pc := 47) 0 rfl dX10_root_47 rfl ?_
            refine jo_iload_n (pc := 48) 1 rfl dX10_root_48 rfl ?_
            refine jo_cV_Z_i (pc := 49) (μ' := mu_X10_keep) (fx := f_X10_keep σ4 x0) (As := [.int x0]) (c_X10_keep hw) (ok_X10_keep) (ltb rfl) (all3 gw_828 gw_830 gw_15) (ik_0 hw) (by decide) (q := (RX10, TX10, 17)) rfl rfl rfl rfl (Nat.le_of_ble_eq_true rfl) dX10_root_49 (fun b6 σ7 => ?_)
            refine jo_ifz_eq (pc := 52) dX10_root_52 (tgt := 59) rfl ?_ ?_
            · refine jo_lv (lv' := []) [] rfl ?_
              exact jo_leaf (by rfl) (h59_5 σ7)
            · refine jo_iconst (pc := 55) dX10_root_55 (ic_i_1) ?_
              refine jo_goto (pc := 56) dX10_root_56 (tgt := 60) rfl ?_
              exact jo_breturn (pc := 60) (b := true) rfl rfl dX10_root_60
      · refine jo_iconst (pc := 20) dX10_root_20 (ic_i_0) ?_
        exact jo_breturn (pc := 21) (b := false) rfl rfl dX10_root_21
theorem c_X10_root {w : Wd} (hw : WOK w) {σ : Mem} {x0 : Int32} {x1 : Int32} {x2 : Int32} : ∀ r σ', f_X10_root σ x0 x1 x2 = some (r, σ') → MC w mu_X10_root (vB r) [.ref (adr w 0), .int x0, .int x1, .int x2] σ σ' := mc_of ok_X10_root rfl (Nat.le_of_ble_eq_true rfl) (t_X10_root hw)
abbrev mu_X10_seek : MD := (yX10_seek, cX10_seek, 5, some .boolean, 7)
theorem ok_X10_seek : MOK mu_X10_seek 4 := ⟨gw_900, gw_158, (by decide +kernel : plainFor yX10_seek = true), ⟨(by decide +kernel : yX10_seek.cls ≠ "java/lang/invoke/MethodHandle"), (by decide +kernel : yX10_seek.cls ≠ "java/lang/invoke/VarHandle"), (by decide +kernel : (parseMethodDescriptor yX10_seek.desc).map (fun d => d.parameters.length) = some 4)⟩, Nat.le_of_ble_eq_true rfl⟩
noncomputable def j_X10_seek_76 (σ7 : Mem) : Option (Bool × Mem) :=
  some (false, σ7)
noncomputable def f_X10_seek (σ : Mem) (x0 : Int32) (x1 : Int32) (x2 : Int32) (x3 : Int32) : Option (Bool × Mem) :=
  (f_X10_areUsable σ x0 x1).bind (fun (b1 : Bool) => if b1 then (f_X10_isRegister σ x2).bind (fun (b2 : Bool) => if b2 then if x3 < 1 then (some (false, σ)) else (if x3 ≤ 3 then (gR 5 x1 (fun (p3 : Nat) => gR 5 x2 (fun (p4 : Nat) => bq (f_X7_conjugator σ 176 p3 p4 x3) (fun (b5 : Bool) (σ6 : Mem) => (if b5 then bq (f_X10_keep σ6 x0) (fun (b8 : Bool) (σ9 : Mem) => if b8 then some (Sum.inr (true, σ9)) else some (Sum.inl σ9)) else some (Sum.inl σ6) : Option (Mem ⊕ (Bool × Mem))).bind (Sum.elim (fun (z7 : Mem) => j_X10_seek_76 z7) some))))) else (some (false, σ))) else some (false, σ)) else some (false, σ))
theorem t_X10_seek {w : Wd} (hw : WOK w) {σ : Mem} {x0 : Int32} {x1 : Int32} {x2 : Int32} {x3 : Int32} : JO w mu_X10_seek vB σ [(0, .ref (adr w 0)), (1, .int x0), (2, .int x1), (3, .int x2), (4, .int x3)] [] 0 (f_X10_seek σ x0 x1 x2 x3) some := by
  unfold f_X10_seek
  refine jo_aload_n (pc := 0) 0 rfl dX10_seek_0 rfl ?_
  refine jo_iload_n (pc := 1) 1 rfl dX10_seek_1 rfl ?_
  refine jo_iload_n (pc := 2) 2 rfl dX10_seek_2 rfl ?_
  refine jo_cV_Z_p (pc := 3) (μ' := mu_X10_areUsable) (fx := f_X10_areUsable σ x0 x1) (As := [.int x0, .int x1]) (c_X10_areUsable hw) (ok_X10_areUsable) (ltb rfl) (all3 gw_810 gw_812 gw_13) (ik_0 hw) (by decide) (q := (RX10, TX10, 17)) rfl rfl rfl rfl (Nat.le_of_ble_eq_true rfl) dX10_seek_3 (fun b1 => ?_)
  refine jo_ifz_eq (pc := 6) dX10_seek_6 (tgt := 28) rfl ?_ ?_
  · refine jo_iconst (pc := 28) dX10_seek_28 (ic_i_0) ?_
    exact jo_breturn (pc := 29) (b := false) rfl rfl dX10_seek_29
  · refine jo_iload_n (pc := 9) 3 rfl dX10_seek_9 rfl ?_
    refine jo_cS_Z_p (pc := 10) (μ' := mu_X10_isRegister) (fx := f_X10_isRegister σ x2) (As := [.int x2]) (c_X10_isRegister hw) (ok_X10_isRegister) (ltb rfl) (all2 gw_803 gw_804) rfl rfl (Nat.le_of_ble_eq_true rfl) dX10_seek_10 (fun b2 => ?_)
    refine jo_ifz_eq (pc := 13) dX10_seek_13 (tgt := 28) rfl ?_ ?_
    · refine jo_iconst (pc := 28) dX10_seek_28 (ic_i_0) ?_
      exact jo_breturn (pc := 29) (b := false) rfl rfl dX10_seek_29
    · refine jo_iload (pc := 16) 4 rfl dX10_seek_16 ?_
      refine jo_iconst (pc := 18) dX10_seek_18 (ic_i_1) ?_
      refine jo_icmp_lt (pc := 19) dX10_seek_19 (tgt := 28) rfl ?_ ?_
      · refine jo_iconst (pc := 28) dX10_seek_28 (ic_i_0) ?_
        exact jo_breturn (pc := 29) (b := false) rfl rfl dX10_seek_29
      · refine jo_iload (pc := 22) 4 rfl dX10_seek_22 ?_
        refine jo_iconst (pc := 24) dX10_seek_24 (ic_i_3) ?_
        refine jo_icmp_le (pc := 25) dX10_seek_25 (tgt := 30) rfl ?_ ?_
        · refine jo_aload_n (pc := 30) 0 rfl dX10_seek_30 rfl ?_
          refine jo_getrE (pc := 31) ok_10_11 (ik_0 hw) rf_0_11 gw_642 dX10_seek_31 ?_
          refine jo_aload_n (pc := 34) 0 rfl dX10_seek_34 rfl ?_
          refine jo_getrE (pc := 35) ok_10_15 (ik_0 hw) rf_0_15 gw_646 dX10_seek_35 ?_
          refine jo_aload_n (pc := 38) 0 rfl dX10_seek_38 rfl ?_
          refine jo_getrE (pc := 39) ok_10_0 (ik_0 hw) rf_0_0 gw_631 dX10_seek_39 ?_
          refine jo_getrE (pc := 42) ok_8_1 (ik_1 hw) rf_1_1 gw_221 dX10_seek_42 ?_
          refine jo_iload_n (pc := 45) 2 rfl dX10_seek_45 rfl ?_
          refine jo_aaldG (pc := 46) (z := 13) hw (ik_5 hw) (by decide) (t := 4) rfl rfl (by decide) dX10_seek_46 (fun p3 hp3 => ?_)
          refine jo_aload_n (pc := 47) 0 rfl dX10_seek_47 rfl ?_
          refine jo_getrE (pc := 48) ok_10_0 (ik_0 hw) rf_0_0 gw_631 dX10_seek_48 ?_
          refine jo_getrE (pc := 51) ok_8_1 (ik_1 hw) rf_1_1 gw_221 dX10_seek_51 ?_
          refine jo_iload_n (pc := 54) 3 rfl dX10_seek_54 rfl ?_
          refine jo_aaldG (pc := 55) (z := 13) hw (ik_5 hw) (by decide) (t := 4) rfl rfl (by decide) dX10_seek_55 (fun p4 hp4 => ?_)
          refine jo_iload (pc := 56) 4 rfl dX10_seek_56 ?_
          refine jo_cV_Z_i (pc := 58) (μ' := mu_X7_conjugator) (fx := f_X7_conjugator σ 176 p3 p4 x3) (As := [.ref (adr w 176), .ref (adr w p3), .ref (adr w p4), .int x3]) (c_X7_conjugator hw (ik_176 hw) (hp3) (hp4)) (ok_X7_conjugator) (ltb rfl) (all3 gw_901 gw_902 gw_903) (ik_80 hw) (by decide) (q := (RX7, TX7, 11)) rfl rfl rfl rfl (Nat.le_of_ble_eq_true rfl) dX10_seek_58 (fun b5 σ6 => ?_)
          refine jo_joinS (S := Mem) (fun (z7 : Mem) => z7) (fun (z7 : Mem) => []) (fun (z7 : Mem) => []) 76 ?_ (fun h76_7 => ?_)
          · intro σ7
            show JO w mu_X10_seek vB σ7 [] [] 76 (j_X10_seek_76 σ7) _
            unfold j_X10_seek_76
            refine jo_iconst (pc := 76) dX10_seek_76 (ic_i_0) ?_
            exact jo_breturn (pc := 77) (b := false) rfl rfl dX10_seek_77
          · refine jo_ifz_eq (pc := 61) dX10_seek_61 (tgt := 76) rfl ?_ ?_
            · refine jo_lv (lv' := []) [] rfl ?_
              exact jo_leaf (by rfl) (h76_7 σ6)
            · refine jo_aload_n (pc := 64) 0 rfl dX10_seek_64 rfl ?_
              refine jo_iload_n (pc := 65) 1 rfl dX10_seek_65 rfl ?_
              refine jo_cV_Z_i (pc := 66) (μ' := mu_X10_keep) (fx := f_X10_keep σ6 x0) (As := [.int x0]) (c_X10_keep hw) (ok_X10_keep) (ltb rfl) (all3 gw_828 gw_830 gw_15) (ik_0 hw) (by decide) (q := (RX10, TX10, 17)) rfl rfl rfl rfl (Nat.le_of_ble_eq_true rfl) dX10_seek_66 (fun b8 σ9 => ?_)
              refine jo_ifz_eq (pc := 69) dX10_seek_69 (tgt := 76) rfl ?_ ?_
              · refine jo_lv (lv' := []) [] rfl ?_
                exact jo_leaf (by rfl) (h76_7 σ9)
              · refine jo_iconst (pc := 72) dX10_seek_72 (ic_i_1) ?_
                refine jo_goto (pc := 73) dX10_seek_73 (tgt := 77) rfl ?_
                exact jo_breturn (pc := 77) (b := true) rfl rfl dX10_seek_77
        · refine jo_iconst (pc := 28) dX10_seek_28 (ic_i_0) ?_
          exact jo_breturn (pc := 29) (b := false) rfl rfl dX10_seek_29
theorem c_X10_seek {w : Wd} (hw : WOK w) {σ : Mem} {x0 : Int32} {x1 : Int32} {x2 : Int32} {x3 : Int32} : ∀ r σ', f_X10_seek σ x0 x1 x2 x3 = some (r, σ') → MC w mu_X10_seek (vB r) [.ref (adr w 0), .int x0, .int x1, .int x2, .int x3] σ σ' := mc_of ok_X10_seek rfl (Nat.le_of_ble_eq_true rfl) (t_X10_seek hw)
end
section
abbrev mu_X10_feedNumber : MD := (yX10_feedNumber, cX10_feedNumber, 3, none, 0)
theorem ok_X10_feedNumber : MOK mu_X10_feedNumber 1 := ⟨gw_951, gw_158, (by decide +kernel : plainFor yX10_feedNumber = true), ⟨(by decide +kernel : yX10_feedNumber.cls ≠ "java/lang/invoke/MethodHandle"), (by decide +kernel : yX10_feedNumber.cls ≠ "java/lang/invoke/VarHandle"), (by decide +kernel : (parseMethodDescriptor yX10_feedNumber.desc).map (fun d => d.parameters.length) = some 1)⟩, Nat.le_of_ble_eq_true rfl⟩
noncomputable def l_X10_feedNumber_3 (x0 : Int32) (σ1 : Mem) (i2 : Int32) : Option ((Mem × Int32) ⊕ Mem) :=
  if i2 < 0 then (some (Sum.inr σ1)) else (gF σ1 0 7 (fun (v3 : Int32) => if 200 ≤ v3 then (some (Sum.inr σ1)) else (gF σ1 0 7 (fun (v4 : Int32) => pI σ1 34 v4 ((x0 >>> (i2 &&& 31)) &&& 255) (fun (σ5 : Mem) => gF σ5 0 7 (fun (v6 : Int32) => pF σ5 0 7 (v6 + 1) (fun (σ7 : Mem) => some (Sum.inl (σ7, i2 + (-8))))))))))
noncomputable def f_X10_feedNumber (σ : Mem) (x0 : Int32) : Option Mem :=
  loopO (fun (z2 : (Mem × Int32)) => l_X10_feedNumber_3 x0 z2.1 z2.2) (σ, 24)
theorem t_X10_feedNumber {w : Wd} (hw : WOK w) {σ : Mem} {x0 : Int32} : JO w mu_X10_feedNumber vV σ [(0, .ref (adr w 0)), (1, .int x0)] [] 0 (f_X10_feedNumber σ x0) (fun z => some ((), z)) := by
  unfold f_X10_feedNumber
  refine jo_bipush (pc := 0) dX10_feedNumber_0 (ic_b_24) ?_
  refine jo_istore_n (pc := 2) (lv' := [(2, .int 24), (0, .ref (adr w 0)), (1, .int x0)]) dX10_feedNumber_2 rfl (ltb rfl) rfl ?_
  refine jo_lv (lv' := [(0, .ref (adr w 0)), (1, .int x0), (2, .int 24)]) [1, 2, 0] rfl ?_
  refine jo_loop (X := Mem) (fun (z2 : (Mem × Int32)) => z2.1) (fun (z2 : (Mem × Int32)) => [(0, .ref (adr w 0)), (1, .int x0), (2, .int z2.2)]) (body := (fun (z2 : (Mem × Int32)) => l_X10_feedNumber_3 x0 z2.1 z2.2)) (fun F3_2 hF3_2 s => ?_) (σ, 24)
  obtain ⟨σ1, i2⟩ := s
  show JO w mu_X10_feedNumber vV σ1 [(0, .ref (adr w 0)), (1, .int x0), (2, .int i2)] [] 3 (l_X10_feedNumber_3 x0 σ1 i2) _
  unfold l_X10_feedNumber_3
  refine jo_iload_n (pc := 3) 2 rfl dX10_feedNumber_3 rfl ?_
  refine jo_if_lt (pc := 4) dX10_feedNumber_4 (tgt := 49) rfl ?_ ?_
  · exact jo_return (pc := 49) rfl rfl dX10_feedNumber_49
  · refine jo_aload_n (pc := 7) 0 rfl dX10_feedNumber_7 rfl ?_
    refine jo_getf (pc := 8) ok_10_7 (ik_0 hw) gw_638 dX10_feedNumber_8 (fun v3 => ?_)
    refine jo_sipush (pc := 11) dX10_feedNumber_11 (ic_s_200) ?_
    refine jo_icmp_ge (pc := 14) dX10_feedNumber_14 (tgt := 49) rfl ?_ ?_
    · exact jo_return (pc := 49) rfl rfl dX10_feedNumber_49
    · refine jo_aload_n (pc := 17) 0 rfl dX10_feedNumber_17 rfl ?_
      refine jo_getrE (pc := 18) ok_10_6 (ik_0 hw) rf_0_6 gw_637 dX10_feedNumber_18 ?_
      refine jo_aload_n (pc := 21) 0 rfl dX10_feedNumber_21 rfl ?_
      refine jo_getf (pc := 22) ok_10_7 (ik_0 hw) gw_638 dX10_feedNumber_22 (fun v4 => ?_)
      refine jo_iload_n (pc := 25) 1 rfl dX10_feedNumber_25 rfl ?_
      refine jo_iload_n (pc := 26) 2 rfl dX10_feedNumber_26 rfl ?_
      refine jo_ishr (pc := 27) dX10_feedNumber_27 ?_
      refine jo_sipush (pc := 28) dX10_feedNumber_28 (ic_s_255) ?_
      refine jo_iand (pc := 31) dX10_feedNumber_31 ?_
      refine jo_iast (pc := 32) (ik_34 hw) dX10_feedNumber_32 (fun σ5 => ?_)
      refine jo_aload_n (pc := 33) 0 rfl dX10_feedNumber_33 rfl ?_
      refine jo_dup (pc := 34) dX10_feedNumber_34 rfl ?_
      refine jo_getf (pc := 35) ok_10_7 (ik_0 hw) gw_638 dX10_feedNumber_35 (fun v6 => ?_)
      refine jo_iconst (pc := 38) dX10_feedNumber_38 (ic_i_1) ?_
      refine jo_iadd (pc := 39) dX10_feedNumber_39 ?_
      refine jo_putf (pc := 40) ok_10_7 okp_10_7 (ik_0 hw) gw_638 dX10_feedNumber_40 (fun σ7 => ?_)
      refine jo_iinc (pc := 43) (lv' := [(2, .int (i2 + (-8))), (0, .ref (adr w 0)), (1, .int x0)]) 2 rfl dX10_feedNumber_43 (congrArg (fun z => i2 + z) (ic_i_m8)) (ltb rfl) rfl ?_
      refine jo_goto (pc := 46) dX10_feedNumber_46 (tgt := 3) rfl ?_
      refine jo_lv (lv' := [(0, .ref (adr w 0)), (1, .int x0), (2, .int (i2 + (-8)))]) [1, 2, 0] rfl ?_
      exact jo_leaf (by rfl) (hF3_2 (σ7, i2 + (-8)))
theorem c_X10_feedNumber {w : Wd} (hw : WOK w) {σ : Mem} {x0 : Int32} : ∀ σ', f_X10_feedNumber σ x0 = some σ' → MC w mu_X10_feedNumber none [.ref (adr w 0), .int x0] σ σ' := mc_ofV ok_X10_feedNumber rfl (Nat.le_of_ble_eq_true rfl) (t_X10_feedNumber hw)
abbrev mu_X10_feed : MD := (yX10_feed, cX10_feed, 6, some .int, 1)
theorem ok_X10_feed : MOK mu_X10_feed 5 := ⟨gw_947, gw_158, (by decide +kernel : plainFor yX10_feed = true), ⟨(by decide +kernel : yX10_feed.cls ≠ "java/lang/invoke/MethodHandle"), (by decide +kernel : yX10_feed.cls ≠ "java/lang/invoke/VarHandle"), (by decide +kernel : (parseMethodDescriptor yX10_feed.desc).map (fun d => d.parameters.length) = some 5)⟩, Nat.le_of_ble_eq_true rfl⟩
noncomputable def f_X10_feed (σ : Mem) (x0 : Int32) (x1 : Int32) (x2 : Int32) (x3 : Int32) (x4 : Int32) : Option (Int32 × Mem) :=
  gF σ 0 7 (fun (v1 : Int32) => if v1 ≤ 180 then ((f_X10_feedNumber σ x0).bind (fun (σ2 : Mem) => (f_X10_feedNumber σ2 x1).bind (fun (σ3 : Mem) => (f_X10_feedNumber σ3 x2).bind (fun (σ4 : Mem) => (f_X10_feedNumber σ4 x3).bind (fun (σ5 : Mem) => (f_X10_feedNumber σ5 x4).bind (fun (σ6 : Mem) => gF σ6 0 7 (fun (v7 : Int32) => some (v7, σ6)))))))) else (some ((-1), σ)))
theorem t_X10_feed {w : Wd} (hw : WOK w) {σ : Mem} {x0 : Int32} {x1 : Int32} {x2 : Int32} {x3 : Int32} {x4 : Int32} : JO w mu_X10_feed vI σ [(0, .ref (adr w 0)), (1, .int x0), (2, .int x1), (3, .int x2), (4, .int x3), (5, .int x4)] [] 0 (f_X10_feed σ x0 x1 x2 x3 x4) some := by
  unfold f_X10_feed
  refine jo_aload_n (pc := 0) 0 rfl dX10_feed_0 rfl ?_
  refine jo_getf (pc := 1) ok_10_7 (ik_0 hw) gw_638 dX10_feed_1 (fun v1 => ?_)
  refine jo_sipush (pc := 4) dX10_feed_4 (ic_s_180) ?_
  refine jo_icmp_le (pc := 7) dX10_feed_7 (tgt := 12) rfl ?_ ?_
  · refine jo_aload_n (pc := 12) 0 rfl dX10_feed_12 rfl ?_
    refine jo_iload_n (pc := 13) 1 rfl dX10_feed_13 rfl ?_
    refine jo_cV_V_i (pc := 14) (μ' := mu_X10_feedNumber) (fx := f_X10_feedNumber σ x0) (As := [.int x0]) (c_X10_feedNumber hw) (ok_X10_feedNumber) (ltb rfl) (all3 gw_948 gw_950 gw_24) (ik_0 hw) (by decide) (q := (RX10, TX10, 17)) rfl rfl rfl rfl (Nat.le_of_ble_eq_true rfl) dX10_feed_14 (fun σ2 => ?_)
    refine jo_aload_n (pc := 17) 0 rfl dX10_feed_17 rfl ?_
    refine jo_iload_n (pc := 18) 2 rfl dX10_feed_18 rfl ?_
    refine jo_cV_V_i (pc := 19) (μ' := mu_X10_feedNumber) (fx := f_X10_feedNumber σ2 x1) (As := [.int x1]) (c_X10_feedNumber hw) (ok_X10_feedNumber) (ltb rfl) (all3 gw_948 gw_950 gw_24) (ik_0 hw) (by decide) (q := (RX10, TX10, 17)) rfl rfl rfl rfl (Nat.le_of_ble_eq_true rfl) dX10_feed_19 (fun σ3 => ?_)
    refine jo_aload_n (pc := 22) 0 rfl dX10_feed_22 rfl ?_
    refine jo_iload_n (pc := 23) 3 rfl dX10_feed_23 rfl ?_
    refine jo_cV_V_i (pc := 24) (μ' := mu_X10_feedNumber) (fx := f_X10_feedNumber σ3 x2) (As := [.int x2]) (c_X10_feedNumber hw) (ok_X10_feedNumber) (ltb rfl) (all3 gw_948 gw_950 gw_24) (ik_0 hw) (by decide) (q := (RX10, TX10, 17)) rfl rfl rfl rfl (Nat.le_of_ble_eq_true rfl) dX10_feed_24 (fun σ4 => ?_)
    refine jo_aload_n (pc := 27) 0 rfl dX10_feed_27 rfl ?_
    refine jo_iload (pc := 28) 4 rfl dX10_feed_28 ?_
    refine jo_cV_V_i (pc := 30) (μ' := mu_X10_feedNumber) (fx := f_X10_feedNumber σ4 x3) (As := [.int x3]) (c_X10_feedNumber hw) (ok_X10_feedNumber) (ltb rfl) (all3 gw_948 gw_950 gw_24) (ik_0 hw) (by decide) (q := (RX10, TX10, 17)) rfl rfl rfl rfl (Nat.le_of_ble_eq_true rfl) dX10_feed_30 (fun σ5 => ?_)
    refine jo_aload_n (pc := 33) 0 rfl dX10_feed_33 rfl ?_
    refine jo_iload (pc := 34) 5 rfl dX10_feed_34 ?_
    refine jo_cV_V_i (pc := 36) (μ' := mu_X10_feedNumber) (fx := f_X10_feedNumber σ5 x4) (As := [.int x4]) (c_X10_feedNumber hw) (ok_X10_feedNumber) (ltb rfl) (all3 gw_948 gw_950 gw_24) (ik_0 hw) (by decide) (q := (RX10, TX10, 17)) rfl rfl rfl rfl (Nat.le_of_ble_eq_true rfl) dX10_feed_36 (fun σ6 => ?_)
    refine jo_aload_n (pc := 39) 0 rfl dX10_feed_39 rfl ?_
    refine jo_getf (pc := 40) ok_10_7 (ik_0 hw) gw_638 dX10_feed_40 (fun v7 => ?_)
    exact jo_ireturn (pc := 43) rfl rfl dX10_feed_43
  · refine jo_iconst (pc := 10) dX10_feed_10 (ic_i_m1) ?_
    exact jo_ireturn (pc := 11) rfl rfl dX10_feed_11
theorem c_X10_feed {w : Wd} (hw : WOK w) {σ : Mem} {x0 : Int32} {x1 : Int32} {x2 : Int32} {x3 : Int32} {x4 : Int32} : ∀ r σ', f_X10_feed σ x0 x1 x2 x3 x4 = some (r, σ') → MC w mu_X10_feed (vI r) [.ref (adr w 0), .int x0, .int x1, .int x2, .int x3, .int x4] σ σ' := mc_of ok_X10_feed rfl (Nat.le_of_ble_eq_true rfl) (t_X10_feed hw)
abbrev mu_X10_end : MD := (yX10_end, cX10_end, 2, some .boolean, 0)
theorem ok_X10_end : MOK mu_X10_end 1 := ⟨gw_955, gw_158, (by decide +kernel : plainFor yX10_end = true), ⟨(by decide +kernel : yX10_end.cls ≠ "java/lang/invoke/MethodHandle"), (by decide +kernel : yX10_end.cls ≠ "java/lang/invoke/VarHandle"), (by decide +kernel : (parseMethodDescriptor yX10_end.desc).map (fun d => d.parameters.length) = some 1)⟩, Nat.le_of_ble_eq_true rfl⟩
noncomputable def f_X10_end (σ : Mem) (x0 : Int32) : Option (Bool × Mem) :=
  if x0 < 0 then (some (false, σ)) else (gF σ 0 7 (fun (v1 : Int32) => if x0 ≤ v1 then (pF σ 0 7 x0 (fun (σ2 : Mem) => some (true, σ2))) else (some (false, σ))))
theorem t_X10_end {w : Wd} (hw : WOK w) {σ : Mem} {x0 : Int32} : JO w mu_X10_end vB σ [(0, .ref (adr w 0)), (1, .int x0)] [] 0 (f_X10_end σ x0) some := by
  unfold f_X10_end
  refine jo_iload_n (pc := 0) 1 rfl dX10_end_0 rfl ?_
  refine jo_if_lt (pc := 1) dX10_end_1 (tgt := 12) rfl ?_ ?_
  · refine jo_iconst (pc := 12) dX10_end_12 (ic_i_0) ?_
    exact jo_breturn (pc := 13) (b := false) rfl rfl dX10_end_13
  · refine jo_iload_n (pc := 4) 1 rfl dX10_end_4 rfl ?_
    refine jo_aload_n (pc := 5) 0 rfl dX10_end_5 rfl ?_
    refine jo_getf (pc := 6) ok_10_7 (ik_0 hw) gw_638 dX10_end_6 (fun v1 => ?_)
    refine jo_icmp_le (pc := 9) dX10_end_9 (tgt := 14) rfl ?_ ?_
    · refine jo_aload_n (pc := 14) 0 rfl dX10_end_14 rfl ?_
      refine jo_iload_n (pc := 15) 1 rfl dX10_end_15 rfl ?_
      refine jo_putf (pc := 16) ok_10_7 okp_10_7 (ik_0 hw) gw_638 dX10_end_16 (fun σ2 => ?_)
      refine jo_iconst (pc := 19) dX10_end_19 (ic_i_1) ?_
      exact jo_breturn (pc := 20) (b := true) rfl rfl dX10_end_20
    · refine jo_iconst (pc := 12) dX10_end_12 (ic_i_0) ?_
      exact jo_breturn (pc := 13) (b := false) rfl rfl dX10_end_13
theorem c_X10_end {w : Wd} (hw : WOK w) {σ : Mem} {x0 : Int32} : ∀ r σ', f_X10_end σ x0 = some (r, σ') → MC w mu_X10_end (vB r) [.ref (adr w 0), .int x0] σ σ' := mc_of ok_X10_end rfl (Nat.le_of_ble_eq_true rfl) (t_X10_end hw)
abbrev mu_X10_text : MD := (yX10_text, cX10_text, 3, some .boolean, 37)
theorem ok_X10_text : MOK mu_X10_text 1 := ⟨gw_959, gw_158, (by decide +kernel : plainFor yX10_text = true), ⟨(by decide +kernel : yX10_text.cls ≠ "java/lang/invoke/MethodHandle"), (by decide +kernel : yX10_text.cls ≠ "java/lang/invoke/VarHandle"), (by decide +kernel : (parseMethodDescriptor yX10_text.desc).map (fun d => d.parameters.length) = some 1)⟩, Nat.le_of_ble_eq_true rfl⟩
noncomputable def f_X10_text (σ : Mem) (x0 : Int32) : Option (Bool × Mem) :=
  gF σ 0 7 (fun (v1 : Int32) => pF σ 0 7 0 (fun (σ2 : Mem) => (f_X5_forget σ2).bind (fun (σ3 : Mem) => (f_X10_isRegister σ3 x0).bind (fun (b4 : Bool) => if b4 then gZ σ3 40 3 (fun (b5 : Bool) => if b5 then bq (f_X5_read σ3 34 v1) (fun (b6 : Bool) (σ7 : Mem) => if b6 then gR 145 0 (fun (p11 : Nat) => (f_X0_copy σ7 p11 176).bind (fun (σ12 : Mem) => bq (f_X10_keep σ12 x0) (fun (b13 : Bool) (σ14 : Mem) => some (b13, σ14)))) else gF σ7 144 0 (fun (v8 : Int32) => if v8 = 5 then (gI σ7 16 0 (fun (v9 : Int32) => pI σ7 16 0 (v9 + 1) (fun (σ10 : Mem) => some (false, σ10)))) else (some (false, σ7)))) else some (false, σ3)) else some (false, σ3)))))
theorem t_X10_text {w : Wd} (hw : WOK w) {σ : Mem} {x0 : Int32} : JO w mu_X10_text vB σ [(0, .ref (adr w 0)), (1, .int x0)] [] 0 (f_X10_text σ x0) some := by
  unfold f_X10_text
  refine jo_aload_n (pc := 0) 0 rfl dX10_text_0 rfl ?_
  refine jo_getf (pc := 1) ok_10_7 (ik_0 hw) gw_638 dX10_text_1 (fun v1 => ?_)
  refine jo_istore_n (pc := 4) (lv' := [(2, .int v1), (0, .ref (adr w 0)), (1, .int x0)]) dX10_text_4 rfl (ltb rfl) rfl ?_
  refine jo_aload_n (pc := 5) 1 rfl dX10_text_5 rfl ?_
  refine jo_iconst (pc := 6) dX10_text_6 (ic_i_0) ?_
  refine jo_putf (pc := 7) ok_10_7 okp_10_7 (ik_0 hw) gw_638 dX10_text_7 (fun σ2 => ?_)
  refine jo_aload_n (pc := 10) 1 rfl dX10_text_10 rfl ?_
  refine jo_getrE (pc := 11) ok_10_14 (ik_0 hw) rf_0_14 gw_645 dX10_text_11 ?_
  refine jo_cV_V_i (pc := 14) (μ' := mu_X5_forget) (fx := f_X5_forget σ2) (As := []) (c_X5_forget hw) (ok_X5_forget) (ltb rfl) (all3 gw_960 gw_961 gw_962) (ik_144 hw) (by decide) (q := (RX5, TX5, 11)) rfl rfl rfl rfl (Nat.le_of_ble_eq_true rfl) dX10_text_14 (fun σ3 => ?_)
  refine jo_iload_n (pc := 17) 2 rfl dX10_text_17 rfl ?_
  refine jo_cS_Z_p (pc := 18) (μ' := mu_X10_isRegister) (fx := f_X10_isRegister σ3 x0) (As := [.int x0]) (c_X10_isRegister hw) (ok_X10_isRegister) (ltb rfl) (all2 gw_803 gw_804) rfl rfl (Nat.le_of_ble_eq_true rfl) dX10_text_18 (fun b4 => ?_)
  refine jo_ifz_eq (pc := 21) dX10_text_21 (tgt := 34) rfl ?_ ?_
  · refine jo_iconst (pc := 34) dX10_text_34 (ic_i_0) ?_
    exact jo_breturn (pc := 35) (b := false) rfl rfl dX10_text_35
  · refine jo_aload_n (pc := 24) 1 rfl dX10_text_24 rfl ?_
    refine jo_getrE (pc := 25) ok_10_9 (ik_0 hw) rf_0_9 gw_640 dX10_text_25 ?_
    refine jo_getz (pc := 28) ok_4_3 (ik_40 hw) gw_308 dX10_text_28 (fun b5 => ?_)
    refine jo_ifz_ne (pc := 31) dX10_text_31 (tgt := 36) rfl ?_ ?_
    · refine jo_aload_n (pc := 36) 1 rfl dX10_text_36 rfl ?_
      refine jo_getrE (pc := 37) ok_10_14 (ik_0 hw) rf_0_14 gw_645 dX10_text_37 ?_
      refine jo_aload_n (pc := 40) 1 rfl dX10_text_40 rfl ?_
      refine jo_getrE (pc := 41) ok_10_6 (ik_0 hw) rf_0_6 gw_637 dX10_text_41 ?_
      refine jo_iload_n (pc := 44) 0 rfl dX10_text_44 rfl ?_
      refine jo_cV_Z_i (pc := 45) (μ' := mu_X5_read) (fx := f_X5_read σ3 34 v1) (As := [.ref (adr w 34), .int v1]) (c_X5_read hw (ik_34 hw)) (ok_X5_read) (ltb rfl) (all3 gw_964 gw_965 gw_966) (ik_144 hw) (by decide) (q := (RX5, TX5, 11)) rfl rfl rfl rfl (Nat.le_of_ble_eq_true rfl) dX10_text_45 (fun b6 σ7 => ?_)
      refine jo_ifz_eq (pc := 48) dX10_text_48 (tgt := 73) rfl ?_ ?_
      · refine jo_aload_n (pc := 73) 1 rfl dX10_text_73 rfl ?_
        refine jo_getrE (pc := 74) ok_10_14 (ik_0 hw) rf_0_14 gw_645 dX10_text_74 ?_
        refine jo_getf (pc := 77) ok_5_0 (ik_144 hw) gw_472 dX10_text_77 (fun v8 => ?_)
        refine jo_iconst (pc := 80) dX10_text_80 (ic_i_5) ?_
        refine jo_icmp_ne (pc := 81) dX10_text_81 (tgt := 97) rfl ?_ ?_
        · refine jo_iconst (pc := 97) dX10_text_97 (ic_i_0) ?_
          exact jo_breturn (pc := 98) (b := false) rfl rfl dX10_text_98
        · refine jo_aload_n (pc := 84) 1 rfl dX10_text_84 rfl ?_
          refine jo_getrE (pc := 85) ok_10_0 (ik_0 hw) rf_0_0 gw_631 dX10_text_85 ?_
          refine jo_getrE (pc := 88) ok_8_2 (ik_1 hw) rf_1_2 gw_224 dX10_text_88 ?_
          refine jo_iconst (pc := 91) dX10_text_91 (ic_i_0) ?_
          refine jo_dup2 (pc := 92) dX10_text_92 rfl rfl ?_
          refine jo_iald (pc := 93) (ik_16 hw) dX10_text_93 (fun v9 => ?_)
          refine jo_iconst (pc := 94) dX10_text_94 (ic_i_1) ?_
          refine jo_iadd (pc := 95) dX10_text_95 ?_
          refine jo_iast (pc := 96) (ik_16 hw) dX10_text_96 (fun σ10 => ?_)
          refine jo_iconst (pc := 97) dX10_text_97 (ic_i_0) ?_
          exact jo_breturn (pc := 98) (b := false) rfl rfl dX10_text_98
      · refine jo_aload_n (pc := 51) 1 rfl dX10_text_51 rfl ?_
        refine jo_getrE (pc := 52) ok_10_14 (ik_0 hw) rf_0_14 gw_645 dX10_text_52 ?_
        refine jo_getrE (pc := 55) ok_5_2 (ik_144 hw) rf_144_2 gw_476 dX10_text_55 ?_
        refine jo_iconst (pc := 58) dX10_text_58 (ic_i_0) ?_
        refine jo_aaldG (pc := 59) (z := 13) hw (ik_145 hw) (by decide) (t := 4) rfl rfl (by decide) dX10_text_59 (fun p11 hp11 => ?_)
        refine jo_aload_n (pc := 60) 1 rfl dX10_text_60 rfl ?_
        refine jo_getrE (pc := 61) ok_10_15 (ik_0 hw) rf_0_15 gw_646 dX10_text_61 ?_
        refine jo_cS_V_i (pc := 64) (μ' := mu_X0_copy) (fx := f_X0_copy σ7 p11 176) (As := [.ref (adr w p11), .ref (adr w 176)]) (c_X0_copy hw (hp11) (ik_176 hw)) (ok_X0_copy) (ltb rfl) (all2 gw_832 gw_704) rfl rfl (Nat.le_of_ble_eq_true rfl) dX10_text_64 (fun σ12 => ?_)
        refine jo_aload_n (pc := 67) 1 rfl dX10_text_67 rfl ?_
        refine jo_iload_n (pc := 68) 2 rfl dX10_text_68 rfl ?_
        refine jo_cV_Z_i (pc := 69) (μ' := mu_X10_keep) (fx := f_X10_keep σ12 x0) (As := [.int x0]) (c_X10_keep hw) (ok_X10_keep) (ltb rfl) (all3 gw_828 gw_830 gw_15) (ik_0 hw) (by decide) (q := (RX10, TX10, 17)) rfl rfl rfl rfl (Nat.le_of_ble_eq_true rfl) dX10_text_69 (fun b13 σ14 => ?_)
        exact jo_breturn (pc := 72) (b := b13) rfl rfl dX10_text_72
    · refine jo_iconst (pc := 34) dX10_text_34 (ic_i_0) ?_
      exact jo_breturn (pc := 35) (b := false) rfl rfl dX10_text_35
theorem c_X10_text {w : Wd} (hw : WOK w) {σ : Mem} {x0 : Int32} : ∀ r σ', f_X10_text σ x0 = some (r, σ') → MC w mu_X10_text (vB r) [.ref (adr w 0), .int x0] σ σ' := mc_of ok_X10_text rfl (Nat.le_of_ble_eq_true rfl) (t_X10_text hw)
abbrev mu_X10_fault : MD := (yX10_fault, cX10_fault, 2, some .int, 0)
theorem ok_X10_fault : MOK mu_X10_fault 1 := ⟨gw_1036, gw_158, (by decide +kernel : plainFor yX10_fault = true), ⟨(by decide +kernel : yX10_fault.cls ≠ "java/lang/invoke/MethodHandle"), (by decide +kernel : yX10_fault.cls ≠ "java/lang/invoke/VarHandle"), (by decide +kernel : (parseMethodDescriptor yX10_fault.desc).map (fun d => d.parameters.length) = some 1)⟩, Nat.le_of_ble_eq_true rfl⟩
noncomputable def f_X10_fault (σ : Mem) (x0 : Int32) : Option Int32 :=
  if x0 = 0 then (gF σ 144 0 (fun (v2 : Int32) => some v2)) else if x0 = 1 then (gF σ 144 1 (fun (v4 : Int32) => some v4)) else (some (-1))
theorem t_X10_fault {w : Wd} (hw : WOK w) {σ : Mem} {x0 : Int32} : JO w mu_X10_fault vI σ [(0, .ref (adr w 0)), (1, .int x0)] [] 0 (f_X10_fault σ x0) (fun z => some (z, σ)) := by
  unfold f_X10_fault
  refine jo_iload_n (pc := 0) 1 rfl dX10_fault_0 rfl ?_
  refine jo_case (v := 0) (fun h1 => ?_) (fun h1 => ?_)
  · refine jo_lswHit (pc := 1) dX10_fault_1 h1 (by decide) (off := 27) (by rfl) (tgt := 28) rfl ?_
    refine jo_aload_n (pc := 28) 0 rfl dX10_fault_28 rfl ?_
    refine jo_getrE (pc := 29) ok_10_14 (ik_0 hw) rf_0_14 gw_645 dX10_fault_29 ?_
    refine jo_getf (pc := 32) ok_5_0 (ik_144 hw) gw_472 dX10_fault_32 (fun v2 => ?_)
    exact jo_ireturn (pc := 35) rfl rfl dX10_fault_35
  refine jo_case (v := 1) (fun h3 => ?_) (fun h3 => ?_)
  · refine jo_lswHit (pc := 1) dX10_fault_1 h3 (by decide) (off := 35) (by rfl) (tgt := 36) rfl ?_
    refine jo_aload_n (pc := 36) 0 rfl dX10_fault_36 rfl ?_
    refine jo_getrE (pc := 37) ok_10_14 (ik_0 hw) rf_0_14 gw_645 dX10_fault_37 ?_
    refine jo_getf (pc := 40) ok_5_1 (ik_144 hw) gw_474 dX10_fault_40 (fun v4 => ?_)
    exact jo_ireturn (pc := 43) rfl rfl dX10_fault_43
  have qh1 : (x0).toInt ≠ 0 := fun e => h1 (Int32.toInt_inj.mp (e.trans (by decide)))
  have qh3 : (x0).toInt ≠ 1 := fun e => h3 (Int32.toInt_inj.mp (e.trans (by decide)))
  refine jo_lookup (pc := 1) dX10_fault_1 (by decide) (off := 43) (by simp [Op.lookupswitch.offset]; omega) (tgt := 44) rfl ?_
  refine jo_iconst (pc := 44) dX10_fault_44 (ic_i_m1) ?_
  exact jo_ireturn (pc := 45) rfl rfl dX10_fault_45
theorem c_X10_fault {w : Wd} (hw : WOK w) {σ : Mem} {x0 : Int32} : ∀ r, f_X10_fault σ x0 = some r → MC w mu_X10_fault (vI r) [.ref (adr w 0), .int x0] σ σ := mc_ofP ok_X10_fault rfl (Nat.le_of_ble_eq_true rfl) (t_X10_fault hw)
abbrev mu_X10_collect : MD := (yX10_collect, cX10_collect, 4, some .int, 4)
theorem ok_X10_collect : MOK mu_X10_collect 0 := ⟨gw_1040, gw_158, (by decide +kernel : plainFor yX10_collect = true), ⟨(by decide +kernel : yX10_collect.cls ≠ "java/lang/invoke/MethodHandle"), (by decide +kernel : yX10_collect.cls ≠ "java/lang/invoke/VarHandle"), (by decide +kernel : (parseMethodDescriptor yX10_collect.desc).map (fun d => d.parameters.length) = some 0)⟩, Nat.le_of_ble_eq_true rfl⟩
noncomputable def j_X10_collect_76 (σ4 : Mem) : Option (Int32 × Mem) :=
  bq (f_X2_run σ4 2 1000) (fun (v5 : Int32) (σ6 : Mem) => if v5 = (-1) then (some ((-2), σ6)) else (gF σ6 2 0 (fun (v7 : Int32) => pI σ6 16 1 v7 (fun (σ8 : Mem) => cI σ8 39 0 16 2 6 (fun (σ9 : Mem) => some (v5, σ9))))))
noncomputable def l_X10_collect_27 (v1 : Int32) (σ10 : Mem) (i11 : Int32) : Option ((Mem × Int32) ⊕ (Mem ⊕ (Int32 × Mem))) :=
  if v1 ≤ i11 then (some (Sum.inr (Sum.inl σ10))) else (gI σ10 34 i11 (fun (v12 : Int32) => bd (v12 - 97) (fun (v13 : Int32) => if v13 < 0 then (some (Sum.inr (Sum.inr ((-1), σ10)))) else (gF σ10 2 0 (fun (v14 : Int32) => if v13 < v14 then ((f_X2_add σ10 v13).bind (fun (σ15 : Mem) => some (Sum.inl (σ15, i11 + 1)))) else (some (Sum.inr (Sum.inr ((-1), σ10)))))))))
noncomputable def f_X10_collect (σ : Mem) : Option (Int32 × Mem) :=
  gF σ 0 7 (fun (v1 : Int32) => pF σ 0 7 0 (fun (σ2 : Mem) => if v1 ≤ 24 then ((f_X2_begin σ2).bind (fun (σ3 : Mem) => (loopO (fun (z11 : (Mem × Int32)) => l_X10_collect_27 v1 z11.1 z11.2) (σ3, 0) : Option (Mem ⊕ (Int32 × Mem))).bind (Sum.elim (fun (z4 : Mem) => j_X10_collect_76 z4) some))) else (some ((-1), σ2))))
theorem t_X10_collect {w : Wd} (hw : WOK w) {σ : Mem} : JO w mu_X10_collect vI σ [(0, .ref (adr w 0))] [] 0 (f_X10_collect σ) some := by
  unfold f_X10_collect
  refine jo_aload_n (pc := 0) 0 rfl dX10_collect_0 rfl ?_
  refine jo_getf (pc := 1) ok_10_7 (ik_0 hw) gw_638 dX10_collect_1 (fun v1 => ?_)
  refine jo_istore_n (pc := 4) (lv' := [(1, .int v1), (0, .ref (adr w 0))]) dX10_collect_4 rfl (ltb rfl) rfl ?_
  refine jo_aload_n (pc := 5) 1 rfl dX10_collect_5 rfl ?_
  refine jo_iconst (pc := 6) dX10_collect_6 (ic_i_0) ?_
  refine jo_putf (pc := 7) ok_10_7 okp_10_7 (ik_0 hw) gw_638 dX10_collect_7 (fun σ2 => ?_)
  refine jo_iload_n (pc := 10) 0 rfl dX10_collect_10 rfl ?_
  refine jo_bipush (pc := 11) dX10_collect_11 (ic_b_24) ?_
  refine jo_icmp_le (pc := 13) dX10_collect_13 (tgt := 18) rfl ?_ ?_
  · refine jo_aload_n (pc := 18) 1 rfl dX10_collect_18 rfl ?_
    refine jo_getrE (pc := 19) ok_10_8 (ik_0 hw) rf_0_8 gw_639 dX10_collect_19 ?_
    refine jo_cV_V_i (pc := 22) (μ' := mu_X2_begin) (fx := f_X2_begin σ2) (As := []) (c_X2_begin hw) (ok_X2_begin) (ltb rfl) (all3 gw_1041 gw_557 gw_558) (ik_35 hw) (by decide) (q := (RX2, TX2, 7)) rfl rfl rfl rfl (Nat.le_of_ble_eq_true rfl) dX10_collect_22 (fun σ3 => ?_)
    refine jo_iconst (pc := 25) dX10_collect_25 (ic_i_0) ?_
    refine jo_istore_n (pc := 26) (lv' := [(2, .int 0), (1, .int v1), (0, .ref (adr w 0))]) dX10_collect_26 rfl (ltb rfl) rfl ?_
    refine jo_joinS (S := Mem) (fun (z4 : Mem) => z4) (fun (z4 : Mem) => [(0, .ref (adr w 0))]) (fun (z4 : Mem) => []) 76 ?_ (fun h76_4 => ?_)
    · intro σ4
      show JO w mu_X10_collect vI σ4 [(0, .ref (adr w 0))] [] 76 (j_X10_collect_76 σ4) _
      unfold j_X10_collect_76
      refine jo_aload_n (pc := 76) 0 rfl dX10_collect_76 rfl ?_
      refine jo_getrE (pc := 77) ok_10_8 (ik_0 hw) rf_0_8 gw_639 dX10_collect_77 ?_
      refine jo_aload_n (pc := 80) 0 rfl dX10_collect_80 rfl ?_
      refine jo_getrE (pc := 81) ok_10_0 (ik_0 hw) rf_0_0 gw_631 dX10_collect_81 ?_
      refine jo_getrE (pc := 84) ok_8_0 (ik_1 hw) rf_1_0 gw_218 dX10_collect_84 ?_
      refine jo_sipush (pc := 87) dX10_collect_87 (ic_s_1000) ?_
      refine jo_cV_I_i (pc := 90) (μ' := mu_X2_run) (fx := f_X2_run σ4 2 1000) (As := [.ref (adr w 2), .int 1000]) (c_X2_run hw (ik_2 hw)) (ok_X2_run) (ltb rfl) (all3 gw_1043 gw_574 gw_575) (ik_35 hw) (by decide) (q := (RX2, TX2, 7)) rfl rfl rfl rfl (Nat.le_of_ble_eq_true rfl) dX10_collect_90 (fun v5 σ6 => ?_)
      refine jo_istore_n (pc := 93) (lv' := [(2, .int v5), (0, .ref (adr w 0))]) dX10_collect_93 rfl (ltb rfl) rfl ?_
      refine jo_iload_n (pc := 94) 0 rfl dX10_collect_94 rfl ?_
      refine jo_iconst (pc := 95) dX10_collect_95 (ic_i_m1) ?_
      refine jo_icmp_ne (pc := 96) dX10_collect_96 (tgt := 102) rfl ?_ ?_
      · refine jo_aload_n (pc := 102) 1 rfl dX10_collect_102 rfl ?_
        refine jo_getrE (pc := 103) ok_10_0 (ik_0 hw) rf_0_0 gw_631 dX10_collect_103 ?_
        refine jo_getrE (pc := 106) ok_8_2 (ik_1 hw) rf_1_2 gw_224 dX10_collect_106 ?_
        refine jo_iconst (pc := 109) dX10_collect_109 (ic_i_1) ?_
        refine jo_aload_n (pc := 110) 1 rfl dX10_collect_110 rfl ?_
        refine jo_getrE (pc := 111) ok_10_0 (ik_0 hw) rf_0_0 gw_631 dX10_collect_111 ?_
        refine jo_getrE (pc := 114) ok_8_0 (ik_1 hw) rf_1_0 gw_218 dX10_collect_114 ?_
        refine jo_getf (pc := 117) ok_6_0 (ik_2 hw) gw_198 dX10_collect_117 (fun v7 => ?_)
        refine jo_iast (pc := 120) (ik_16 hw) dX10_collect_120 (fun σ8 => ?_)
        refine jo_aload_n (pc := 121) 1 rfl dX10_collect_121 rfl ?_
        refine jo_getrE (pc := 122) ok_10_8 (ik_0 hw) rf_0_8 gw_639 dX10_collect_122 ?_
        refine jo_getrE (pc := 125) ok_2_6 (ik_35 hw) rf_35_6 gw_248 dX10_collect_125 ?_
        refine jo_iconst (pc := 128) dX10_collect_128 (ic_i_0) ?_
        refine jo_aload_n (pc := 129) 1 rfl dX10_collect_129 rfl ?_
        refine jo_getrE (pc := 130) ok_10_0 (ik_0 hw) rf_0_0 gw_631 dX10_collect_130 ?_
        refine jo_getrE (pc := 133) ok_8_2 (ik_1 hw) rf_1_2 gw_224 dX10_collect_133 ?_
        refine jo_iconst (pc := 136) dX10_collect_136 (ic_i_2) ?_
        refine jo_bipush (pc := 137) dX10_collect_137 (ic_b_6) ?_
        refine jo_acI (pc := 139) (ik_39 hw) (ik_16 hw) (all4 gw_1044 gw_547 gw_546 gw_170) (ltb rfl) (Nat.le_of_ble_eq_true rfl) dX10_collect_139 (fun σ9 => ?_)
        refine jo_iload_n (pc := 142) 0 rfl dX10_collect_142 rfl ?_
        exact jo_ireturn (pc := 143) rfl rfl dX10_collect_143
      · refine jo_bipush (pc := 99) dX10_collect_99 (ic_b_m2) ?_
        exact jo_ireturn (pc := 101) rfl rfl dX10_collect_101
    · refine jo_lv (lv' := [(1, .int v1), (0, .ref (adr w 0)), (2, .int 0)]) [1, 2, 0] rfl ?_
      refine jo_loop (X := Mem ⊕ (Int32 × Mem)) (fun (z11 : (Mem × Int32)) => z11.1) (fun (z11 : (Mem × Int32)) => [(1, .int v1), (0, .ref (adr w 0)), (2, .int z11.2)]) (body := (fun (z11 : (Mem × Int32)) => l_X10_collect_27 v1 z11.1 z11.2)) (fun F27_11 hF27_11 s => ?_) (σ3, 0)
      obtain ⟨σ10, i11⟩ := s
      show JO w mu_X10_collect vI σ10 [(1, .int v1), (0, .ref (adr w 0)), (2, .int i11)] [] 27 (l_X10_collect_27 v1 σ10 i11) _
      unfold l_X10_collect_27
      refine jo_iload_n (pc := 27) 2 rfl dX10_collect_27 rfl ?_
      refine jo_iload_n (pc := 28) 0 rfl dX10_collect_28 rfl ?_
      refine jo_icmp_ge (pc := 29) dX10_collect_29 (tgt := 76) rfl ?_ ?_
      · refine jo_lv (lv' := [(0, .ref (adr w 0))]) [1] rfl ?_
        exact jo_leaf (by rfl) (h76_4 σ10)
      · refine jo_aload_n (pc := 32) 1 rfl dX10_collect_32 rfl ?_
        refine jo_getrE (pc := 33) ok_10_6 (ik_0 hw) rf_0_6 gw_637 dX10_collect_33 ?_
        refine jo_iload_n (pc := 36) 2 rfl dX10_collect_36 rfl ?_
        refine jo_iald (pc := 37) (ik_34 hw) dX10_collect_37 (fun v12 => ?_)
        refine jo_bipush (pc := 38) dX10_collect_38 (ic_b_97) ?_
        refine jo_isub (pc := 40) dX10_collect_40 ?_
        refine jo_bd ?_
        refine jo_istore_n (pc := 41) (lv' := [(3, .int (v12 - 97)), (1, .int v1), (0, .ref (adr w 0)), (2, .int i11)]) dX10_collect_41 rfl (ltb rfl) rfl ?_
        generalize (v12 - 97) = v13
        refine jo_iload_n (pc := 42) 0 rfl dX10_collect_42 rfl ?_
        refine jo_if_lt (pc := 43) dX10_collect_43 (tgt := 60) rfl ?_ ?_
        · refine jo_iconst (pc := 60) dX10_collect_60 (ic_i_m1) ?_
          exact jo_ireturn (pc := 61) rfl rfl dX10_collect_61
        · refine jo_iload_n (pc := 46) 0 rfl dX10_collect_46 rfl ?_
          refine jo_aload_n (pc := 47) 2 rfl dX10_collect_47 rfl ?_
          refine jo_getrE (pc := 48) ok_10_0 (ik_0 hw) rf_0_0 gw_631 dX10_collect_48 ?_
          refine jo_getrE (pc := 51) ok_8_0 (ik_1 hw) rf_1_0 gw_218 dX10_collect_51 ?_
          refine jo_getf (pc := 54) ok_6_0 (ik_2 hw) gw_198 dX10_collect_54 (fun v14 => ?_)
          refine jo_icmp_lt (pc := 57) dX10_collect_57 (tgt := 62) rfl ?_ ?_
          · refine jo_aload_n (pc := 62) 2 rfl dX10_collect_62 rfl ?_
            refine jo_getrE (pc := 63) ok_10_8 (ik_0 hw) rf_0_8 gw_639 dX10_collect_63 ?_
            refine jo_iload_n (pc := 66) 0 rfl dX10_collect_66 rfl ?_
            refine jo_cV_V_i (pc := 67) (μ' := mu_X2_add) (fx := f_X2_add σ10 v13) (As := [.int v13]) (c_X2_add hw) (ok_X2_add) (ltb rfl) (all3 gw_1042 gw_561 gw_562) (ik_35 hw) (by decide) (q := (RX2, TX2, 7)) rfl rfl rfl rfl (Nat.le_of_ble_eq_true rfl) dX10_collect_67 (fun σ15 => ?_)
            refine jo_iinc (pc := 70) (lv' := [(2, .int (i11 + 1)), (3, .int v13), (1, .int v1), (0, .ref (adr w 0))]) 3 rfl dX10_collect_70 (congrArg (fun z => i11 + z) (ic_i_1)) (ltb rfl) rfl ?_
            refine jo_goto (pc := 73) dX10_collect_73 (tgt := 27) rfl ?_
            refine jo_lv (lv' := [(1, .int v1), (0, .ref (adr w 0)), (2, .int (i11 + 1))]) [2, 3, 0] rfl ?_
            exact jo_leaf (by rfl) (hF27_11 (σ15, i11 + 1))
          · refine jo_iconst (pc := 60) dX10_collect_60 (ic_i_m1) ?_
            exact jo_ireturn (pc := 61) rfl rfl dX10_collect_61
  · refine jo_iconst (pc := 16) dX10_collect_16 (ic_i_m1) ?_
    exact jo_ireturn (pc := 17) rfl rfl dX10_collect_17
theorem c_X10_collect {w : Wd} (hw : WOK w) {σ : Mem} : ∀ r σ', f_X10_collect σ = some (r, σ') → MC w mu_X10_collect (vI r) [.ref (adr w 0)] σ σ' := mc_of ok_X10_collect rfl (Nat.le_of_ble_eq_true rfl) (t_X10_collect hw)
abbrev mu_X10_collected : MD := (yX10_collected, cX10_collected, 2, some .int, 0)
theorem ok_X10_collected : MOK mu_X10_collected 1 := ⟨gw_1048, gw_158, (by decide +kernel : plainFor yX10_collected = true), ⟨(by decide +kernel : yX10_collected.cls ≠ "java/lang/invoke/MethodHandle"), (by decide +kernel : yX10_collected.cls ≠ "java/lang/invoke/VarHandle"), (by decide +kernel : (parseMethodDescriptor yX10_collected.desc).map (fun d => d.parameters.length) = some 1)⟩, Nat.le_of_ble_eq_true rfl⟩
noncomputable def f_X10_collected (σ : Mem) (x0 : Int32) : Option Int32 :=
  if x0 < 1 then (some (-1)) else (gI σ 16 1 (fun (v1 : Int32) => if v1 < x0 then (some (-1)) else (if x0 ≤ 6 then (gI σ 16 ((2 + x0) - 1) (fun (v2 : Int32) => some v2)) else (some (-1)))))
theorem t_X10_collected {w : Wd} (hw : WOK w) {σ : Mem} {x0 : Int32} : JO w mu_X10_collected vI σ [(0, .ref (adr w 0)), (1, .int x0)] [] 0 (f_X10_collected σ x0) (fun z => some (z, σ)) := by
  unfold f_X10_collected
  refine jo_iload_n (pc := 0) 1 rfl dX10_collected_0 rfl ?_
  refine jo_iconst (pc := 1) dX10_collected_1 (ic_i_1) ?_
  refine jo_icmp_lt (pc := 2) dX10_collected_2 (tgt := 24) rfl ?_ ?_
  · refine jo_iconst (pc := 24) dX10_collected_24 (ic_i_m1) ?_
    exact jo_ireturn (pc := 25) rfl rfl dX10_collected_25
  · refine jo_iload_n (pc := 5) 1 rfl dX10_collected_5 rfl ?_
    refine jo_aload_n (pc := 6) 0 rfl dX10_collected_6 rfl ?_
    refine jo_getrE (pc := 7) ok_10_0 (ik_0 hw) rf_0_0 gw_631 dX10_collected_7 ?_
    refine jo_getrE (pc := 10) ok_8_2 (ik_1 hw) rf_1_2 gw_224 dX10_collected_10 ?_
    refine jo_iconst (pc := 13) dX10_collected_13 (ic_i_1) ?_
    refine jo_iald (pc := 14) (ik_16 hw) dX10_collected_14 (fun v1 => ?_)
    refine jo_icmp_gt (pc := 15) dX10_collected_15 (tgt := 24) rfl ?_ ?_
    · refine jo_iconst (pc := 24) dX10_collected_24 (ic_i_m1) ?_
      exact jo_ireturn (pc := 25) rfl rfl dX10_collected_25
    · refine jo_iload_n (pc := 18) 1 rfl dX10_collected_18 rfl ?_
      refine jo_bipush (pc := 19) dX10_collected_19 (ic_b_6) ?_
      refine jo_icmp_le (pc := 21) dX10_collected_21 (tgt := 26) rfl ?_ ?_
      · refine jo_aload_n (pc := 26) 0 rfl dX10_collected_26 rfl ?_
        refine jo_getrE (pc := 27) ok_10_0 (ik_0 hw) rf_0_0 gw_631 dX10_collected_27 ?_
        refine jo_getrE (pc := 30) ok_8_2 (ik_1 hw) rf_1_2 gw_224 dX10_collected_30 ?_
        refine jo_iconst (pc := 33) dX10_collected_33 (ic_i_2) ?_
        refine jo_iload_n (pc := 34) 1 rfl dX10_collected_34 rfl ?_
        refine jo_iadd (pc := 35) dX10_collected_35 ?_
        refine jo_iconst (pc := 36) dX10_collected_36 (ic_i_1) ?_
        refine jo_isub (pc := 37) dX10_collected_37 ?_
        refine jo_iald (pc := 38) (ik_16 hw) dX10_collected_38 (fun v2 => ?_)
        exact jo_ireturn (pc := 39) rfl rfl dX10_collected_39
      · refine jo_iconst (pc := 24) dX10_collected_24 (ic_i_m1) ?_
        exact jo_ireturn (pc := 25) rfl rfl dX10_collected_25
theorem c_X10_collected {w : Wd} (hw : WOK w) {σ : Mem} {x0 : Int32} : ∀ r, f_X10_collected σ x0 = some r → MC w mu_X10_collected (vI r) [.ref (adr w 0), .int x0] σ σ := mc_ofP ok_X10_collected rfl (Nat.le_of_ble_eq_true rfl) (t_X10_collected hw)
abbrev mu_X10_exponent : MD := (yX10_exponent, cX10_exponent, 3, some .int, 1)
theorem ok_X10_exponent : MOK mu_X10_exponent 2 := ⟨gw_1052, gw_158, (by decide +kernel : plainFor yX10_exponent = true), ⟨(by decide +kernel : yX10_exponent.cls ≠ "java/lang/invoke/MethodHandle"), (by decide +kernel : yX10_exponent.cls ≠ "java/lang/invoke/VarHandle"), (by decide +kernel : (parseMethodDescriptor yX10_exponent.desc).map (fun d => d.parameters.length) = some 2)⟩, Nat.le_of_ble_eq_true rfl⟩
noncomputable def f_X10_exponent (σ : Mem) (x0 : Int32) (x1 : Int32) : Option Int32 :=
  (f_X10_isRegister σ x0).bind (fun (b1 : Bool) => if b1 then (f_X10_isGenerator σ x1).bind (fun (b2 : Bool) => if b2 then gR 5 x0 (fun (p3 : Nat) => gL σ p3 (x1 - 1) (fun (v4 : Int64) => some (Int64.toInt32 v4))) else some (-10000)) else some (-10000))
theorem t_X10_exponent {w : Wd} (hw : WOK w) {σ : Mem} {x0 : Int32} {x1 : Int32} : JO w mu_X10_exponent vI σ [(0, .ref (adr w 0)), (1, .int x0), (2, .int x1)] [] 0 (f_X10_exponent σ x0 x1) (fun z => some (z, σ)) := by
  unfold f_X10_exponent
  refine jo_iload_n (pc := 0) 1 rfl dX10_exponent_0 rfl ?_
  refine jo_cS_Z_p (pc := 1) (μ' := mu_X10_isRegister) (fx := f_X10_isRegister σ x0) (As := [.int x0]) (c_X10_isRegister hw) (ok_X10_isRegister) (ltb rfl) (all2 gw_803 gw_804) rfl rfl (Nat.le_of_ble_eq_true rfl) dX10_exponent_1 (fun b1 => ?_)
  refine jo_ifz_eq (pc := 4) dX10_exponent_4 (tgt := 15) rfl ?_ ?_
  · refine jo_sipush (pc := 15) dX10_exponent_15 (ic_s_m10000) ?_
    exact jo_ireturn (pc := 18) rfl rfl dX10_exponent_18
  · refine jo_aload_n (pc := 7) 0 rfl dX10_exponent_7 rfl ?_
    refine jo_iload_n (pc := 8) 2 rfl dX10_exponent_8 rfl ?_
    refine jo_cV_Z_p (pc := 9) (μ' := mu_X10_isGenerator) (fx := f_X10_isGenerator σ x1) (As := [.int x1]) (c_X10_isGenerator hw) (ok_X10_isGenerator) (ltb rfl) (all3 gw_743 gw_745 gw_11) (ik_0 hw) (by decide) (q := (RX10, TX10, 17)) rfl rfl rfl rfl (Nat.le_of_ble_eq_true rfl) dX10_exponent_9 (fun b2 => ?_)
    refine jo_ifz_ne (pc := 12) dX10_exponent_12 (tgt := 19) rfl ?_ ?_
    · refine jo_aload_n (pc := 19) 0 rfl dX10_exponent_19 rfl ?_
      refine jo_getrE (pc := 20) ok_10_0 (ik_0 hw) rf_0_0 gw_631 dX10_exponent_20 ?_
      refine jo_getrE (pc := 23) ok_8_1 (ik_1 hw) rf_1_1 gw_221 dX10_exponent_23 ?_
      refine jo_iload_n (pc := 26) 1 rfl dX10_exponent_26 rfl ?_
      refine jo_aaldG (pc := 27) (z := 13) hw (ik_5 hw) (by decide) (t := 4) rfl rfl (by decide) dX10_exponent_27 (fun p3 hp3 => ?_)
      refine jo_iload_n (pc := 28) 2 rfl dX10_exponent_28 rfl ?_
      refine jo_iconst (pc := 29) dX10_exponent_29 (ic_i_1) ?_
      refine jo_isub (pc := 30) dX10_exponent_30 ?_
      refine jo_lald (pc := 31) (hp3) dX10_exponent_31 (fun v4 => ?_)
      refine jo_l2i (pc := 32) dX10_exponent_32 ?_
      exact jo_ireturn (pc := 33) rfl rfl dX10_exponent_33
    · refine jo_sipush (pc := 15) dX10_exponent_15 (ic_s_m10000) ?_
      exact jo_ireturn (pc := 18) rfl rfl dX10_exponent_18
theorem c_X10_exponent {w : Wd} (hw : WOK w) {σ : Mem} {x0 : Int32} {x1 : Int32} : ∀ r, f_X10_exponent σ x0 x1 = some r → MC w mu_X10_exponent (vI r) [.ref (adr w 0), .int x0, .int x1] σ σ := mc_ofP ok_X10_exponent rfl (Nat.le_of_ble_eq_true rfl) (t_X10_exponent hw)
abbrev mu_X10_layerOf : MD := (yX10_layerOf, cX10_layerOf, 3, some .int, 1)
theorem ok_X10_layerOf : MOK mu_X10_layerOf 1 := ⟨gw_1060, gw_158, (by decide +kernel : plainFor yX10_layerOf = true), ⟨(by decide +kernel : yX10_layerOf.cls ≠ "java/lang/invoke/MethodHandle"), (by decide +kernel : yX10_layerOf.cls ≠ "java/lang/invoke/VarHandle"), (by decide +kernel : (parseMethodDescriptor yX10_layerOf.desc).map (fun d => d.parameters.length) = some 1)⟩, Nat.le_of_ble_eq_true rfl⟩
noncomputable def j_X10_layerOf_43 (σ : Mem) : Option Int32 :=
  (f_X6_top σ 2).bind (fun (v1 : Int32) => some (v1 + 1))
noncomputable def j_X10_layerOf_24 (σ : Mem) (i2 : Int32) : Option (Unit ⊕ Int32) :=
  gI σ 3 i2 (fun (v3 : Int32) => some (Sum.inr v3))
noncomputable def l_X10_layerOf_2 (σ : Mem) (x0 : Nat) (i4 : Int32) : Option (Int32 ⊕ (Int32 ⊕ (Unit ⊕ Int32))) :=
  gF σ 2 0 (fun (v5 : Int32) => if v5 ≤ i4 then (some (Sum.inr (Sum.inr (Sum.inl ())))) else (gL σ x0 i4 (fun (v6 : Int64) => if v6 = 0 then (some (Sum.inl (i4 + 1))) else (some (Sum.inr (Sum.inl i4))))))
noncomputable def f_X10_layerOf (σ : Mem) (x0 : Nat) : Option Int32 :=
  ((loopO (fun (z4 : Int32) => l_X10_layerOf_2 σ x0 z4) 0 : Option (Int32 ⊕ (Unit ⊕ Int32))).bind (Sum.elim (fun (z2 : Int32) => j_X10_layerOf_24 σ z2) some) : Option (Unit ⊕ Int32)).bind (Sum.elim (fun (z0 : Unit) => j_X10_layerOf_43 σ) some)
theorem t_X10_layerOf {w : Wd} (hw : WOK w) {σ : Mem} {x0 : Nat} (hx0 : isk w x0 13) : JO w mu_X10_layerOf vI σ [(0, .ref (adr w 0)), (1, .ref (adr w x0))] [] 0 (f_X10_layerOf σ x0) (fun z => some (z, σ)) := by
  unfold f_X10_layerOf
  refine jo_iconst (pc := 0) dX10_layerOf_0 (ic_i_0) ?_
  refine jo_istore_n (pc := 1) (lv' := [(2, .int 0), (0, .ref (adr w 0)), (1, .ref (adr w x0))]) dX10_layerOf_1 rfl (ltb rfl) rfl ?_
  refine jo_joinS (S := Unit) (fun (z0 : Unit) => σ) (fun (z0 : Unit) => [(0, .ref (adr w 0))]) (fun (z0 : Unit) => []) 43 ?_ (fun h43_0 => ?_)
  · intro _
    show JO w mu_X10_layerOf vI σ [(0, .ref (adr w 0))] [] 43 (j_X10_layerOf_43 σ) _
    unfold j_X10_layerOf_43
    refine jo_aload_n (pc := 43) 0 rfl dX10_layerOf_43 rfl ?_
    refine jo_getrE (pc := 44) ok_10_0 (ik_0 hw) rf_0_0 gw_631 dX10_layerOf_44 ?_
    refine jo_getrE (pc := 47) ok_8_0 (ik_1 hw) rf_1_0 gw_218 dX10_layerOf_47 ?_
    refine jo_cV_I_p (pc := 50) (μ' := mu_X6_top) (fx := f_X6_top σ 2) (As := []) (c_X6_top hw (ik_2 hw)) (ok_X6_top) (ltb rfl) (all3 gw_1061 gw_606 gw_607) (ik_2 hw) (by decide) (q := (RX6, TX6, 3)) rfl rfl rfl rfl (Nat.le_of_ble_eq_true rfl) dX10_layerOf_50 (fun v1 => ?_)
    refine jo_iconst (pc := 53) dX10_layerOf_53 (ic_i_1) ?_
    refine jo_iadd (pc := 54) dX10_layerOf_54 ?_
    exact jo_ireturn (pc := 55) rfl rfl dX10_layerOf_55
  · refine jo_joinS (S := Int32) (fun (z2 : Int32) => σ) (fun (z2 : Int32) => [(0, .ref (adr w 0)), (2, .int z2)]) (fun (z2 : Int32) => []) 24 ?_ (fun h24_2 => ?_)
    · intro i2
      show JO w mu_X10_layerOf vI σ [(0, .ref (adr w 0)), (2, .int i2)] [] 24 (j_X10_layerOf_24 σ i2) _
      unfold j_X10_layerOf_24
      refine jo_aload_n (pc := 24) 0 rfl dX10_layerOf_24 rfl ?_
      refine jo_getrE (pc := 25) ok_10_0 (ik_0 hw) rf_0_0 gw_631 dX10_layerOf_25 ?_
      refine jo_getrE (pc := 28) ok_8_0 (ik_1 hw) rf_1_0 gw_218 dX10_layerOf_28 ?_
      refine jo_getrE (pc := 31) ok_6_1 (ik_2 hw) rf_2_1 gw_203 dX10_layerOf_31 ?_
      refine jo_iload_n (pc := 34) 1 rfl dX10_layerOf_34 rfl ?_
      refine jo_iald (pc := 35) (ik_3 hw) dX10_layerOf_35 (fun v3 => ?_)
      exact jo_ireturn (pc := 36) rfl rfl dX10_layerOf_36
    · refine jo_lv (lv' := [(0, .ref (adr w 0)), (1, .ref (adr w x0)), (2, .int 0)]) [1, 2, 0] rfl ?_
      refine jo_loop (X := Int32 ⊕ (Unit ⊕ Int32)) (fun (z4 : Int32) => σ) (fun (z4 : Int32) => [(0, .ref (adr w 0)), (1, .ref (adr w x0)), (2, .int z4)]) (body := (fun (z4 : Int32) => l_X10_layerOf_2 σ x0 z4)) (fun F2_4 hF2_4 s => ?_) 0
      revert s; intro i4
      show JO w mu_X10_layerOf vI σ [(0, .ref (adr w 0)), (1, .ref (adr w x0)), (2, .int i4)] [] 2 (l_X10_layerOf_2 σ x0 i4) _
      unfold l_X10_layerOf_2
      refine jo_iload_n (pc := 2) 2 rfl dX10_layerOf_2 rfl ?_
      refine jo_aload_n (pc := 3) 0 rfl dX10_layerOf_3 rfl ?_
      refine jo_getrE (pc := 4) ok_10_0 (ik_0 hw) rf_0_0 gw_631 dX10_layerOf_4 ?_
      refine jo_getrE (pc := 7) ok_8_0 (ik_1 hw) rf_1_0 gw_218 dX10_layerOf_7 ?_
      refine jo_getf (pc := 10) ok_6_0 (ik_2 hw) gw_198 dX10_layerOf_10 (fun v5 => ?_)
      refine jo_icmp_ge (pc := 13) dX10_layerOf_13 (tgt := 43) rfl ?_ ?_
      · refine jo_lv (lv' := [(0, .ref (adr w 0))]) [0] rfl ?_
        exact jo_leaf (by rfl) (h43_0 ())
      · refine jo_aload_n (pc := 16) 1 rfl dX10_layerOf_16 rfl ?_
        refine jo_iload_n (pc := 17) 2 rfl dX10_layerOf_17 rfl ?_
        refine jo_lald (pc := 18) (hx0) dX10_layerOf_18 (fun v6 => ?_)
        refine jo_lconst (pc := 19) dX10_layerOf_19 (ic_l_0) ?_
        refine jo_lcmp_eq (pc := 20) dX10_layerOf_20 dX10_layerOf_21 (tgt := 37) rfl ?_ ?_
        · refine jo_iinc (pc := 37) (lv' := [(2, .int (i4 + 1)), (0, .ref (adr w 0)), (1, .ref (adr w x0))]) 2 rfl dX10_layerOf_37 (congrArg (fun z => i4 + z) (ic_i_1)) (ltb rfl) rfl ?_
          refine jo_goto (pc := 40) dX10_layerOf_40 (tgt := 2) rfl ?_
          refine jo_lv (lv' := [(0, .ref (adr w 0)), (1, .ref (adr w x0)), (2, .int (i4 + 1))]) [1, 2, 0] rfl ?_
          exact jo_leaf (by rfl) (hF2_4 (i4 + 1))
        · refine jo_lv (lv' := [(0, .ref (adr w 0)), (2, .int i4)]) [0, 2] rfl ?_
          exact jo_leaf (by rfl) (h24_2 i4)
theorem c_X10_layerOf {w : Wd} (hw : WOK w) {σ : Mem} {x0 : Nat} (hx0 : isk w x0 13) : ∀ r, f_X10_layerOf σ x0 = some r → MC w mu_X10_layerOf (vI r) [.ref (adr w 0), .ref (adr w x0)] σ σ := mc_ofP ok_X10_layerOf rfl (Nat.le_of_ble_eq_true rfl) (t_X10_layerOf hw hx0)
abbrev mu_X10_commutesWithAll : MD := (yX10_commutesWithAll, cX10_commutesWithAll, 3, some .boolean, 3)
theorem ok_X10_commutesWithAll : MOK mu_X10_commutesWithAll 1 := ⟨gw_1065, gw_158, (by decide +kernel : plainFor yX10_commutesWithAll = true), ⟨(by decide +kernel : yX10_commutesWithAll.cls ≠ "java/lang/invoke/MethodHandle"), (by decide +kernel : yX10_commutesWithAll.cls ≠ "java/lang/invoke/VarHandle"), (by decide +kernel : (parseMethodDescriptor yX10_commutesWithAll.desc).map (fun d => d.parameters.length) = some 1)⟩, Nat.le_of_ble_eq_true rfl⟩
noncomputable def l_X10_commutesWithAll_2 (x0 : Nat) (σ1 : Mem) (i2 : Int32) : Option ((Mem × Int32) ⊕ (Bool × Mem)) :=
  gF σ1 2 0 (fun (v3 : Int32) => if v3 ≤ i2 then (some (Sum.inr (true, σ1))) else ((f_X0_makeGenerator σ1 177 i2 1).bind (fun (σ4 : Mem) => bq (f_X0_doCommute σ4 x0 177) (fun (b5 : Bool) (σ6 : Mem) => if b5 then some (Sum.inl (σ6, i2 + 1)) else some (Sum.inr (false, σ6))))))
noncomputable def f_X10_commutesWithAll (σ : Mem) (x0 : Nat) : Option (Bool × Mem) :=
  loopO (fun (z2 : (Mem × Int32)) => l_X10_commutesWithAll_2 x0 z2.1 z2.2) (σ, 0)
theorem t_X10_commutesWithAll {w : Wd} (hw : WOK w) {σ : Mem} {x0 : Nat} (hx0 : isk w x0 13) : JO w mu_X10_commutesWithAll vB σ [(0, .ref (adr w 0)), (1, .ref (adr w x0))] [] 0 (f_X10_commutesWithAll σ x0) some := by
  unfold f_X10_commutesWithAll
  refine jo_iconst (pc := 0) dX10_commutesWithAll_0 (ic_i_0) ?_
  refine jo_istore_n (pc := 1) (lv' := [(2, .int 0), (0, .ref (adr w 0)), (1, .ref (adr w x0))]) dX10_commutesWithAll_1 rfl (ltb rfl) rfl ?_
  refine jo_lv (lv' := [(0, .ref (adr w 0)), (1, .ref (adr w x0)), (2, .int 0)]) [1, 2, 0] rfl ?_
  refine jo_loop (X := (Bool × Mem)) (fun (z2 : (Mem × Int32)) => z2.1) (fun (z2 : (Mem × Int32)) => [(0, .ref (adr w 0)), (1, .ref (adr w x0)), (2, .int z2.2)]) (body := (fun (z2 : (Mem × Int32)) => l_X10_commutesWithAll_2 x0 z2.1 z2.2)) (fun F2_2 hF2_2 s => ?_) (σ, 0)
  obtain ⟨σ1, i2⟩ := s
  show JO w mu_X10_commutesWithAll vB σ1 [(0, .ref (adr w 0)), (1, .ref (adr w x0)), (2, .int i2)] [] 2 (l_X10_commutesWithAll_2 x0 σ1 i2) _
  unfold l_X10_commutesWithAll_2
  refine jo_iload_n (pc := 2) 2 rfl dX10_commutesWithAll_2 rfl ?_
  refine jo_aload_n (pc := 3) 0 rfl dX10_commutesWithAll_3 rfl ?_
  refine jo_getrE (pc := 4) ok_10_0 (ik_0 hw) rf_0_0 gw_631 dX10_commutesWithAll_4 ?_
  refine jo_getrE (pc := 7) ok_8_0 (ik_1 hw) rf_1_0 gw_218 dX10_commutesWithAll_7 ?_
  refine jo_getf (pc := 10) ok_6_0 (ik_2 hw) gw_198 dX10_commutesWithAll_10 (fun v3 => ?_)
  refine jo_icmp_ge (pc := 13) dX10_commutesWithAll_13 (tgt := 48) rfl ?_ ?_
  · refine jo_iconst (pc := 48) dX10_commutesWithAll_48 (ic_i_1) ?_
    exact jo_breturn (pc := 49) (b := true) rfl rfl dX10_commutesWithAll_49
  · refine jo_aload_n (pc := 16) 0 rfl dX10_commutesWithAll_16 rfl ?_
    refine jo_getrE (pc := 17) ok_10_16 (ik_0 hw) rf_0_16 gw_647 dX10_commutesWithAll_17 ?_
    refine jo_iload_n (pc := 20) 2 rfl dX10_commutesWithAll_20 rfl ?_
    refine jo_lconst (pc := 21) dX10_commutesWithAll_21 (ic_l_1) ?_
    refine jo_cS_V_i (pc := 22) (μ' := mu_X0_makeGenerator) (fx := f_X0_makeGenerator σ1 177 i2 1) (As := [.ref (adr w 177), .int i2, .long 1]) (c_X0_makeGenerator hw (ik_177 hw)) (ok_X0_makeGenerator) (ltb rfl) (all2 gw_1066 gw_1010) rfl rfl (Nat.le_of_ble_eq_true rfl) dX10_commutesWithAll_22 (fun σ4 => ?_)
    refine jo_aload_n (pc := 25) 0 rfl dX10_commutesWithAll_25 rfl ?_
    refine jo_getrE (pc := 26) ok_10_10 (ik_0 hw) rf_0_10 gw_641 dX10_commutesWithAll_26 ?_
    refine jo_aload_n (pc := 29) 1 rfl dX10_commutesWithAll_29 rfl ?_
    refine jo_aload_n (pc := 30) 0 rfl dX10_commutesWithAll_30 rfl ?_
    refine jo_getrE (pc := 31) ok_10_16 (ik_0 hw) rf_0_16 gw_647 dX10_commutesWithAll_31 ?_
    refine jo_cV_Z_i (pc := 34) (μ' := mu_X0_doCommute) (fx := f_X0_doCommute σ4 x0 177) (As := [.ref (adr w x0), .ref (adr w 177)]) (c_X0_doCommute hw (hx0) (ik_177 hw)) (ok_X0_doCommute) (ltb rfl) (all3 gw_1067 gw_1068 gw_1069) (ik_72 hw) (by decide) (q := (RX0, TX0, 8)) rfl rfl rfl rfl (Nat.le_of_ble_eq_true rfl) dX10_commutesWithAll_34 (fun b5 σ6 => ?_)
    refine jo_ifz_ne (pc := 37) dX10_commutesWithAll_37 (tgt := 42) rfl ?_ ?_
    · refine jo_iinc (pc := 42) (lv' := [(2, .int (i2 + 1)), (0, .ref (adr w 0)), (1, .ref (adr w x0))]) 2 rfl dX10_commutesWithAll_42 (congrArg (fun z => i2 + z) (ic_i_1)) (ltb rfl) rfl ?_
      refine jo_goto (pc := 45) dX10_commutesWithAll_45 (tgt := 2) rfl ?_
      refine jo_lv (lv' := [(0, .ref (adr w 0)), (1, .ref (adr w x0)), (2, .int (i2 + 1))]) [1, 2, 0] rfl ?_
      exact jo_leaf (by rfl) (hF2_2 (σ6, i2 + 1))
    · refine jo_iconst (pc := 40) dX10_commutesWithAll_40 (ic_i_0) ?_
      exact jo_breturn (pc := 41) (b := false) rfl rfl dX10_commutesWithAll_41
theorem c_X10_commutesWithAll {w : Wd} (hw : WOK w) {σ : Mem} {x0 : Nat} (hx0 : isk w x0 13) : ∀ r σ', f_X10_commutesWithAll σ x0 = some (r, σ') → MC w mu_X10_commutesWithAll (vB r) [.ref (adr w 0), .ref (adr w x0)] σ σ' := mc_of ok_X10_commutesWithAll rfl (Nat.le_of_ble_eq_true rfl) (t_X10_commutesWithAll hw hx0)
abbrev mu_X10_greatestRoot : MD := (yX10_greatestRoot, cX10_greatestRoot, 3, some .int, 3)
theorem ok_X10_greatestRoot : MOK mu_X10_greatestRoot 1 := ⟨gw_1115, gw_158, (by decide +kernel : plainFor yX10_greatestRoot = true), ⟨(by decide +kernel : yX10_greatestRoot.cls ≠ "java/lang/invoke/MethodHandle"), (by decide +kernel : yX10_greatestRoot.cls ≠ "java/lang/invoke/VarHandle"), (by decide +kernel : (parseMethodDescriptor yX10_greatestRoot.desc).map (fun d => d.parameters.length) = some 1)⟩, Nat.le_of_ble_eq_true rfl⟩
noncomputable def l_X10_greatestRoot_3 (x0 : Nat) (σ1 : Mem) (i2 : Int32) : Option ((Mem × Int32) ⊕ (Int32 × Mem)) :=
  if i2 ≤ 1 then (some (Sum.inr (1, σ1))) else (bq (f_X0_extract σ1 176 x0 (Int32.toInt64 i2)) (fun (b3 : Bool) (σ4 : Mem) => if b3 then some (Sum.inr (i2, σ4)) else some (Sum.inl (σ4, i2 + (-1)))))
noncomputable def f_X10_greatestRoot (σ : Mem) (x0 : Nat) : Option (Int32 × Mem) :=
  loopO (fun (z2 : (Mem × Int32)) => l_X10_greatestRoot_3 x0 z2.1 z2.2) (σ, 99)
theorem t_X10_greatestRoot {w : Wd} (hw : WOK w) {σ : Mem} {x0 : Nat} (hx0 : isk w x0 13) : JO w mu_X10_greatestRoot vI σ [(0, .ref (adr w 0)), (1, .ref (adr w x0))] [] 0 (f_X10_greatestRoot σ x0) some := by
  unfold f_X10_greatestRoot
  refine jo_bipush (pc := 0) dX10_greatestRoot_0 (ic_b_99) ?_
  refine jo_istore_n (pc := 2) (lv' := [(2, .int 99), (0, .ref (adr w 0)), (1, .ref (adr w x0))]) dX10_greatestRoot_2 rfl (ltb rfl) rfl ?_
  refine jo_lv (lv' := [(0, .ref (adr w 0)), (1, .ref (adr w x0)), (2, .int 99)]) [1, 2, 0] rfl ?_
  refine jo_loop (X := (Int32 × Mem)) (fun (z2 : (Mem × Int32)) => z2.1) (fun (z2 : (Mem × Int32)) => [(0, .ref (adr w 0)), (1, .ref (adr w x0)), (2, .int z2.2)]) (body := (fun (z2 : (Mem × Int32)) => l_X10_greatestRoot_3 x0 z2.1 z2.2)) (fun F3_2 hF3_2 s => ?_) (σ, 99)
  obtain ⟨σ1, i2⟩ := s
  show JO w mu_X10_greatestRoot vI σ1 [(0, .ref (adr w 0)), (1, .ref (adr w x0)), (2, .int i2)] [] 3 (l_X10_greatestRoot_3 x0 σ1 i2) _
  unfold l_X10_greatestRoot_3
  refine jo_iload_n (pc := 3) 2 rfl dX10_greatestRoot_3 rfl ?_
  refine jo_iconst (pc := 4) dX10_greatestRoot_4 (ic_i_1) ?_
  refine jo_icmp_le (pc := 5) dX10_greatestRoot_5 (tgt := 33) rfl ?_ ?_
  · refine jo_iconst (pc := 33) dX10_greatestRoot_33 (ic_i_1) ?_
    exact jo_ireturn (pc := 34) rfl rfl dX10_greatestRoot_34
  · refine jo_aload_n (pc := 8) 0 rfl dX10_greatestRoot_8 rfl ?_
    refine jo_getrE (pc := 9) ok_10_10 (ik_0 hw) rf_0_10 gw_641 dX10_greatestRoot_9 ?_
    refine jo_aload_n (pc := 12) 0 rfl dX10_greatestRoot_12 rfl ?_
    refine jo_getrE (pc := 13) ok_10_15 (ik_0 hw) rf_0_15 gw_646 dX10_greatestRoot_13 ?_
    refine jo_aload_n (pc := 16) 1 rfl dX10_greatestRoot_16 rfl ?_
    refine jo_iload_n (pc := 17) 2 rfl dX10_greatestRoot_17 rfl ?_
    refine jo_i2l (pc := 18) dX10_greatestRoot_18 ?_
    refine jo_cV_Z_i (pc := 19) (μ' := mu_X0_extract) (fx := f_X0_extract σ1 176 x0 (Int32.toInt64 i2)) (As := [.ref (adr w 176), .ref (adr w x0), .long (Int32.toInt64 i2)]) (c_X0_extract hw (ik_176 hw) (hx0)) (ok_X0_extract) (ltb rfl) (all3 gw_887 gw_888 gw_889) (ik_72 hw) (by decide) (q := (RX0, TX0, 8)) rfl rfl rfl rfl (Nat.le_of_ble_eq_true rfl) dX10_greatestRoot_19 (fun b3 σ4 => ?_)
    refine jo_ifz_eq (pc := 22) dX10_greatestRoot_22 (tgt := 27) rfl ?_ ?_
    · refine jo_iinc (pc := 27) (lv' := [(2, .int (i2 + (-1))), (0, .ref (adr w 0)), (1, .ref (adr w x0))]) 2 rfl dX10_greatestRoot_27 (congrArg (fun z => i2 + z) (ic_i_m1)) (ltb rfl) rfl ?_
      refine jo_goto (pc := 30) dX10_greatestRoot_30 (tgt := 3) rfl ?_
      refine jo_lv (lv' := [(0, .ref (adr w 0)), (1, .ref (adr w x0)), (2, .int (i2 + (-1)))]) [1, 2, 0] rfl ?_
      exact jo_leaf (by rfl) (hF3_2 (σ4, i2 + (-1)))
    · refine jo_iload_n (pc := 25) 2 rfl dX10_greatestRoot_25 rfl ?_
      exact jo_ireturn (pc := 26) rfl rfl dX10_greatestRoot_26
theorem c_X10_greatestRoot {w : Wd} (hw : WOK w) {σ : Mem} {x0 : Nat} (hx0 : isk w x0 13) : ∀ r σ', f_X10_greatestRoot σ x0 = some (r, σ') → MC w mu_X10_greatestRoot (vI r) [.ref (adr w 0), .ref (adr w x0)] σ σ' := mc_of ok_X10_greatestRoot rfl (Nat.le_of_ble_eq_true rfl) (t_X10_greatestRoot hw hx0)
abbrev mu_X10_sameAs : MD := (yX10_sameAs, cX10_sameAs, 4, some .int, 1)
theorem ok_X10_sameAs : MOK mu_X10_sameAs 1 := ⟨gw_1119, gw_158, (by decide +kernel : plainFor yX10_sameAs = true), ⟨(by decide +kernel : yX10_sameAs.cls ≠ "java/lang/invoke/MethodHandle"), (by decide +kernel : yX10_sameAs.cls ≠ "java/lang/invoke/VarHandle"), (by decide +kernel : (parseMethodDescriptor yX10_sameAs.desc).map (fun d => d.parameters.length) = some 1)⟩, Nat.le_of_ble_eq_true rfl⟩
noncomputable def j_X10_sameAs_32 (i2 : Int32) (i5 : Int32) : Option ((Int32 × Int32) ⊕ Int32) :=
  some (Sum.inl (i5, i2 + 1))
noncomputable def l_X10_sameAs_4 (σ : Mem) (x0 : Nat) (i1 : Int32) (i2 : Int32) : Option ((Int32 × Int32) ⊕ Int32) :=
  if 10 ≤ i2 then (some (Sum.inr i1)) else (gR 5 i2 (fun (p3 : Nat) => (f_X0_areSame σ x0 p3).bind (fun (b4 : Bool) => (if b4 then bd (i1 ||| (1 <<< (i2 &&& 31))) (fun (v6 : Int32) => some v6) else some i1 : Option Int32).bind (fun (z5 : Int32) => j_X10_sameAs_32 i2 z5))))
noncomputable def f_X10_sameAs (σ : Mem) (x0 : Nat) : Option Int32 :=
  loopO (fun (z2 : (Int32 × Int32)) => l_X10_sameAs_4 σ x0 z2.1 z2.2) (0, 0)
theorem t_X10_sameAs {w : Wd} (hw : WOK w) {σ : Mem} {x0 : Nat} (hx0 : isk w x0 13) : JO w mu_X10_sameAs vI σ [(0, .ref (adr w 0)), (1, .ref (adr w x0))] [] 0 (f_X10_sameAs σ x0) (fun z => some (z, σ)) := by
  unfold f_X10_sameAs
  refine jo_iconst (pc := 0) dX10_sameAs_0 (ic_i_0) ?_
  refine jo_istore_n (pc := 1) (lv' := [(2, .int 0), (0, .ref (adr w 0)), (1, .ref (adr w x0))]) dX10_sameAs_1 rfl (ltb rfl) rfl ?_
  refine jo_iconst (pc := 2) dX10_sameAs_2 (ic_i_0) ?_
  refine jo_istore_n (pc := 3) (lv' := [(3, .int 0), (2, .int 0), (0, .ref (adr w 0)), (1, .ref (adr w x0))]) dX10_sameAs_3 rfl (ltb rfl) rfl ?_
  refine jo_lv (lv' := [(0, .ref (adr w 0)), (1, .ref (adr w x0)), (2, .int 0), (3, .int 0)]) [2, 3, 1, 0] rfl ?_
  refine jo_loop (X := Int32) (fun (z2 : (Int32 × Int32)) => σ) (fun (z2 : (Int32 × Int32)) => [(0, .ref (adr w 0)), (1, .ref (adr w x0)), (2, .int z2.1), (3, .int z2.2)]) (body := (fun (z2 : (Int32 × Int32)) => l_X10_sameAs_4 σ x0 z2.1 z2.2)) (fun F4_2 hF4_2 s => ?_) (0, 0)
  obtain ⟨i1, i2⟩ := s
  show JO w mu_X10_sameAs vI σ [(0, .ref (adr w 0)), (1, .ref (adr w x0)), (2, .int i1), (3, .int i2)] [] 4 (l_X10_sameAs_4 σ x0 i1 i2) _
  unfold l_X10_sameAs_4
  refine jo_iload_n (pc := 4) 3 rfl dX10_sameAs_4 rfl ?_
  refine jo_bipush (pc := 5) dX10_sameAs_5 (ic_b_10) ?_
  refine jo_icmp_ge (pc := 7) dX10_sameAs_7 (tgt := 38) rfl ?_ ?_
  · refine jo_iload_n (pc := 38) 2 rfl dX10_sameAs_38 rfl ?_
    exact jo_ireturn (pc := 39) rfl rfl dX10_sameAs_39
  · refine jo_aload_n (pc := 10) 1 rfl dX10_sameAs_10 rfl ?_
    refine jo_aload_n (pc := 11) 0 rfl dX10_sameAs_11 rfl ?_
    refine jo_getrE (pc := 12) ok_10_0 (ik_0 hw) rf_0_0 gw_631 dX10_sameAs_12 ?_
    refine jo_getrE (pc := 15) ok_8_1 (ik_1 hw) rf_1_1 gw_221 dX10_sameAs_15 ?_
    refine jo_iload_n (pc := 18) 3 rfl dX10_sameAs_18 rfl ?_
    refine jo_aaldG (pc := 19) (z := 13) hw (ik_5 hw) (by decide) (t := 4) rfl rfl (by decide) dX10_sameAs_19 (fun p3 hp3 => ?_)
    refine jo_cS_Z_p (pc := 20) (μ' := mu_X0_areSame) (fx := f_X0_areSame σ x0 p3) (As := [.ref (adr w x0), .ref (adr w p3)]) (c_X0_areSame hw (hx0) (hp3)) (ok_X0_areSame) (ltb rfl) (all2 gw_1120 gw_1072) rfl rfl (Nat.le_of_ble_eq_true rfl) dX10_sameAs_20 (fun b4 => ?_)
    refine jo_join1 (S := Int32) (fun (z5 : Int32) => σ) (fun (z5 : Int32) => [(0, .ref (adr w 0)), (1, .ref (adr w x0)), (3, .int i2), (2, .int z5)]) (fun (z5 : Int32) => []) 32 ?_ (fun h32_5 => ?_)
    · intro i5
      show JO w mu_X10_sameAs vI σ [(0, .ref (adr w 0)), (1, .ref (adr w x0)), (3, .int i2), (2, .int i5)] [] 32 (j_X10_sameAs_32 i2 i5) _
      unfold j_X10_sameAs_32
      refine jo_iinc (pc := 32) (lv' := [(3, .int (i2 + 1)), (0, .ref (adr w 0)), (1, .ref (adr w x0)), (2, .int i5)]) 2 rfl dX10_sameAs_32 (congrArg (fun z => i2 + z) (ic_i_1)) (ltb rfl) rfl ?_
      refine jo_goto (pc := 35) dX10_sameAs_35 (tgt := 4) rfl ?_
      refine jo_lv (lv' := [(0, .ref (adr w 0)), (1, .ref (adr w x0)), (2, .int i5), (3, .int (i2 + 1))]) [1, 2, 3, 0] rfl ?_
      exact jo_leaf (by rfl) (hF4_2 (i5, i2 + 1))
    · refine jo_ifz_eq (pc := 23) dX10_sameAs_23 (tgt := 32) rfl ?_ ?_
      · refine jo_lv (lv' := [(0, .ref (adr w 0)), (1, .ref (adr w x0)), (3, .int i2), (2, .int i1)]) [0, 1, 3, 2] rfl ?_
        exact jo_leaf (by rfl) (h32_5 i1)
      · refine jo_iload_n (pc := 26) 2 rfl dX10_sameAs_26 rfl ?_
        refine jo_iconst (pc := 27) dX10_sameAs_27 (ic_i_1) ?_
        refine jo_iload_n (pc := 28) 3 rfl dX10_sameAs_28 rfl ?_
        refine jo_ishl (pc := 29) dX10_sameAs_29 ?_
        refine jo_ior (pc := 30) dX10_sameAs_30 ?_
        refine jo_bd ?_
        refine jo_istore_n (pc := 31) (lv' := [(2, .int (i1 ||| (1 <<< (i2 &&& 31)))), (0, .ref (adr w 0)), (1, .ref (adr w x0)), (3, .int i2)]) dX10_sameAs_31 rfl (ltb rfl) rfl ?_
        generalize (i1 ||| (1 <<< (i2 &&& 31))) = v6
        refine jo_lv (lv' := [(0, .ref (adr w 0)), (1, .ref (adr w x0)), (3, .int i2), (2, .int v6)]) [1, 2, 3, 0] rfl ?_
        exact jo_leaf (by rfl) (h32_5 v6)
theorem c_X10_sameAs {w : Wd} (hw : WOK w) {σ : Mem} {x0 : Nat} (hx0 : isk w x0 13) : ∀ r, f_X10_sameAs σ x0 = some r → MC w mu_X10_sameAs (vI r) [.ref (adr w 0), .ref (adr w x0)] σ σ := mc_ofP ok_X10_sameAs rfl (Nat.le_of_ble_eq_true rfl) (t_X10_sameAs hw hx0)
abbrev mu_X10_leastMade : MD := (yX10_leastMade, cX10_leastMade, 5, some .int, 4)
theorem ok_X10_leastMade : MOK mu_X10_leastMade 2 := ⟨gw_1124, gw_158, (by decide +kernel : plainFor yX10_leastMade = true), ⟨(by decide +kernel : yX10_leastMade.cls ≠ "java/lang/invoke/MethodHandle"), (by decide +kernel : yX10_leastMade.cls ≠ "java/lang/invoke/VarHandle"), (by decide +kernel : (parseMethodDescriptor yX10_leastMade.desc).map (fun d => d.parameters.length) = some 2)⟩, Nat.le_of_ble_eq_true rfl⟩
noncomputable def l_X10_leastMade_76 (x0 : Nat) (x1 : Int32) (σ3 : Mem) (i4 : Int32) : Option ((Mem × Int32) ⊕ (Int32 × Mem)) :=
  if x1 < i4 then (some (Sum.inr (0, σ3))) else ((f_X0_raise σ3 176 x0 (Int32.toInt64 i4)).bind (fun (σ5 : Mem) => bq (f_X3_reduce σ5 135 176) (fun (b6 : Bool) (σ7 : Mem) => if b6 then some (Sum.inr (i4, σ7)) else some (Sum.inl (σ7, i4 + 1)))))
noncomputable def j_X10_leastMade_74 (x0 : Nat) (x1 : Int32) (σ2 : Mem) : Option (Int32 × Mem) :=
  loopO (fun (z4 : (Mem × Int32)) => l_X10_leastMade_76 x0 x1 z4.1 z4.2) (σ2, 1)
noncomputable def j_X10_leastMade_68 (i9 : Int32) (σ11 : Mem) : Option ((Mem × Int32) ⊕ Mem) :=
  some (Sum.inl (σ11, i9 + 1))
noncomputable def l_X10_leastMade_28 (i9 : Int32) (σ12 : Mem) (i13 : Int32) : Option ((Mem × Int32) ⊕ Mem) :=
  if i9 ≤ i13 then (some (Sum.inr σ12)) else ((f_X6_copyTails σ12 2 i9 i13 176).bind (fun (σ14 : Mem) => (f_X3_insert σ14 135 176).bind (fun (σ15 : Mem) => some (Sum.inl (σ15, i13 + 1)))))
noncomputable def l_X10_leastMade_11 (σ8 : Mem) (i9 : Int32) : Option ((Mem × Int32) ⊕ Mem) :=
  gF σ8 2 0 (fun (v10 : Int32) => if v10 ≤ i9 then (some (Sum.inr σ8)) else ((loopO (fun (z13 : (Mem × Int32)) => l_X10_leastMade_28 i9 z13.1 z13.2) (σ8, 0) : Option Mem).bind (fun (z11 : Mem) => j_X10_leastMade_68 i9 z11)))
noncomputable def f_X10_leastMade (σ : Mem) (x0 : Nat) (x1 : Int32) : Option (Int32 × Mem) :=
  (f_X3_clear σ 135 6).bind (fun (σ1 : Mem) => (loopO (fun (z9 : (Mem × Int32)) => l_X10_leastMade_11 z9.1 z9.2) (σ1, 1) : Option Mem).bind (fun (z2 : Mem) => j_X10_leastMade_74 x0 x1 z2))
theorem t_X10_leastMade {w : Wd} (hw : WOK w) {σ : Mem} {x0 : Nat} {x1 : Int32} (hx0 : isk w x0 13) : JO w mu_X10_leastMade vI σ [(0, .ref (adr w 0)), (1, .ref (adr w x0)), (2, .int x1)] [] 0 (f_X10_leastMade σ x0 x1) some := by
  unfold f_X10_leastMade
  refine jo_aload_n (pc := 0) 0 rfl dX10_leastMade_0 rfl ?_
  refine jo_getrE (pc := 1) ok_10_13 (ik_0 hw) rf_0_13 gw_644 dX10_leastMade_1 ?_
  refine jo_bipush (pc := 4) dX10_leastMade_4 (ic_b_6) ?_
  refine jo_cV_V_i (pc := 6) (μ' := mu_X3_clear) (fx := f_X3_clear σ 135 6) (As := [.int 6]) (c_X3_clear hw (ik_135 hw)) (ok_X3_clear) (ltb rfl) (all3 gw_1125 gw_1126 gw_1127) (ik_135 hw) (by decide) (q := (RX3, TX3, 3)) rfl rfl rfl rfl (Nat.le_of_ble_eq_true rfl) dX10_leastMade_6 (fun σ1 => ?_)
  refine jo_iconst (pc := 9) dX10_leastMade_9 (ic_i_1) ?_
  refine jo_istore_n (pc := 10) (lv' := [(3, .int 1), (0, .ref (adr w 0)), (1, .ref (adr w x0)), (2, .int x1)]) dX10_leastMade_10 rfl (ltb rfl) rfl ?_
  refine jo_join1 (S := Mem) (fun (z2 : Mem) => z2) (fun (z2 : Mem) => [(0, .ref (adr w 0)), (1, .ref (adr w x0)), (2, .int x1)]) (fun (z2 : Mem) => []) 74 ?_ (fun h74_2 => ?_)
  · intro σ2
    show JO w mu_X10_leastMade vI σ2 [(0, .ref (adr w 0)), (1, .ref (adr w x0)), (2, .int x1)] [] 74 (j_X10_leastMade_74 x0 x1 σ2) _
    unfold j_X10_leastMade_74
    refine jo_iconst (pc := 74) dX10_leastMade_74 (ic_i_1) ?_
    refine jo_istore_n (pc := 75) (lv' := [(3, .int 1), (0, .ref (adr w 0)), (1, .ref (adr w x0)), (2, .int x1)]) dX10_leastMade_75 rfl (ltb rfl) rfl ?_
    refine jo_lv (lv' := [(0, .ref (adr w 0)), (1, .ref (adr w x0)), (2, .int x1), (3, .int 1)]) [1, 2, 3, 0] rfl ?_
    refine jo_loop (X := (Int32 × Mem)) (fun (z4 : (Mem × Int32)) => z4.1) (fun (z4 : (Mem × Int32)) => [(0, .ref (adr w 0)), (1, .ref (adr w x0)), (2, .int x1), (3, .int z4.2)]) (body := (fun (z4 : (Mem × Int32)) => l_X10_leastMade_76 x0 x1 z4.1 z4.2)) (fun F76_4 hF76_4 s => ?_) (σ2, 1)
    obtain ⟨σ3, i4⟩ := s
    show JO w mu_X10_leastMade vI σ3 [(0, .ref (adr w 0)), (1, .ref (adr w x0)), (2, .int x1), (3, .int i4)] [] 76 (l_X10_leastMade_76 x0 x1 σ3 i4) _
    unfold l_X10_leastMade_76
    refine jo_iload_n (pc := 76) 3 rfl dX10_leastMade_76 rfl ?_
    refine jo_iload_n (pc := 77) 2 rfl dX10_leastMade_77 rfl ?_
    refine jo_icmp_gt (pc := 78) dX10_leastMade_78 (tgt := 117) rfl ?_ ?_
    · refine jo_iconst (pc := 117) dX10_leastMade_117 (ic_i_0) ?_
      exact jo_ireturn (pc := 118) rfl rfl dX10_leastMade_118
    · refine jo_aload_n (pc := 81) 0 rfl dX10_leastMade_81 rfl ?_
      refine jo_getrE (pc := 82) ok_10_10 (ik_0 hw) rf_0_10 gw_641 dX10_leastMade_82 ?_
      refine jo_aload_n (pc := 85) 0 rfl dX10_leastMade_85 rfl ?_
      refine jo_getrE (pc := 86) ok_10_15 (ik_0 hw) rf_0_15 gw_646 dX10_leastMade_86 ?_
      refine jo_aload_n (pc := 89) 1 rfl dX10_leastMade_89 rfl ?_
      refine jo_iload_n (pc := 90) 3 rfl dX10_leastMade_90 rfl ?_
      refine jo_i2l (pc := 91) dX10_leastMade_91 ?_
      refine jo_cV_V_i (pc := 92) (μ' := mu_X0_raise) (fx := f_X0_raise σ3 176 x0 (Int32.toInt64 i4)) (As := [.ref (adr w 176), .ref (adr w x0), .long (Int32.toInt64 i4)]) (c_X0_raise hw (ik_176 hw) (hx0)) (ok_X0_raise) (ltb rfl) (all3 gw_845 gw_846 gw_847) (ik_72 hw) (by decide) (q := (RX0, TX0, 8)) rfl rfl rfl rfl (Nat.le_of_ble_eq_true rfl) dX10_leastMade_92 (fun σ5 => ?_)
      refine jo_aload_n (pc := 95) 0 rfl dX10_leastMade_95 rfl ?_
      refine jo_getrE (pc := 96) ok_10_13 (ik_0 hw) rf_0_13 gw_644 dX10_leastMade_96 ?_
      refine jo_aload_n (pc := 99) 0 rfl dX10_leastMade_99 rfl ?_
      refine jo_getrE (pc := 100) ok_10_15 (ik_0 hw) rf_0_15 gw_646 dX10_leastMade_100 ?_
      refine jo_cV_Z_i (pc := 103) (μ' := mu_X3_reduce) (fx := f_X3_reduce σ5 135 176) (As := [.ref (adr w 176)]) (c_X3_reduce hw (ik_135 hw) (ik_176 hw)) (ok_X3_reduce) (ltb rfl) (all3 gw_1168 gw_1169 gw_1170) (ik_135 hw) (by decide) (q := (RX3, TX3, 3)) rfl rfl rfl rfl (Nat.le_of_ble_eq_true rfl) dX10_leastMade_103 (fun b6 σ7 => ?_)
      refine jo_ifz_eq (pc := 106) dX10_leastMade_106 (tgt := 111) rfl ?_ ?_
      · refine jo_iinc (pc := 111) (lv' := [(3, .int (i4 + 1)), (0, .ref (adr w 0)), (1, .ref (adr w x0)), (2, .int x1)]) 3 rfl dX10_leastMade_111 (congrArg (fun z => i4 + z) (ic_i_1)) (ltb rfl) rfl ?_
        refine jo_goto (pc := 114) dX10_leastMade_114 (tgt := 76) rfl ?_
        refine jo_lv (lv' := [(0, .ref (adr w 0)), (1, .ref (adr w x0)), (2, .int x1), (3, .int (i4 + 1))]) [1, 2, 3, 0] rfl ?_
        exact jo_leaf (by rfl) (hF76_4 (σ7, i4 + 1))
      · refine jo_iload_n (pc := 109) 3 rfl dX10_leastMade_109 rfl ?_
        exact jo_ireturn (pc := 110) rfl rfl dX10_leastMade_110
  · refine jo_lv (lv' := [(0, .ref (adr w 0)), (1, .ref (adr w x0)), (2, .int x1), (3, .int 1)]) [1, 2, 3, 0] rfl ?_
    refine jo_loop (X := Mem) (fun (z9 : (Mem × Int32)) => z9.1) (fun (z9 : (Mem × Int32)) => [(0, .ref (adr w 0)), (1, .ref (adr w x0)), (2, .int x1), (3, .int z9.2)]) (body := (fun (z9 : (Mem × Int32)) => l_X10_leastMade_11 z9.1 z9.2)) (fun F11_9 hF11_9 s => ?_) (σ1, 1)
    obtain ⟨σ8, i9⟩ := s
    show JO w mu_X10_leastMade vI σ8 [(0, .ref (adr w 0)), (1, .ref (adr w x0)), (2, .int x1), (3, .int i9)] [] 11 (l_X10_leastMade_11 σ8 i9) _
    unfold l_X10_leastMade_11
    refine jo_iload_n (pc := 11) 3 rfl dX10_leastMade_11 rfl ?_
    refine jo_aload_n (pc := 12) 0 rfl dX10_leastMade_12 rfl ?_
    refine jo_getrE (pc := 13) ok_10_0 (ik_0 hw) rf_0_0 gw_631 dX10_leastMade_13 ?_
    refine jo_getrE (pc := 16) ok_8_0 (ik_1 hw) rf_1_0 gw_218 dX10_leastMade_16 ?_
    refine jo_getf (pc := 19) ok_6_0 (ik_2 hw) gw_198 dX10_leastMade_19 (fun v10 => ?_)
    refine jo_icmp_ge (pc := 22) dX10_leastMade_22 (tgt := 74) rfl ?_ ?_
    · refine jo_lv (lv' := [(0, .ref (adr w 0)), (1, .ref (adr w x0)), (2, .int x1)]) [0, 1, 2] rfl ?_
      exact jo_leaf (by rfl) (h74_2 σ8)
    · refine jo_iconst (pc := 25) dX10_leastMade_25 (ic_i_0) ?_
      refine jo_istore (pc := 26) (lv' := [(4, .int 0), (0, .ref (adr w 0)), (1, .ref (adr w x0)), (2, .int x1), (3, .int i9)]) dX10_leastMade_26 (ltb rfl) rfl ?_
      refine jo_join1 (S := Mem) (fun (z11 : Mem) => z11) (fun (z11 : Mem) => [(0, .ref (adr w 0)), (1, .ref (adr w x0)), (2, .int x1), (3, .int i9)]) (fun (z11 : Mem) => []) 68 ?_ (fun h68_11 => ?_)
      · intro σ11
        show JO w mu_X10_leastMade vI σ11 [(0, .ref (adr w 0)), (1, .ref (adr w x0)), (2, .int x1), (3, .int i9)] [] 68 (j_X10_leastMade_68 i9 σ11) _
        unfold j_X10_leastMade_68
        refine jo_iinc (pc := 68) (lv' := [(3, .int (i9 + 1)), (0, .ref (adr w 0)), (1, .ref (adr w x0)), (2, .int x1)]) 3 rfl dX10_leastMade_68 (congrArg (fun z => i9 + z) (ic_i_1)) (ltb rfl) rfl ?_
        refine jo_goto (pc := 71) dX10_leastMade_71 (tgt := 11) rfl ?_
        refine jo_lv (lv' := [(0, .ref (adr w 0)), (1, .ref (adr w x0)), (2, .int x1), (3, .int (i9 + 1))]) [1, 2, 3, 0] rfl ?_
        exact jo_leaf (by rfl) (hF11_9 (σ11, i9 + 1))
      · refine jo_lv (lv' := [(0, .ref (adr w 0)), (1, .ref (adr w x0)), (2, .int x1), (3, .int i9), (4, .int 0)]) [1, 2, 3, 4, 0] rfl ?_
        refine jo_loop (X := Mem) (fun (z13 : (Mem × Int32)) => z13.1) (fun (z13 : (Mem × Int32)) => [(0, .ref (adr w 0)), (1, .ref (adr w x0)), (2, .int x1), (3, .int i9), (4, .int z13.2)]) (body := (fun (z13 : (Mem × Int32)) => l_X10_leastMade_28 i9 z13.1 z13.2)) (fun F28_13 hF28_13 s => ?_) (σ8, 0)
        obtain ⟨σ12, i13⟩ := s
        show JO w mu_X10_leastMade vI σ12 [(0, .ref (adr w 0)), (1, .ref (adr w x0)), (2, .int x1), (3, .int i9), (4, .int i13)] [] 28 (l_X10_leastMade_28 i9 σ12 i13) _
        unfold l_X10_leastMade_28
        refine jo_iload (pc := 28) 4 rfl dX10_leastMade_28 ?_
        refine jo_iload_n (pc := 30) 3 rfl dX10_leastMade_30 rfl ?_
        refine jo_icmp_ge (pc := 31) dX10_leastMade_31 (tgt := 68) rfl ?_ ?_
        · refine jo_lv (lv' := [(0, .ref (adr w 0)), (1, .ref (adr w x0)), (2, .int x1), (3, .int i9)]) [0, 1, 2, 3] rfl ?_
          exact jo_leaf (by rfl) (h68_11 σ12)
        · refine jo_aload_n (pc := 34) 0 rfl dX10_leastMade_34 rfl ?_
          refine jo_getrE (pc := 35) ok_10_0 (ik_0 hw) rf_0_0 gw_631 dX10_leastMade_35 ?_
          refine jo_getrE (pc := 38) ok_8_0 (ik_1 hw) rf_1_0 gw_218 dX10_leastMade_38 ?_
          refine jo_iload_n (pc := 41) 3 rfl dX10_leastMade_41 rfl ?_
          refine jo_iload (pc := 42) 4 rfl dX10_leastMade_42 ?_
          refine jo_aload_n (pc := 44) 0 rfl dX10_leastMade_44 rfl ?_
          refine jo_getrE (pc := 45) ok_10_15 (ik_0 hw) rf_0_15 gw_646 dX10_leastMade_45 ?_
          refine jo_cV_V_i (pc := 48) (μ' := mu_X6_copyTails) (fx := f_X6_copyTails σ12 2 i9 i13 176) (As := [.int i9, .int i13, .ref (adr w 176)]) (c_X6_copyTails hw (ik_2 hw) (ik_176 hw)) (ok_X6_copyTails) (ltb rfl) (all3 gw_1132 gw_1133 gw_1134) (ik_2 hw) (by decide) (q := (RX6, TX6, 3)) rfl rfl rfl rfl (Nat.le_of_ble_eq_true rfl) dX10_leastMade_48 (fun σ14 => ?_)
          refine jo_aload_n (pc := 51) 0 rfl dX10_leastMade_51 rfl ?_
          refine jo_getrE (pc := 52) ok_10_13 (ik_0 hw) rf_0_13 gw_644 dX10_leastMade_52 ?_
          refine jo_aload_n (pc := 55) 0 rfl dX10_leastMade_55 rfl ?_
          refine jo_getrE (pc := 56) ok_10_15 (ik_0 hw) rf_0_15 gw_646 dX10_leastMade_56 ?_
          refine jo_cV_V_i (pc := 59) (μ' := mu_X3_insert) (fx := f_X3_insert σ14 135 176) (As := [.ref (adr w 176)]) (c_X3_insert hw (ik_135 hw) (ik_176 hw)) (ok_X3_insert) (ltb rfl) (all3 gw_1136 gw_1137 gw_1138) (ik_135 hw) (by decide) (q := (RX3, TX3, 3)) rfl rfl rfl rfl (Nat.le_of_ble_eq_true rfl) dX10_leastMade_59 (fun σ15 => ?_)
          refine jo_iinc (pc := 62) (lv' := [(4, .int (i13 + 1)), (0, .ref (adr w 0)), (1, .ref (adr w x0)), (2, .int x1), (3, .int i9)]) 4 rfl dX10_leastMade_62 (congrArg (fun z => i13 + z) (ic_i_1)) (ltb rfl) rfl ?_
          refine jo_goto (pc := 65) dX10_leastMade_65 (tgt := 28) rfl ?_
          refine jo_lv (lv' := [(0, .ref (adr w 0)), (1, .ref (adr w x0)), (2, .int x1), (3, .int i9), (4, .int (i13 + 1))]) [1, 2, 3, 4, 0] rfl ?_
          exact jo_leaf (by rfl) (hF28_13 (σ15, i13 + 1))
theorem c_X10_leastMade {w : Wd} (hw : WOK w) {σ : Mem} {x0 : Nat} {x1 : Int32} (hx0 : isk w x0 13) : ∀ r σ', f_X10_leastMade σ x0 x1 = some (r, σ') → MC w mu_X10_leastMade (vI r) [.ref (adr w 0), .ref (adr w x0), .int x1] σ σ' := mc_of ok_X10_leastMade rfl (Nat.le_of_ble_eq_true rfl) (t_X10_leastMade hw hx0)
abbrev mu_X10_register : MD := (yX10_register, cX10_register, 4, some .int, 7)
theorem ok_X10_register : MOK mu_X10_register 2 := ⟨gw_1056, gw_158, (by decide +kernel : plainFor yX10_register = true), ⟨(by decide +kernel : yX10_register.cls ≠ "java/lang/invoke/MethodHandle"), (by decide +kernel : yX10_register.cls ≠ "java/lang/invoke/VarHandle"), (by decide +kernel : (parseMethodDescriptor yX10_register.desc).map (fun d => d.parameters.length) = some 2)⟩, Nat.le_of_ble_eq_true rfl⟩
noncomputable def f_X10_register (σ : Mem) (x0 : Int32) (x1 : Int32) : Option (Int32 × Mem) :=
  (f_X10_isRegister σ x0).bind (fun (b1 : Bool) => if b1 then gZ σ 40 3 (fun (b2 : Bool) => if b2 then gR 5 x0 (fun (p3 : Nat) => if x1 = 0 then ((f_X10_layerOf σ p3).bind (fun (v5 : Int32) => some (v5, σ))) else if x1 = 1 then (bq (f_X10_commutesWithAll σ p3) (fun (b7 : Bool) (σ8 : Mem) => (f_X10_bit σ8 b7).bind (fun (v9 : Int32) => some (v9, σ8)))) else if x1 = 2 then ((f_X0_isOne σ p3).bind (fun (b11 : Bool) => (f_X10_bit σ b11).bind (fun (v12 : Int32) => some (v12, σ)))) else if x1 = 3 then (bq (f_X1_levelOf σ p3) (fun (v14 : Int32) (σ15 : Mem) => some (v14, σ15))) else if x1 = 4 then (bq (f_X10_greatestRoot σ p3) (fun (v17 : Int32) (σ18 : Mem) => some (v17, σ18))) else if x1 = 5 then ((f_X10_sameAs σ p3).bind (fun (v20 : Int32) => some (v20, σ))) else if x1 = 6 then (bq (f_X10_leastMade σ p3 1) (fun (v22 : Int32) (σ23 : Mem) => some (v22, σ23))) else if x1 = 7 then (bq (f_X10_leastMade σ p3 99) (fun (v25 : Int32) (σ26 : Mem) => some (v25, σ26))) else (some ((-1), σ))) else some ((-1), σ)) else some ((-1), σ))
theorem t_X10_register {w : Wd} (hw : WOK w) {σ : Mem} {x0 : Int32} {x1 : Int32} : JO w mu_X10_register vI σ [(0, .ref (adr w 0)), (1, .int x0), (2, .int x1)] [] 0 (f_X10_register σ x0 x1) some := by
  unfold f_X10_register
  refine jo_iload_n (pc := 0) 1 rfl dX10_register_0 rfl ?_
  refine jo_cS_Z_p (pc := 1) (μ' := mu_X10_isRegister) (fx := f_X10_isRegister σ x0) (As := [.int x0]) (c_X10_isRegister hw) (ok_X10_isRegister) (ltb rfl) (all2 gw_803 gw_804) rfl rfl (Nat.le_of_ble_eq_true rfl) dX10_register_1 (fun b1 => ?_)
  refine jo_ifz_eq (pc := 4) dX10_register_4 (tgt := 17) rfl ?_ ?_
  · refine jo_iconst (pc := 17) dX10_register_17 (ic_i_m1) ?_
    exact jo_ireturn (pc := 18) rfl rfl dX10_register_18
  · refine jo_aload_n (pc := 7) 0 rfl dX10_register_7 rfl ?_
    refine jo_getrE (pc := 8) ok_10_9 (ik_0 hw) rf_0_9 gw_640 dX10_register_8 ?_
    refine jo_getz (pc := 11) ok_4_3 (ik_40 hw) gw_308 dX10_register_11 (fun b2 => ?_)
    refine jo_ifz_ne (pc := 14) dX10_register_14 (tgt := 19) rfl ?_ ?_
    · refine jo_aload_n (pc := 19) 0 rfl dX10_register_19 rfl ?_
      refine jo_getrE (pc := 20) ok_10_0 (ik_0 hw) rf_0_0 gw_631 dX10_register_20 ?_
      refine jo_getrE (pc := 23) ok_8_1 (ik_1 hw) rf_1_1 gw_221 dX10_register_23 ?_
      refine jo_iload_n (pc := 26) 1 rfl dX10_register_26 rfl ?_
      refine jo_aaldG (pc := 27) (z := 13) hw (ik_5 hw) (by decide) (t := 4) rfl rfl (by decide) dX10_register_27 (fun p3 hp3 => ?_)
      refine jo_astore_n (pc := 28) (lv' := [(3, .ref (adr w p3)), (0, .ref (adr w 0)), (1, .int x0), (2, .int x1)]) dX10_register_28 rfl (ltb rfl) rfl ?_
      refine jo_iload_n (pc := 29) 3 rfl dX10_register_29 rfl ?_
      refine jo_case (v := 0) (fun h4 => ?_) (fun h4 => ?_)
      · refine jo_tswHit (pc := 30) dX10_register_30 h4 (by decide) (by decide) (off := 46) (by rfl) (tgt := 76) rfl ?_
        refine jo_aload_n (pc := 76) 1 rfl dX10_register_76 rfl ?_
        refine jo_aload_n (pc := 77) 0 rfl dX10_register_77 rfl ?_
        refine jo_cV_I_p (pc := 78) (μ' := mu_X10_layerOf) (fx := f_X10_layerOf σ p3) (As := [.ref (adr w p3)]) (c_X10_layerOf hw (hp3)) (ok_X10_layerOf) (ltb rfl) (all3 gw_1057 gw_1059 gw_36) (ik_0 hw) (by decide) (q := (RX10, TX10, 17)) rfl rfl rfl rfl (Nat.le_of_ble_eq_true rfl) dX10_register_78 (fun v5 => ?_)
        exact jo_ireturn (pc := 81) rfl rfl dX10_register_81
      refine jo_case (v := 1) (fun h6 => ?_) (fun h6 => ?_)
      · refine jo_tswHit (pc := 30) dX10_register_30 h6 (by decide) (by decide) (off := 52) (by rfl) (tgt := 82) rfl ?_
        refine jo_aload_n (pc := 82) 1 rfl dX10_register_82 rfl ?_
        refine jo_aload_n (pc := 83) 0 rfl dX10_register_83 rfl ?_
        refine jo_cV_Z_i (pc := 84) (μ' := mu_X10_commutesWithAll) (fx := f_X10_commutesWithAll σ p3) (As := [.ref (adr w p3)]) (c_X10_commutesWithAll hw (hp3)) (ok_X10_commutesWithAll) (ltb rfl) (all3 gw_1062 gw_1064 gw_37) (ik_0 hw) (by decide) (q := (RX10, TX10, 17)) rfl rfl rfl rfl (Nat.le_of_ble_eq_true rfl) dX10_register_84 (fun b7 σ8 => ?_)
        refine jo_cS_I_p (pc := 87) (μ' := mu_X10_bit) (fx := f_X10_bit σ8 b7) (As := [.int (b2i b7)]) (c_X10_bit hw) (ok_X10_bit) (ltb rfl) (all2 gw_736 gw_737) rfl rfl (Nat.le_of_ble_eq_true rfl) dX10_register_87 (fun v9 => ?_)
        exact jo_ireturn (pc := 90) rfl rfl dX10_register_90
      refine jo_case (v := 2) (fun h10 => ?_) (fun h10 => ?_)
      · refine jo_tswHit (pc := 30) dX10_register_30 h10 (by decide) (by decide) (off := 61) (by rfl) (tgt := 91) rfl ?_
        refine jo_aload_n (pc := 91) 0 rfl dX10_register_91 rfl ?_
        refine jo_cS_Z_p (pc := 92) (μ' := mu_X0_isOne) (fx := f_X0_isOne σ p3) (As := [.ref (adr w p3)]) (c_X0_isOne hw (hp3)) (ok_X0_isOne) (ltb rfl) (all2 gw_1074 gw_1075) rfl rfl (Nat.le_of_ble_eq_true rfl) dX10_register_92 (fun b11 => ?_)
        refine jo_cS_I_p (pc := 95) (μ' := mu_X10_bit) (fx := f_X10_bit σ b11) (As := [.int (b2i b11)]) (c_X10_bit hw) (ok_X10_bit) (ltb rfl) (all2 gw_736 gw_737) rfl rfl (Nat.le_of_ble_eq_true rfl) dX10_register_95 (fun v12 => ?_)
        exact jo_ireturn (pc := 98) rfl rfl dX10_register_98
      refine jo_case (v := 3) (fun h13 => ?_) (fun h13 => ?_)
      · refine jo_tswHit (pc := 30) dX10_register_30 h13 (by decide) (by decide) (off := 69) (by rfl) (tgt := 99) rfl ?_
        refine jo_aload_n (pc := 99) 1 rfl dX10_register_99 rfl ?_
        refine jo_getrE (pc := 100) ok_10_12 (ik_0 hw) rf_0_12 gw_643 dX10_register_100 ?_
        refine jo_aload_n (pc := 103) 0 rfl dX10_register_103 rfl ?_
        refine jo_cV_I_i (pc := 104) (μ' := mu_X1_levelOf) (fx := f_X1_levelOf σ p3) (As := [.ref (adr w p3)]) (c_X1_levelOf hw (hp3)) (ok_X1_levelOf) (ltb rfl) (all3 gw_1078 gw_1079 gw_1080) (ik_128 hw) (by decide) (q := (RX1, TX1, 10)) rfl rfl rfl rfl (Nat.le_of_ble_eq_true rfl) dX10_register_104 (fun v14 σ15 => ?_)
        exact jo_ireturn (pc := 107) rfl rfl dX10_register_107
      refine jo_case (v := 4) (fun h16 => ?_) (fun h16 => ?_)
      · refine jo_tswHit (pc := 30) dX10_register_30 h16 (by decide) (by decide) (off := 78) (by rfl) (tgt := 108) rfl ?_
        refine jo_aload_n (pc := 108) 1 rfl dX10_register_108 rfl ?_
        refine jo_aload_n (pc := 109) 0 rfl dX10_register_109 rfl ?_
        refine jo_cV_I_i (pc := 110) (μ' := mu_X10_greatestRoot) (fx := f_X10_greatestRoot σ p3) (As := [.ref (adr w p3)]) (c_X10_greatestRoot hw (hp3)) (ok_X10_greatestRoot) (ltb rfl) (all3 gw_1112 gw_1114 gw_44) (ik_0 hw) (by decide) (q := (RX10, TX10, 17)) rfl rfl rfl rfl (Nat.le_of_ble_eq_true rfl) dX10_register_110 (fun v17 σ18 => ?_)
        exact jo_ireturn (pc := 113) rfl rfl dX10_register_113
      refine jo_case (v := 5) (fun h19 => ?_) (fun h19 => ?_)
      · refine jo_tswHit (pc := 30) dX10_register_30 h19 (by decide) (by decide) (off := 84) (by rfl) (tgt := 114) rfl ?_
        refine jo_aload_n (pc := 114) 1 rfl dX10_register_114 rfl ?_
        refine jo_aload_n (pc := 115) 0 rfl dX10_register_115 rfl ?_
        refine jo_cV_I_p (pc := 116) (μ' := mu_X10_sameAs) (fx := f_X10_sameAs σ p3) (As := [.ref (adr w p3)]) (c_X10_sameAs hw (hp3)) (ok_X10_sameAs) (ltb rfl) (all3 gw_1116 gw_1118 gw_45) (ik_0 hw) (by decide) (q := (RX10, TX10, 17)) rfl rfl rfl rfl (Nat.le_of_ble_eq_true rfl) dX10_register_116 (fun v20 => ?_)
        exact jo_ireturn (pc := 119) rfl rfl dX10_register_119
      refine jo_case (v := 6) (fun h21 => ?_) (fun h21 => ?_)
      · refine jo_tswHit (pc := 30) dX10_register_30 h21 (by decide) (by decide) (off := 90) (by rfl) (tgt := 120) rfl ?_
        refine jo_aload_n (pc := 120) 1 rfl dX10_register_120 rfl ?_
        refine jo_aload_n (pc := 121) 0 rfl dX10_register_121 rfl ?_
        refine jo_iconst (pc := 122) dX10_register_122 (ic_i_1) ?_
        refine jo_cV_I_i (pc := 123) (μ' := mu_X10_leastMade) (fx := f_X10_leastMade σ p3 1) (As := [.ref (adr w p3), .int 1]) (c_X10_leastMade hw (hp3)) (ok_X10_leastMade) (ltb rfl) (all3 gw_1121 gw_1123 gw_46) (ik_0 hw) (by decide) (q := (RX10, TX10, 17)) rfl rfl rfl rfl (Nat.le_of_ble_eq_true rfl) dX10_register_123 (fun v22 σ23 => ?_)
        exact jo_ireturn (pc := 126) rfl rfl dX10_register_126
      refine jo_case (v := 7) (fun h24 => ?_) (fun h24 => ?_)
      · refine jo_tswHit (pc := 30) dX10_register_30 h24 (by decide) (by decide) (off := 97) (by rfl) (tgt := 127) rfl ?_
        refine jo_aload_n (pc := 127) 1 rfl dX10_register_127 rfl ?_
        refine jo_aload_n (pc := 128) 0 rfl dX10_register_128 rfl ?_
        refine jo_bipush (pc := 129) dX10_register_129 (ic_b_99) ?_
        refine jo_cV_I_i (pc := 131) (μ' := mu_X10_leastMade) (fx := f_X10_leastMade σ p3 99) (As := [.ref (adr w p3), .int 99]) (c_X10_leastMade hw (hp3)) (ok_X10_leastMade) (ltb rfl) (all3 gw_1121 gw_1123 gw_46) (ik_0 hw) (by decide) (q := (RX10, TX10, 17)) rfl rfl rfl rfl (Nat.le_of_ble_eq_true rfl) dX10_register_131 (fun v25 σ26 => ?_)
        exact jo_ireturn (pc := 134) rfl rfl dX10_register_134
      have qh4 : (x1).toInt ≠ 0 := fun e => h4 (Int32.toInt_inj.mp (e.trans (by decide)))
      have qh6 : (x1).toInt ≠ 1 := fun e => h6 (Int32.toInt_inj.mp (e.trans (by decide)))
      have qh10 : (x1).toInt ≠ 2 := fun e => h10 (Int32.toInt_inj.mp (e.trans (by decide)))
      have qh13 : (x1).toInt ≠ 3 := fun e => h13 (Int32.toInt_inj.mp (e.trans (by decide)))
      have qh16 : (x1).toInt ≠ 4 := fun e => h16 (Int32.toInt_inj.mp (e.trans (by decide)))
      have qh19 : (x1).toInt ≠ 5 := fun e => h19 (Int32.toInt_inj.mp (e.trans (by decide)))
      have qh21 : (x1).toInt ≠ 6 := fun e => h21 (Int32.toInt_inj.mp (e.trans (by decide)))
      have qh24 : (x1).toInt ≠ 7 := fun e => h24 (Int32.toInt_inj.mp (e.trans (by decide)))
      refine jo_tableOut (pc := 30) dX10_register_30 (by omega) (tgt := 135) rfl ?_
      refine jo_iconst (pc := 135) dX10_register_135 (ic_i_m1) ?_
      exact jo_ireturn (pc := 136) rfl rfl dX10_register_136
    · refine jo_iconst (pc := 17) dX10_register_17 (ic_i_m1) ?_
      exact jo_ireturn (pc := 18) rfl rfl dX10_register_18
theorem c_X10_register {w : Wd} (hw : WOK w) {σ : Mem} {x0 : Int32} {x1 : Int32} : ∀ r σ', f_X10_register σ x0 x1 = some (r, σ') → MC w mu_X10_register (vI r) [.ref (adr w 0), .int x0, .int x1] σ σ' := mc_of ok_X10_register rfl (Nat.le_of_ble_eq_true rfl) (t_X10_register hw)
abbrev mu_X10_firstDifference : MD := (yX10_firstDifference, cX10_firstDifference, 4, some .int, 0)
theorem ok_X10_firstDifference : MOK mu_X10_firstDifference 2 := ⟨gw_1179, gw_158, (by decide +kernel : plainFor yX10_firstDifference = true), ⟨(by decide +kernel : yX10_firstDifference.cls ≠ "java/lang/invoke/MethodHandle"), (by decide +kernel : yX10_firstDifference.cls ≠ "java/lang/invoke/VarHandle"), (by decide +kernel : (parseMethodDescriptor yX10_firstDifference.desc).map (fun d => d.parameters.length) = some 2)⟩, Nat.le_of_ble_eq_true rfl⟩
noncomputable def j_X10_firstDifference_26 (i1 : Int32) : Option Int32 :=
  some (i1 + 1)
noncomputable def l_X10_firstDifference_2 (σ : Mem) (x0 : Nat) (x1 : Nat) (i2 : Int32) : Option (Int32 ⊕ (Int32 ⊕ Int32)) :=
  gF σ 2 0 (fun (v3 : Int32) => if v3 ≤ i2 then (some (Sum.inr (Sum.inr 0))) else (gL σ x0 i2 (fun (v4 : Int64) => gL σ x1 i2 (fun (v5 : Int64) => if v4 = v5 then (some (Sum.inl (i2 + 1))) else (some (Sum.inr (Sum.inl i2)))))))
noncomputable def f_X10_firstDifference (σ : Mem) (x0 : Nat) (x1 : Nat) : Option Int32 :=
  (loopO (fun (z2 : Int32) => l_X10_firstDifference_2 σ x0 x1 z2) 0 : Option (Int32 ⊕ Int32)).bind (Sum.elim (fun (z1 : Int32) => j_X10_firstDifference_26 z1) some)
theorem t_X10_firstDifference {w : Wd} (hw : WOK w) {σ : Mem} {x0 : Nat} {x1 : Nat} (hx0 : isk w x0 13) (hx1 : isk w x1 13) : JO w mu_X10_firstDifference vI σ [(0, .ref (adr w 0)), (1, .ref (adr w x0)), (2, .ref (adr w x1))] [] 0 (f_X10_firstDifference σ x0 x1) (fun z => some (z, σ)) := by
  unfold f_X10_firstDifference
  refine jo_iconst (pc := 0) dX10_firstDifference_0 (ic_i_0) ?_
  refine jo_istore_n (pc := 1) (lv' := [(3, .int 0), (0, .ref (adr w 0)), (1, .ref (adr w x0)), (2, .ref (adr w x1))]) dX10_firstDifference_1 rfl (ltb rfl) rfl ?_
  refine jo_joinS (S := Int32) (fun (z1 : Int32) => σ) (fun (z1 : Int32) => [(3, .int z1)]) (fun (z1 : Int32) => []) 26 ?_ (fun h26_1 => ?_)
  · intro i1
    show JO w mu_X10_firstDifference vI σ [(3, .int i1)] [] 26 (j_X10_firstDifference_26 i1) _
    unfold j_X10_firstDifference_26
    refine jo_iload_n (pc := 26) 0 rfl dX10_firstDifference_26 rfl ?_
    refine jo_iconst (pc := 27) dX10_firstDifference_27 (ic_i_1) ?_
    refine jo_iadd (pc := 28) dX10_firstDifference_28 ?_
    exact jo_ireturn (pc := 29) rfl rfl dX10_firstDifference_29
  · refine jo_lv (lv' := [(0, .ref (adr w 0)), (1, .ref (adr w x0)), (2, .ref (adr w x1)), (3, .int 0)]) [1, 2, 3, 0] rfl ?_
    refine jo_loop (X := Int32 ⊕ Int32) (fun (z2 : Int32) => σ) (fun (z2 : Int32) => [(0, .ref (adr w 0)), (1, .ref (adr w x0)), (2, .ref (adr w x1)), (3, .int z2)]) (body := (fun (z2 : Int32) => l_X10_firstDifference_2 σ x0 x1 z2)) (fun F2_2 hF2_2 s => ?_) 0
    revert s; intro i2
    show JO w mu_X10_firstDifference vI σ [(0, .ref (adr w 0)), (1, .ref (adr w x0)), (2, .ref (adr w x1)), (3, .int i2)] [] 2 (l_X10_firstDifference_2 σ x0 x1 i2) _
    unfold l_X10_firstDifference_2
    refine jo_iload_n (pc := 2) 3 rfl dX10_firstDifference_2 rfl ?_
    refine jo_aload_n (pc := 3) 0 rfl dX10_firstDifference_3 rfl ?_
    refine jo_getrE (pc := 4) ok_10_0 (ik_0 hw) rf_0_0 gw_631 dX10_firstDifference_4 ?_
    refine jo_getrE (pc := 7) ok_8_0 (ik_1 hw) rf_1_0 gw_218 dX10_firstDifference_7 ?_
    refine jo_getf (pc := 10) ok_6_0 (ik_2 hw) gw_198 dX10_firstDifference_10 (fun v3 => ?_)
    refine jo_icmp_ge (pc := 13) dX10_firstDifference_13 (tgt := 36) rfl ?_ ?_
    · refine jo_iconst (pc := 36) dX10_firstDifference_36 (ic_i_0) ?_
      exact jo_ireturn (pc := 37) rfl rfl dX10_firstDifference_37
    · refine jo_aload_n (pc := 16) 1 rfl dX10_firstDifference_16 rfl ?_
      refine jo_iload_n (pc := 17) 3 rfl dX10_firstDifference_17 rfl ?_
      refine jo_lald (pc := 18) (hx0) dX10_firstDifference_18 (fun v4 => ?_)
      refine jo_aload_n (pc := 19) 2 rfl dX10_firstDifference_19 rfl ?_
      refine jo_iload_n (pc := 20) 3 rfl dX10_firstDifference_20 rfl ?_
      refine jo_lald (pc := 21) (hx1) dX10_firstDifference_21 (fun v5 => ?_)
      refine jo_lcmp_eq (pc := 22) dX10_firstDifference_22 dX10_firstDifference_23 (tgt := 30) rfl ?_ ?_
      · refine jo_iinc (pc := 30) (lv' := [(3, .int (i2 + 1)), (0, .ref (adr w 0)), (1, .ref (adr w x0)), (2, .ref (adr w x1))]) 3 rfl dX10_firstDifference_30 (congrArg (fun z => i2 + z) (ic_i_1)) (ltb rfl) rfl ?_
        refine jo_goto (pc := 33) dX10_firstDifference_33 (tgt := 2) rfl ?_
        refine jo_lv (lv' := [(0, .ref (adr w 0)), (1, .ref (adr w x0)), (2, .ref (adr w x1)), (3, .int (i2 + 1))]) [1, 2, 3, 0] rfl ?_
        exact jo_leaf (by rfl) (hF2_2 (i2 + 1))
      · refine jo_lv (lv' := [(3, .int i2)]) [3] rfl ?_
        exact jo_leaf (by rfl) (h26_1 i2)
theorem c_X10_firstDifference {w : Wd} (hw : WOK w) {σ : Mem} {x0 : Nat} {x1 : Nat} (hx0 : isk w x0 13) (hx1 : isk w x1 13) : ∀ r, f_X10_firstDifference σ x0 x1 = some r → MC w mu_X10_firstDifference (vI r) [.ref (adr w 0), .ref (adr w x0), .ref (adr w x1)] σ σ := mc_ofP ok_X10_firstDifference rfl (Nat.le_of_ble_eq_true rfl) (t_X10_firstDifference hw hx0 hx1)
abbrev mu_X10_both : MD := (yX10_both, cX10_both, 6, some .int, 3)
theorem ok_X10_both : MOK mu_X10_both 3 := ⟨gw_1175, gw_158, (by decide +kernel : plainFor yX10_both = true), ⟨(by decide +kernel : yX10_both.cls ≠ "java/lang/invoke/MethodHandle"), (by decide +kernel : yX10_both.cls ≠ "java/lang/invoke/VarHandle"), (by decide +kernel : (parseMethodDescriptor yX10_both.desc).map (fun d => d.parameters.length) = some 3)⟩, Nat.le_of_ble_eq_true rfl⟩
noncomputable def f_X10_both (σ : Mem) (x0 : Int32) (x1 : Int32) (x2 : Int32) : Option (Int32 × Mem) :=
  (f_X10_areUsable σ x0 x1).bind (fun (b1 : Bool) => if b1 then gR 5 x0 (fun (p2 : Nat) => gR 5 x1 (fun (p3 : Nat) => if x2 = 0 then (bq (f_X0_doCommute σ p2 p3) (fun (b5 : Bool) (σ6 : Mem) => (f_X10_bit σ6 b5).bind (fun (v7 : Int32) => some (v7, σ6)))) else if x2 = 1 then ((f_X0_commutator σ 176 p2 p3).bind (fun (σ9 : Mem) => (f_X10_layerOf σ9 176).bind (fun (v10 : Int32) => some (v10, σ9)))) else if x2 = 2 then ((f_X10_firstDifference σ p2 p3).bind (fun (v12 : Int32) => some (v12, σ))) else (some ((-1), σ)))) else some ((-1), σ))
theorem t_X10_both {w : Wd} (hw : WOK w) {σ : Mem} {x0 : Int32} {x1 : Int32} {x2 : Int32} : JO w mu_X10_both vI σ [(0, .ref (adr w 0)), (1, .int x0), (2, .int x1), (3, .int x2)] [] 0 (f_X10_both σ x0 x1 x2) some := by
  unfold f_X10_both
  refine jo_aload_n (pc := 0) 0 rfl dX10_both_0 rfl ?_
  refine jo_iload_n (pc := 1) 1 rfl dX10_both_1 rfl ?_
  refine jo_iload_n (pc := 2) 2 rfl dX10_both_2 rfl ?_
  refine jo_cV_Z_p (pc := 3) (μ' := mu_X10_areUsable) (fx := f_X10_areUsable σ x0 x1) (As := [.int x0, .int x1]) (c_X10_areUsable hw) (ok_X10_areUsable) (ltb rfl) (all3 gw_810 gw_812 gw_13) (ik_0 hw) (by decide) (q := (RX10, TX10, 17)) rfl rfl rfl rfl (Nat.le_of_ble_eq_true rfl) dX10_both_3 (fun b1 => ?_)
  refine jo_ifz_ne (pc := 6) dX10_both_6 (tgt := 11) rfl ?_ ?_
  · refine jo_aload_n (pc := 11) 0 rfl dX10_both_11 rfl ?_
    refine jo_getrE (pc := 12) ok_10_0 (ik_0 hw) rf_0_0 gw_631 dX10_both_12 ?_
    refine jo_getrE (pc := 15) ok_8_1 (ik_1 hw) rf_1_1 gw_221 dX10_both_15 ?_
    refine jo_iload_n (pc := 18) 1 rfl dX10_both_18 rfl ?_
    refine jo_aaldG (pc := 19) (z := 13) hw (ik_5 hw) (by decide) (t := 4) rfl rfl (by decide) dX10_both_19 (fun p2 hp2 => ?_)
    refine jo_astore (pc := 20) (lv' := [(4, .ref (adr w p2)), (0, .ref (adr w 0)), (1, .int x0), (2, .int x1), (3, .int x2)]) dX10_both_20 (ltb rfl) rfl ?_
    refine jo_aload_n (pc := 22) 1 rfl dX10_both_22 rfl ?_
    refine jo_getrE (pc := 23) ok_10_0 (ik_0 hw) rf_0_0 gw_631 dX10_both_23 ?_
    refine jo_getrE (pc := 26) ok_8_1 (ik_1 hw) rf_1_1 gw_221 dX10_both_26 ?_
    refine jo_iload_n (pc := 29) 3 rfl dX10_both_29 rfl ?_
    refine jo_aaldG (pc := 30) (z := 13) hw (ik_5 hw) (by decide) (t := 4) rfl rfl (by decide) dX10_both_30 (fun p3 hp3 => ?_)
    refine jo_astore (pc := 31) (lv' := [(5, .ref (adr w p3)), (4, .ref (adr w p2)), (0, .ref (adr w 0)), (1, .int x0), (2, .int x1), (3, .int x2)]) dX10_both_31 (ltb rfl) rfl ?_
    refine jo_iload_n (pc := 33) 5 rfl dX10_both_33 rfl ?_
    refine jo_case (v := 0) (fun h4 => ?_) (fun h4 => ?_)
    · refine jo_tswHit (pc := 34) dX10_both_34 h4 (by decide) (by decide) (off := 26) (by rfl) (tgt := 60) rfl ?_
      refine jo_aload_n (pc := 60) 2 rfl dX10_both_60 rfl ?_
      refine jo_getrE (pc := 61) ok_10_10 (ik_0 hw) rf_0_10 gw_641 dX10_both_61 ?_
      refine jo_aload (pc := 64) 1 rfl dX10_both_64 ?_
      refine jo_aload (pc := 66) 0 rfl dX10_both_66 ?_
      refine jo_cV_Z_i (pc := 68) (μ' := mu_X0_doCommute) (fx := f_X0_doCommute σ p2 p3) (As := [.ref (adr w p2), .ref (adr w p3)]) (c_X0_doCommute hw (hp2) (hp3)) (ok_X0_doCommute) (ltb rfl) (all3 gw_1067 gw_1068 gw_1069) (ik_72 hw) (by decide) (q := (RX0, TX0, 8)) rfl rfl rfl rfl (Nat.le_of_ble_eq_true rfl) dX10_both_68 (fun b5 σ6 => ?_)
      refine jo_cS_I_p (pc := 71) (μ' := mu_X10_bit) (fx := f_X10_bit σ6 b5) (As := [.int (b2i b5)]) (c_X10_bit hw) (ok_X10_bit) (ltb rfl) (all2 gw_736 gw_737) rfl rfl (Nat.le_of_ble_eq_true rfl) dX10_both_71 (fun v7 => ?_)
      exact jo_ireturn (pc := 74) rfl rfl dX10_both_74
    refine jo_case (v := 1) (fun h8 => ?_) (fun h8 => ?_)
    · refine jo_tswHit (pc := 34) dX10_both_34 h8 (by decide) (by decide) (off := 41) (by rfl) (tgt := 75) rfl ?_
      refine jo_aload_n (pc := 75) 2 rfl dX10_both_75 rfl ?_
      refine jo_getrE (pc := 76) ok_10_10 (ik_0 hw) rf_0_10 gw_641 dX10_both_76 ?_
      refine jo_aload_n (pc := 79) 2 rfl dX10_both_79 rfl ?_
      refine jo_getrE (pc := 80) ok_10_15 (ik_0 hw) rf_0_15 gw_646 dX10_both_80 ?_
      refine jo_aload (pc := 83) 1 rfl dX10_both_83 ?_
      refine jo_aload (pc := 85) 0 rfl dX10_both_85 ?_
      refine jo_cV_V_i (pc := 87) (μ' := mu_X0_commutator) (fx := f_X0_commutator σ 176 p2 p3) (As := [.ref (adr w 176), .ref (adr w p2), .ref (adr w p3)]) (c_X0_commutator hw (ik_176 hw) (hp2) (hp3)) (ok_X0_commutator) (ltb rfl) (all3 gw_870 gw_871 gw_872) (ik_72 hw) (by decide) (q := (RX0, TX0, 8)) rfl rfl rfl rfl (Nat.le_of_ble_eq_true rfl) dX10_both_87 (fun σ9 => ?_)
      refine jo_aload_n (pc := 90) 2 rfl dX10_both_90 rfl ?_
      refine jo_aload_n (pc := 91) 2 rfl dX10_both_91 rfl ?_
      refine jo_getrE (pc := 92) ok_10_15 (ik_0 hw) rf_0_15 gw_646 dX10_both_92 ?_
      refine jo_cV_I_p (pc := 95) (μ' := mu_X10_layerOf) (fx := f_X10_layerOf σ9 176) (As := [.ref (adr w 176)]) (c_X10_layerOf hw (ik_176 hw)) (ok_X10_layerOf) (ltb rfl) (all3 gw_1057 gw_1059 gw_36) (ik_0 hw) (by decide) (q := (RX10, TX10, 17)) rfl rfl rfl rfl (Nat.le_of_ble_eq_true rfl) dX10_both_95 (fun v10 => ?_)
      exact jo_ireturn (pc := 98) rfl rfl dX10_both_98
    refine jo_case (v := 2) (fun h11 => ?_) (fun h11 => ?_)
    · refine jo_tswHit (pc := 34) dX10_both_34 h11 (by decide) (by decide) (off := 65) (by rfl) (tgt := 99) rfl ?_
      refine jo_aload_n (pc := 99) 2 rfl dX10_both_99 rfl ?_
      refine jo_aload (pc := 100) 1 rfl dX10_both_100 ?_
      refine jo_aload (pc := 102) 0 rfl dX10_both_102 ?_
      refine jo_cV_I_p (pc := 104) (μ' := mu_X10_firstDifference) (fx := f_X10_firstDifference σ p2 p3) (As := [.ref (adr w p2), .ref (adr w p3)]) (c_X10_firstDifference hw (hp2) (hp3)) (ok_X10_firstDifference) (ltb rfl) (all3 gw_1176 gw_1178 gw_53) (ik_0 hw) (by decide) (q := (RX10, TX10, 17)) rfl rfl rfl rfl (Nat.le_of_ble_eq_true rfl) dX10_both_104 (fun v12 => ?_)
      exact jo_ireturn (pc := 107) rfl rfl dX10_both_107
    have qh4 : (x2).toInt ≠ 0 := fun e => h4 (Int32.toInt_inj.mp (e.trans (by decide)))
    have qh8 : (x2).toInt ≠ 1 := fun e => h8 (Int32.toInt_inj.mp (e.trans (by decide)))
    have qh11 : (x2).toInt ≠ 2 := fun e => h11 (Int32.toInt_inj.mp (e.trans (by decide)))
    refine jo_tableOut (pc := 34) dX10_both_34 (by omega) (tgt := 108) rfl ?_
    refine jo_iconst (pc := 108) dX10_both_108 (ic_i_m1) ?_
    exact jo_ireturn (pc := 109) rfl rfl dX10_both_109
  · refine jo_iconst (pc := 9) dX10_both_9 (ic_i_m1) ?_
    exact jo_ireturn (pc := 10) rfl rfl dX10_both_10
theorem c_X10_both {w : Wd} (hw : WOK w) {σ : Mem} {x0 : Int32} {x1 : Int32} {x2 : Int32} : ∀ r σ', f_X10_both σ x0 x1 x2 = some (r, σ') → MC w mu_X10_both (vI r) [.ref (adr w 0), .int x0, .int x1, .int x2] σ σ' := mc_of ok_X10_both rfl (Nat.le_of_ble_eq_true rfl) (t_X10_both hw)
abbrev mu_X10_alike : MD := (yX10_alike, cX10_alike, 5, some .int, 7)
theorem ok_X10_alike : MOK mu_X10_alike 2 := ⟨gw_1183, gw_158, (by decide +kernel : plainFor yX10_alike = true), ⟨(by decide +kernel : yX10_alike.cls ≠ "java/lang/invoke/MethodHandle"), (by decide +kernel : yX10_alike.cls ≠ "java/lang/invoke/VarHandle"), (by decide +kernel : (parseMethodDescriptor yX10_alike.desc).map (fun d => d.parameters.length) = some 2)⟩, Nat.le_of_ble_eq_true rfl⟩
noncomputable def f_X10_alike (σ : Mem) (x0 : Int32) (x1 : Int32) : Option (Int32 × Mem) :=
  (f_X10_areUsable σ x0 x1).bind (fun (b1 : Bool) => if b1 then gR 5 x0 (fun (p2 : Nat) => gR 5 x1 (fun (p3 : Nat) => (f_X0_isWithin σ p2 30).bind (fun (b4 : Bool) => if b4 then (f_X0_isWithin σ p3 30).bind (fun (b5 : Bool) => if b5 then bq (f_X7_areConjugates σ p2 p3) (fun (b6 : Bool) (σ7 : Mem) => (f_X10_bit σ7 b6).bind (fun (v8 : Int32) => some (v8, σ7))) else some ((-2), σ)) else some ((-2), σ)))) else some ((-1), σ))
theorem t_X10_alike {w : Wd} (hw : WOK w) {σ : Mem} {x0 : Int32} {x1 : Int32} : JO w mu_X10_alike vI σ [(0, .ref (adr w 0)), (1, .int x0), (2, .int x1)] [] 0 (f_X10_alike σ x0 x1) some := by
  unfold f_X10_alike
  refine jo_aload_n (pc := 0) 0 rfl dX10_alike_0 rfl ?_
  refine jo_iload_n (pc := 1) 1 rfl dX10_alike_1 rfl ?_
  refine jo_iload_n (pc := 2) 2 rfl dX10_alike_2 rfl ?_
  refine jo_cV_Z_p (pc := 3) (μ' := mu_X10_areUsable) (fx := f_X10_areUsable σ x0 x1) (As := [.int x0, .int x1]) (c_X10_areUsable hw) (ok_X10_areUsable) (ltb rfl) (all3 gw_810 gw_812 gw_13) (ik_0 hw) (by decide) (q := (RX10, TX10, 17)) rfl rfl rfl rfl (Nat.le_of_ble_eq_true rfl) dX10_alike_3 (fun b1 => ?_)
  refine jo_ifz_ne (pc := 6) dX10_alike_6 (tgt := 11) rfl ?_ ?_
  · refine jo_aload_n (pc := 11) 0 rfl dX10_alike_11 rfl ?_
    refine jo_getrE (pc := 12) ok_10_0 (ik_0 hw) rf_0_0 gw_631 dX10_alike_12 ?_
    refine jo_getrE (pc := 15) ok_8_1 (ik_1 hw) rf_1_1 gw_221 dX10_alike_15 ?_
    refine jo_iload_n (pc := 18) 1 rfl dX10_alike_18 rfl ?_
    refine jo_aaldG (pc := 19) (z := 13) hw (ik_5 hw) (by decide) (t := 4) rfl rfl (by decide) dX10_alike_19 (fun p2 hp2 => ?_)
    refine jo_astore_n (pc := 20) (lv' := [(3, .ref (adr w p2)), (0, .ref (adr w 0)), (1, .int x0), (2, .int x1)]) dX10_alike_20 rfl (ltb rfl) rfl ?_
    refine jo_aload_n (pc := 21) 1 rfl dX10_alike_21 rfl ?_
    refine jo_getrE (pc := 22) ok_10_0 (ik_0 hw) rf_0_0 gw_631 dX10_alike_22 ?_
    refine jo_getrE (pc := 25) ok_8_1 (ik_1 hw) rf_1_1 gw_221 dX10_alike_25 ?_
    refine jo_iload_n (pc := 28) 3 rfl dX10_alike_28 rfl ?_
    refine jo_aaldG (pc := 29) (z := 13) hw (ik_5 hw) (by decide) (t := 4) rfl rfl (by decide) dX10_alike_29 (fun p3 hp3 => ?_)
    refine jo_astore (pc := 30) (lv' := [(4, .ref (adr w p3)), (3, .ref (adr w p2)), (0, .ref (adr w 0)), (1, .int x0), (2, .int x1)]) dX10_alike_30 (ltb rfl) rfl ?_
    refine jo_aload_n (pc := 32) 1 rfl dX10_alike_32 rfl ?_
    refine jo_ldc2 (pc := 33) dX10_alike_33 gw_1184 ?_
    refine jo_cS_Z_p (pc := 36) (μ' := mu_X0_isWithin) (fx := f_X0_isWithin σ p2 30) (As := [.ref (adr w p2), .long 30]) (c_X0_isWithin hw (hp2)) (ok_X0_isWithin) (ltb rfl) (all2 gw_825 gw_826) rfl rfl (Nat.le_of_ble_eq_true rfl) dX10_alike_36 (fun b4 => ?_)
    refine jo_ifz_eq (pc := 39) dX10_alike_39 (tgt := 53) rfl ?_ ?_
    · refine jo_bipush (pc := 53) dX10_alike_53 (ic_b_m2) ?_
      exact jo_ireturn (pc := 55) rfl rfl dX10_alike_55
    · refine jo_aload (pc := 42) 0 rfl dX10_alike_42 ?_
      refine jo_ldc2 (pc := 44) dX10_alike_44 gw_1184 ?_
      refine jo_cS_Z_p (pc := 47) (μ' := mu_X0_isWithin) (fx := f_X0_isWithin σ p3 30) (As := [.ref (adr w p3), .long 30]) (c_X0_isWithin hw (hp3)) (ok_X0_isWithin) (ltb rfl) (all2 gw_825 gw_826) rfl rfl (Nat.le_of_ble_eq_true rfl) dX10_alike_47 (fun b5 => ?_)
      refine jo_ifz_ne (pc := 50) dX10_alike_50 (tgt := 56) rfl ?_ ?_
      · refine jo_aload_n (pc := 56) 2 rfl dX10_alike_56 rfl ?_
        refine jo_getrE (pc := 57) ok_10_11 (ik_0 hw) rf_0_11 gw_642 dX10_alike_57 ?_
        refine jo_aload_n (pc := 60) 1 rfl dX10_alike_60 rfl ?_
        refine jo_aload (pc := 61) 0 rfl dX10_alike_61 ?_
        refine jo_cV_Z_i (pc := 63) (μ' := mu_X7_areConjugates) (fx := f_X7_areConjugates σ p2 p3) (As := [.ref (adr w p2), .ref (adr w p3)]) (c_X7_areConjugates hw (hp2) (hp3)) (ok_X7_areConjugates) (ltb rfl) (all3 gw_1185 gw_1186 gw_1187) (ik_80 hw) (by decide) (q := (RX7, TX7, 11)) rfl rfl rfl rfl (Nat.le_of_ble_eq_true rfl) dX10_alike_63 (fun b6 σ7 => ?_)
        refine jo_cS_I_p (pc := 66) (μ' := mu_X10_bit) (fx := f_X10_bit σ7 b6) (As := [.int (b2i b6)]) (c_X10_bit hw) (ok_X10_bit) (ltb rfl) (all2 gw_736 gw_737) rfl rfl (Nat.le_of_ble_eq_true rfl) dX10_alike_66 (fun v8 => ?_)
        exact jo_ireturn (pc := 69) rfl rfl dX10_alike_69
      · refine jo_bipush (pc := 53) dX10_alike_53 (ic_b_m2) ?_
        exact jo_ireturn (pc := 55) rfl rfl dX10_alike_55
  · refine jo_iconst (pc := 9) dX10_alike_9 (ic_i_m1) ?_
    exact jo_ireturn (pc := 10) rfl rfl dX10_alike_10
theorem c_X10_alike {w : Wd} (hw : WOK w) {σ : Mem} {x0 : Int32} {x1 : Int32} : ∀ r σ', f_X10_alike σ x0 x1 = some (r, σ') → MC w mu_X10_alike (vI r) [.ref (adr w 0), .int x0, .int x1] σ σ' := mc_of ok_X10_alike rfl (Nat.le_of_ble_eq_true rfl) (t_X10_alike hw)
abbrev mu_X10_powers : MD := (yX10_powers, cX10_powers, 4, some .long, 3)
theorem ok_X10_powers : MOK mu_X10_powers 3 := ⟨gw_1224, gw_158, (by decide +kernel : plainFor yX10_powers = true), ⟨(by decide +kernel : yX10_powers.cls ≠ "java/lang/invoke/MethodHandle"), (by decide +kernel : yX10_powers.cls ≠ "java/lang/invoke/VarHandle"), (by decide +kernel : (parseMethodDescriptor yX10_powers.desc).map (fun d => d.parameters.length) = some 3)⟩, Nat.le_of_ble_eq_true rfl⟩
noncomputable def f_X10_powers (σ : Mem) (x0 : Int32) (x1 : Int32) (x2 : Int32) : Option (Int64 × Mem) :=
  (f_X10_isRegister σ x0).bind (fun (b1 : Bool) => if b1 then (f_X10_isGenerator σ x1).bind (fun (b2 : Bool) => if b2 then if x2 < 0 then (some ((-100000000000000), σ)) else (if 3 < x2 then (some ((-100000000000000), σ)) else (gZ σ 40 3 (fun (b3 : Bool) => if b3 then gR 5 x0 (fun (p4 : Nat) => (f_X0_findPowers σ p4).bind (fun (σ5 : Mem) => (f_X0_powerNumber σ5 (x1 - 1) x2).bind (fun (v6 : Int64) => some (v6, σ5)))) else some ((-100000000000000), σ)))) else some ((-100000000000000), σ)) else some ((-100000000000000), σ))
theorem t_X10_powers {w : Wd} (hw : WOK w) {σ : Mem} {x0 : Int32} {x1 : Int32} {x2 : Int32} : JO w mu_X10_powers vL σ [(0, .ref (adr w 0)), (1, .int x0), (2, .int x1), (3, .int x2)] [] 0 (f_X10_powers σ x0 x1 x2) some := by
  unfold f_X10_powers
  refine jo_iload_n (pc := 0) 1 rfl dX10_powers_0 rfl ?_
  refine jo_cS_Z_p (pc := 1) (μ' := mu_X10_isRegister) (fx := f_X10_isRegister σ x0) (As := [.int x0]) (c_X10_isRegister hw) (ok_X10_isRegister) (ltb rfl) (all2 gw_803 gw_804) rfl rfl (Nat.le_of_ble_eq_true rfl) dX10_powers_1 (fun b1 => ?_)
  refine jo_ifz_eq (pc := 4) dX10_powers_4 (tgt := 34) rfl ?_ ?_
  · refine jo_ldc2 (pc := 34) dX10_powers_34 gw_1225 ?_
    exact jo_lreturn (pc := 37) rfl rfl dX10_powers_37
  · refine jo_aload_n (pc := 7) 0 rfl dX10_powers_7 rfl ?_
    refine jo_iload_n (pc := 8) 2 rfl dX10_powers_8 rfl ?_
    refine jo_cV_Z_p (pc := 9) (μ' := mu_X10_isGenerator) (fx := f_X10_isGenerator σ x1) (As := [.int x1]) (c_X10_isGenerator hw) (ok_X10_isGenerator) (ltb rfl) (all3 gw_743 gw_745 gw_11) (ik_0 hw) (by decide) (q := (RX10, TX10, 17)) rfl rfl rfl rfl (Nat.le_of_ble_eq_true rfl) dX10_powers_9 (fun b2 => ?_)
    refine jo_ifz_eq (pc := 12) dX10_powers_12 (tgt := 34) rfl ?_ ?_
    · refine jo_ldc2 (pc := 34) dX10_powers_34 gw_1225 ?_
      exact jo_lreturn (pc := 37) rfl rfl dX10_powers_37
    · refine jo_iload_n (pc := 15) 3 rfl dX10_powers_15 rfl ?_
      refine jo_if_lt (pc := 16) dX10_powers_16 (tgt := 34) rfl ?_ ?_
      · refine jo_ldc2 (pc := 34) dX10_powers_34 gw_1225 ?_
        exact jo_lreturn (pc := 37) rfl rfl dX10_powers_37
      · refine jo_iload_n (pc := 19) 3 rfl dX10_powers_19 rfl ?_
        refine jo_iconst (pc := 20) dX10_powers_20 (ic_i_3) ?_
        refine jo_icmp_gt (pc := 21) dX10_powers_21 (tgt := 34) rfl ?_ ?_
        · refine jo_ldc2 (pc := 34) dX10_powers_34 gw_1225 ?_
          exact jo_lreturn (pc := 37) rfl rfl dX10_powers_37
        · refine jo_aload_n (pc := 24) 0 rfl dX10_powers_24 rfl ?_
          refine jo_getrE (pc := 25) ok_10_9 (ik_0 hw) rf_0_9 gw_640 dX10_powers_25 ?_
          refine jo_getz (pc := 28) ok_4_3 (ik_40 hw) gw_308 dX10_powers_28 (fun b3 => ?_)
          refine jo_ifz_ne (pc := 31) dX10_powers_31 (tgt := 38) rfl ?_ ?_
          · refine jo_aload_n (pc := 38) 0 rfl dX10_powers_38 rfl ?_
            refine jo_getrE (pc := 39) ok_10_10 (ik_0 hw) rf_0_10 gw_641 dX10_powers_39 ?_
            refine jo_aload_n (pc := 42) 0 rfl dX10_powers_42 rfl ?_
            refine jo_getrE (pc := 43) ok_10_0 (ik_0 hw) rf_0_0 gw_631 dX10_powers_43 ?_
            refine jo_getrE (pc := 46) ok_8_1 (ik_1 hw) rf_1_1 gw_221 dX10_powers_46 ?_
            refine jo_iload_n (pc := 49) 1 rfl dX10_powers_49 rfl ?_
            refine jo_aaldG (pc := 50) (z := 13) hw (ik_5 hw) (by decide) (t := 4) rfl rfl (by decide) dX10_powers_50 (fun p4 hp4 => ?_)
            refine jo_cV_V_i (pc := 51) (μ' := mu_X0_findPowers) (fx := f_X0_findPowers σ p4) (As := [.ref (adr w p4)]) (c_X0_findPowers hw (hp4)) (ok_X0_findPowers) (ltb rfl) (all3 gw_1226 gw_850 gw_851) (ik_72 hw) (by decide) (q := (RX0, TX0, 8)) rfl rfl rfl rfl (Nat.le_of_ble_eq_true rfl) dX10_powers_51 (fun σ5 => ?_)
            refine jo_aload_n (pc := 54) 0 rfl dX10_powers_54 rfl ?_
            refine jo_getrE (pc := 55) ok_10_10 (ik_0 hw) rf_0_10 gw_641 dX10_powers_55 ?_
            refine jo_iload_n (pc := 58) 2 rfl dX10_powers_58 rfl ?_
            refine jo_iconst (pc := 59) dX10_powers_59 (ic_i_1) ?_
            refine jo_isub (pc := 60) dX10_powers_60 ?_
            refine jo_iload_n (pc := 61) 3 rfl dX10_powers_61 rfl ?_
            refine jo_cV_J_p (pc := 62) (μ' := mu_X0_powerNumber) (fx := f_X0_powerNumber σ5 (x1 - 1) x2) (As := [.int (x1 - 1), .int x2]) (c_X0_powerNumber hw) (ok_X0_powerNumber) (ltb rfl) (all3 gw_1227 gw_860 gw_861) (ik_72 hw) (by decide) (q := (RX0, TX0, 8)) rfl rfl rfl rfl (Nat.le_of_ble_eq_true rfl) dX10_powers_62 (fun v6 => ?_)
            exact jo_lreturn (pc := 65) rfl rfl dX10_powers_65
          · refine jo_ldc2 (pc := 34) dX10_powers_34 gw_1225 ?_
            exact jo_lreturn (pc := 37) rfl rfl dX10_powers_37
theorem c_X10_powers {w : Wd} (hw : WOK w) {σ : Mem} {x0 : Int32} {x1 : Int32} {x2 : Int32} : ∀ r σ', f_X10_powers σ x0 x1 x2 = some (r, σ') → MC w mu_X10_powers (vL r) [.ref (adr w 0), .int x0, .int x1, .int x2] σ σ' := mc_of ok_X10_powers rfl (Nat.le_of_ble_eq_true rfl) (t_X10_powers hw)
end
section
abbrev mu_X10_associates : MD := (yX10_associates, cX10_associates, 4, some .int, 2)
theorem ok_X10_associates : MOK mu_X10_associates 3 := ⟨gw_1231, gw_158, (by decide +kernel : plainFor yX10_associates = true), ⟨(by decide +kernel : yX10_associates.cls ≠ "java/lang/invoke/MethodHandle"), (by decide +kernel : yX10_associates.cls ≠ "java/lang/invoke/VarHandle"), (by decide +kernel : (parseMethodDescriptor yX10_associates.desc).map (fun d => d.parameters.length) = some 3)⟩, Nat.le_of_ble_eq_true rfl⟩
noncomputable def f_X10_associates (σ : Mem) (x0 : Int32) (x1 : Int32) (x2 : Int32) : Option (Int32 × Mem) :=
  (f_X10_areUsable σ x0 x1).bind (fun (b1 : Bool) => if b1 then (f_X10_isRegister σ x2).bind (fun (b2 : Bool) => if b2 then gR 5 x0 (fun (p3 : Nat) => gR 5 x1 (fun (p4 : Nat) => (f_X0_product σ 176 p3 p4).bind (fun (σ5 : Mem) => gR 5 x2 (fun (p6 : Nat) => (f_X0_product σ5 176 176 p6).bind (fun (σ7 : Mem) => gR 5 x1 (fun (p8 : Nat) => gR 5 x2 (fun (p9 : Nat) => (f_X0_product σ7 177 p8 p9).bind (fun (σ10 : Mem) => gR 5 x0 (fun (p11 : Nat) => (f_X0_product σ10 177 p11 177).bind (fun (σ12 : Mem) => (f_X0_areSame σ12 176 177).bind (fun (b13 : Bool) => (f_X10_bit σ12 b13).bind (fun (v14 : Int32) => some (v14, σ12))))))))))))) else some ((-1), σ)) else some ((-1), σ))
theorem t_X10_associates {w : Wd} (hw : WOK w) {σ : Mem} {x0 : Int32} {x1 : Int32} {x2 : Int32} : JO w mu_X10_associates vI σ [(0, .ref (adr w 0)), (1, .int x0), (2, .int x1), (3, .int x2)] [] 0 (f_X10_associates σ x0 x1 x2) some := by
  unfold f_X10_associates
  refine jo_aload_n (pc := 0) 0 rfl dX10_associates_0 rfl ?_
  refine jo_iload_n (pc := 1) 1 rfl dX10_associates_1 rfl ?_
  refine jo_iload_n (pc := 2) 2 rfl dX10_associates_2 rfl ?_
  refine jo_cV_Z_p (pc := 3) (μ' := mu_X10_areUsable) (fx := f_X10_areUsable σ x0 x1) (As := [.int x0, .int x1]) (c_X10_areUsable hw) (ok_X10_areUsable) (ltb rfl) (all3 gw_810 gw_812 gw_13) (ik_0 hw) (by decide) (q := (RX10, TX10, 17)) rfl rfl rfl rfl (Nat.le_of_ble_eq_true rfl) dX10_associates_3 (fun b1 => ?_)
  refine jo_ifz_eq (pc := 6) dX10_associates_6 (tgt := 16) rfl ?_ ?_
  · refine jo_iconst (pc := 16) dX10_associates_16 (ic_i_m1) ?_
    exact jo_ireturn (pc := 17) rfl rfl dX10_associates_17
  · refine jo_iload_n (pc := 9) 3 rfl dX10_associates_9 rfl ?_
    refine jo_cS_Z_p (pc := 10) (μ' := mu_X10_isRegister) (fx := f_X10_isRegister σ x2) (As := [.int x2]) (c_X10_isRegister hw) (ok_X10_isRegister) (ltb rfl) (all2 gw_803 gw_804) rfl rfl (Nat.le_of_ble_eq_true rfl) dX10_associates_10 (fun b2 => ?_)
    refine jo_ifz_ne (pc := 13) dX10_associates_13 (tgt := 18) rfl ?_ ?_
    · refine jo_aload_n (pc := 18) 0 rfl dX10_associates_18 rfl ?_
      refine jo_getrE (pc := 19) ok_10_10 (ik_0 hw) rf_0_10 gw_641 dX10_associates_19 ?_
      refine jo_aload_n (pc := 22) 0 rfl dX10_associates_22 rfl ?_
      refine jo_getrE (pc := 23) ok_10_15 (ik_0 hw) rf_0_15 gw_646 dX10_associates_23 ?_
      refine jo_aload_n (pc := 26) 0 rfl dX10_associates_26 rfl ?_
      refine jo_getrE (pc := 27) ok_10_0 (ik_0 hw) rf_0_0 gw_631 dX10_associates_27 ?_
      refine jo_getrE (pc := 30) ok_8_1 (ik_1 hw) rf_1_1 gw_221 dX10_associates_30 ?_
      refine jo_iload_n (pc := 33) 1 rfl dX10_associates_33 rfl ?_
      refine jo_aaldG (pc := 34) (z := 13) hw (ik_5 hw) (by decide) (t := 4) rfl rfl (by decide) dX10_associates_34 (fun p3 hp3 => ?_)
      refine jo_aload_n (pc := 35) 0 rfl dX10_associates_35 rfl ?_
      refine jo_getrE (pc := 36) ok_10_0 (ik_0 hw) rf_0_0 gw_631 dX10_associates_36 ?_
      refine jo_getrE (pc := 39) ok_8_1 (ik_1 hw) rf_1_1 gw_221 dX10_associates_39 ?_
      refine jo_iload_n (pc := 42) 2 rfl dX10_associates_42 rfl ?_
      refine jo_aaldG (pc := 43) (z := 13) hw (ik_5 hw) (by decide) (t := 4) rfl rfl (by decide) dX10_associates_43 (fun p4 hp4 => ?_)
      refine jo_cV_V_i (pc := 44) (μ' := mu_X0_product) (fx := f_X0_product σ 176 p3 p4) (As := [.ref (adr w 176), .ref (adr w p3), .ref (adr w p4)]) (c_X0_product hw (ik_176 hw) (hp3) (hp4)) (ok_X0_product) (ltb rfl) (all3 gw_814 gw_815 gw_816) (ik_72 hw) (by decide) (q := (RX0, TX0, 8)) rfl rfl rfl rfl (Nat.le_of_ble_eq_true rfl) dX10_associates_44 (fun σ5 => ?_)
      refine jo_aload_n (pc := 47) 0 rfl dX10_associates_47 rfl ?_
      refine jo_getrE (pc := 48) ok_10_10 (ik_0 hw) rf_0_10 gw_641 dX10_associates_48 ?_
      refine jo_aload_n (pc := 51) 0 rfl dX10_associates_51 rfl ?_
      refine jo_getrE (pc := 52) ok_10_15 (ik_0 hw) rf_0_15 gw_646 dX10_associates_52 ?_
      refine jo_aload_n (pc := 55) 0 rfl dX10_associates_55 rfl ?_
      refine jo_getrE (pc := 56) ok_10_15 (ik_0 hw) rf_0_15 gw_646 dX10_associates_56 ?_
      refine jo_aload_n (pc := 59) 0 rfl dX10_associates_59 rfl ?_
      refine jo_getrE (pc := 60) ok_10_0 (ik_0 hw) rf_0_0 gw_631 dX10_associates_60 ?_
      refine jo_getrE (pc := 63) ok_8_1 (ik_1 hw) rf_1_1 gw_221 dX10_associates_63 ?_
      refine jo_iload_n (pc := 66) 3 rfl dX10_associates_66 rfl ?_
      refine jo_aaldG (pc := 67) (z := 13) hw (ik_5 hw) (by decide) (t := 4) rfl rfl (by decide) dX10_associates_67 (fun p6 hp6 => ?_)
      refine jo_cV_V_i (pc := 68) (μ' := mu_X0_product) (fx := f_X0_product σ5 176 176 p6) (As := [.ref (adr w 176), .ref (adr w 176), .ref (adr w p6)]) (c_X0_product hw (ik_176 hw) (ik_176 hw) (hp6)) (ok_X0_product) (ltb rfl) (all3 gw_814 gw_815 gw_816) (ik_72 hw) (by decide) (q := (RX0, TX0, 8)) rfl rfl rfl rfl (Nat.le_of_ble_eq_true rfl) dX10_associates_68 (fun σ7 => ?_)
      refine jo_aload_n (pc := 71) 0 rfl dX10_associates_71 rfl ?_
      refine jo_getrE (pc := 72) ok_10_10 (ik_0 hw) rf_0_10 gw_641 dX10_associates_72 ?_
      refine jo_aload_n (pc := 75) 0 rfl dX10_associates_75 rfl ?_
      refine jo_getrE (pc := 76) ok_10_16 (ik_0 hw) rf_0_16 gw_647 dX10_associates_76 ?_
      refine jo_aload_n (pc := 79) 0 rfl dX10_associates_79 rfl ?_
      refine jo_getrE (pc := 80) ok_10_0 (ik_0 hw) rf_0_0 gw_631 dX10_associates_80 ?_
      refine jo_getrE (pc := 83) ok_8_1 (ik_1 hw) rf_1_1 gw_221 dX10_associates_83 ?_
      refine jo_iload_n (pc := 86) 2 rfl dX10_associates_86 rfl ?_
      refine jo_aaldG (pc := 87) (z := 13) hw (ik_5 hw) (by decide) (t := 4) rfl rfl (by decide) dX10_associates_87 (fun p8 hp8 => ?_)
      refine jo_aload_n (pc := 88) 0 rfl dX10_associates_88 rfl ?_
      refine jo_getrE (pc := 89) ok_10_0 (ik_0 hw) rf_0_0 gw_631 dX10_associates_89 ?_
      refine jo_getrE (pc := 92) ok_8_1 (ik_1 hw) rf_1_1 gw_221 dX10_associates_92 ?_
      refine jo_iload_n (pc := 95) 3 rfl dX10_associates_95 rfl ?_
      refine jo_aaldG (pc := 96) (z := 13) hw (ik_5 hw) (by decide) (t := 4) rfl rfl (by decide) dX10_associates_96 (fun p9 hp9 => ?_)
      refine jo_cV_V_i (pc := 97) (μ' := mu_X0_product) (fx := f_X0_product σ7 177 p8 p9) (As := [.ref (adr w 177), .ref (adr w p8), .ref (adr w p9)]) (c_X0_product hw (ik_177 hw) (hp8) (hp9)) (ok_X0_product) (ltb rfl) (all3 gw_814 gw_815 gw_816) (ik_72 hw) (by decide) (q := (RX0, TX0, 8)) rfl rfl rfl rfl (Nat.le_of_ble_eq_true rfl) dX10_associates_97 (fun σ10 => ?_)
      refine jo_aload_n (pc := 100) 0 rfl dX10_associates_100 rfl ?_
      refine jo_getrE (pc := 101) ok_10_10 (ik_0 hw) rf_0_10 gw_641 dX10_associates_101 ?_
      refine jo_aload_n (pc := 104) 0 rfl dX10_associates_104 rfl ?_
      refine jo_getrE (pc := 105) ok_10_16 (ik_0 hw) rf_0_16 gw_647 dX10_associates_105 ?_
      refine jo_aload_n (pc := 108) 0 rfl dX10_associates_108 rfl ?_
      refine jo_getrE (pc := 109) ok_10_0 (ik_0 hw) rf_0_0 gw_631 dX10_associates_109 ?_
      refine jo_getrE (pc := 112) ok_8_1 (ik_1 hw) rf_1_1 gw_221 dX10_associates_112 ?_
      refine jo_iload_n (pc := 115) 1 rfl dX10_associates_115 rfl ?_
      refine jo_aaldG (pc := 116) (z := 13) hw (ik_5 hw) (by decide) (t := 4) rfl rfl (by decide) dX10_associates_116 (fun p11 hp11 => ?_)
      refine jo_aload_n (pc := 117) 0 rfl dX10_associates_117 rfl ?_
      refine jo_getrE (pc := 118) ok_10_16 (ik_0 hw) rf_0_16 gw_647 dX10_associates_118 ?_
      refine jo_cV_V_i (pc := 121) (μ' := mu_X0_product) (fx := f_X0_product σ10 177 p11 177) (As := [.ref (adr w 177), .ref (adr w p11), .ref (adr w 177)]) (c_X0_product hw (ik_177 hw) (hp11) (ik_177 hw)) (ok_X0_product) (ltb rfl) (all3 gw_814 gw_815 gw_816) (ik_72 hw) (by decide) (q := (RX0, TX0, 8)) rfl rfl rfl rfl (Nat.le_of_ble_eq_true rfl) dX10_associates_121 (fun σ12 => ?_)
      refine jo_aload_n (pc := 124) 0 rfl dX10_associates_124 rfl ?_
      refine jo_getrE (pc := 125) ok_10_15 (ik_0 hw) rf_0_15 gw_646 dX10_associates_125 ?_
      refine jo_aload_n (pc := 128) 0 rfl dX10_associates_128 rfl ?_
      refine jo_getrE (pc := 129) ok_10_16 (ik_0 hw) rf_0_16 gw_647 dX10_associates_129 ?_
      refine jo_cS_Z_p (pc := 132) (μ' := mu_X0_areSame) (fx := f_X0_areSame σ12 176 177) (As := [.ref (adr w 176), .ref (adr w 177)]) (c_X0_areSame hw (ik_176 hw) (ik_177 hw)) (ok_X0_areSame) (ltb rfl) (all2 gw_1120 gw_1072) rfl rfl (Nat.le_of_ble_eq_true rfl) dX10_associates_132 (fun b13 => ?_)
      refine jo_cS_I_p (pc := 135) (μ' := mu_X10_bit) (fx := f_X10_bit σ12 b13) (As := [.int (b2i b13)]) (c_X10_bit hw) (ok_X10_bit) (ltb rfl) (all2 gw_736 gw_737) rfl rfl (Nat.le_of_ble_eq_true rfl) dX10_associates_135 (fun v14 => ?_)
      exact jo_ireturn (pc := 138) rfl rfl dX10_associates_138
    · refine jo_iconst (pc := 16) dX10_associates_16 (ic_i_m1) ?_
      exact jo_ireturn (pc := 17) rfl rfl dX10_associates_17
theorem c_X10_associates {w : Wd} (hw : WOK w) {σ : Mem} {x0 : Int32} {x1 : Int32} {x2 : Int32} : ∀ r σ', f_X10_associates σ x0 x1 x2 = some (r, σ') → MC w mu_X10_associates (vI r) [.ref (adr w 0), .int x0, .int x1, .int x2] σ σ' := mc_of ok_X10_associates rfl (Nat.le_of_ble_eq_true rfl) (t_X10_associates hw)
abbrev mu_X10_ball : MD := (yX10_ball, cX10_ball, 2, some .int, 7)
theorem ok_X10_ball : MOK mu_X10_ball 1 := ⟨gw_1235, gw_158, (by decide +kernel : plainFor yX10_ball = true), ⟨(by decide +kernel : yX10_ball.cls ≠ "java/lang/invoke/MethodHandle"), (by decide +kernel : yX10_ball.cls ≠ "java/lang/invoke/VarHandle"), (by decide +kernel : (parseMethodDescriptor yX10_ball.desc).map (fun d => d.parameters.length) = some 1)⟩, Nat.le_of_ble_eq_true rfl⟩
noncomputable def f_X10_ball (σ : Mem) (x0 : Int32) : Option (Int32 × Mem) :=
  if x0 < 0 then (some ((-1), σ)) else (if 4 < x0 then (some ((-1), σ)) else (gZ σ 40 3 (fun (b1 : Bool) => if b1 then bq (f_X1_sizeOf σ x0) (fun (v2 : Int32) (σ3 : Mem) => some (v2, σ3)) else some ((-1), σ))))
theorem t_X10_ball {w : Wd} (hw : WOK w) {σ : Mem} {x0 : Int32} : JO w mu_X10_ball vI σ [(0, .ref (adr w 0)), (1, .int x0)] [] 0 (f_X10_ball σ x0) some := by
  unfold f_X10_ball
  refine jo_iload_n (pc := 0) 1 rfl dX10_ball_0 rfl ?_
  refine jo_if_lt (pc := 1) dX10_ball_1 (tgt := 19) rfl ?_ ?_
  · refine jo_iconst (pc := 19) dX10_ball_19 (ic_i_m1) ?_
    exact jo_ireturn (pc := 20) rfl rfl dX10_ball_20
  · refine jo_iload_n (pc := 4) 1 rfl dX10_ball_4 rfl ?_
    refine jo_iconst (pc := 5) dX10_ball_5 (ic_i_4) ?_
    refine jo_icmp_gt (pc := 6) dX10_ball_6 (tgt := 19) rfl ?_ ?_
    · refine jo_iconst (pc := 19) dX10_ball_19 (ic_i_m1) ?_
      exact jo_ireturn (pc := 20) rfl rfl dX10_ball_20
    · refine jo_aload_n (pc := 9) 0 rfl dX10_ball_9 rfl ?_
      refine jo_getrE (pc := 10) ok_10_9 (ik_0 hw) rf_0_9 gw_640 dX10_ball_10 ?_
      refine jo_getz (pc := 13) ok_4_3 (ik_40 hw) gw_308 dX10_ball_13 (fun b1 => ?_)
      refine jo_ifz_ne (pc := 16) dX10_ball_16 (tgt := 21) rfl ?_ ?_
      · refine jo_aload_n (pc := 21) 0 rfl dX10_ball_21 rfl ?_
        refine jo_getrE (pc := 22) ok_10_12 (ik_0 hw) rf_0_12 gw_643 dX10_ball_22 ?_
        refine jo_iload_n (pc := 25) 1 rfl dX10_ball_25 rfl ?_
        refine jo_cV_I_i (pc := 26) (μ' := mu_X1_sizeOf) (fx := f_X1_sizeOf σ x0) (As := [.int x0]) (c_X1_sizeOf hw) (ok_X1_sizeOf) (ltb rfl) (all3 gw_1236 gw_1237 gw_1238) (ik_128 hw) (by decide) (q := (RX1, TX1, 10)) rfl rfl rfl rfl (Nat.le_of_ble_eq_true rfl) dX10_ball_26 (fun v2 σ3 => ?_)
        exact jo_ireturn (pc := 29) rfl rfl dX10_ball_29
      · refine jo_iconst (pc := 19) dX10_ball_19 (ic_i_m1) ?_
        exact jo_ireturn (pc := 20) rfl rfl dX10_ball_20
theorem c_X10_ball {w : Wd} (hw : WOK w) {σ : Mem} {x0 : Int32} : ∀ r σ', f_X10_ball σ x0 = some (r, σ') → MC w mu_X10_ball (vI r) [.ref (adr w 0), .int x0] σ σ' := mc_of ok_X10_ball rfl (Nat.le_of_ble_eq_true rfl) (t_X10_ball hw)
abbrev mu_X10_undo : MD := (yX10_undo, cX10_undo, 1, some .int, 7)
theorem ok_X10_undo : MOK mu_X10_undo 0 := ⟨gw_1243, gw_158, (by decide +kernel : plainFor yX10_undo = true), ⟨(by decide +kernel : yX10_undo.cls ≠ "java/lang/invoke/MethodHandle"), (by decide +kernel : yX10_undo.cls ≠ "java/lang/invoke/VarHandle"), (by decide +kernel : (parseMethodDescriptor yX10_undo.desc).map (fun d => d.parameters.length) = some 0)⟩, Nat.le_of_ble_eq_true rfl⟩
noncomputable def f_X10_undo (σ : Mem) : Option (Int32 × Mem) :=
  gF σ 0 4 (fun (v1 : Int32) => if v1 = 0 then (some ((-1), σ)) else (gF σ 0 4 (fun (v2 : Int32) => pF σ 0 4 (v2 - 1) (fun (σ3 : Mem) => gF σ3 0 5 (fun (v4 : Int32) => nzI 8 (pF σ3 0 5 (((v4 + 8) - 1) - ((v4 + 8) - 1) / 8 * 8) (fun (σ5 : Mem) => gF σ5 0 5 (fun (v6 : Int32) => gR 33 v6 (fun (p7 : Nat) => (f_X8_takeActed σ5 1 p7).bind (fun (σ8 : Mem) => (f_X4_follow σ8 2).bind (fun (σ9 : Mem) => gF σ9 0 4 (fun (v10 : Int32) => some (v10, σ9)))))))))))))
theorem t_X10_undo {w : Wd} (hw : WOK w) {σ : Mem} : JO w mu_X10_undo vI σ [(0, .ref (adr w 0))] [] 0 (f_X10_undo σ) some := by
  unfold f_X10_undo
  refine jo_aload_n (pc := 0) 0 rfl dX10_undo_0 rfl ?_
  refine jo_getf (pc := 1) ok_10_4 (ik_0 hw) gw_635 dX10_undo_1 (fun v1 => ?_)
  refine jo_if_ne (pc := 4) dX10_undo_4 (tgt := 9) rfl ?_ ?_
  · refine jo_aload_n (pc := 9) 0 rfl dX10_undo_9 rfl ?_
    refine jo_dup (pc := 10) dX10_undo_10 rfl ?_
    refine jo_getf (pc := 11) ok_10_4 (ik_0 hw) gw_635 dX10_undo_11 (fun v2 => ?_)
    refine jo_iconst (pc := 14) dX10_undo_14 (ic_i_1) ?_
    refine jo_isub (pc := 15) dX10_undo_15 ?_
    refine jo_putf (pc := 16) ok_10_4 okp_10_4 (ik_0 hw) gw_635 dX10_undo_16 (fun σ3 => ?_)
    refine jo_aload_n (pc := 19) 0 rfl dX10_undo_19 rfl ?_
    refine jo_aload_n (pc := 20) 0 rfl dX10_undo_20 rfl ?_
    refine jo_getf (pc := 21) ok_10_5 (ik_0 hw) gw_636 dX10_undo_21 (fun v4 => ?_)
    refine jo_bipush (pc := 24) dX10_undo_24 (ic_b_8) ?_
    refine jo_iadd (pc := 26) dX10_undo_26 ?_
    refine jo_iconst (pc := 27) dX10_undo_27 (ic_i_1) ?_
    refine jo_isub (pc := 28) dX10_undo_28 ?_
    refine jo_bipush (pc := 29) dX10_undo_29 (ic_b_8) ?_
    refine jo_irem (pc := 31) dX10_undo_31 ?_
    refine jo_putf (pc := 32) ok_10_5 okp_10_5 (ik_0 hw) gw_636 dX10_undo_32 (fun σ5 => ?_)
    refine jo_aload_n (pc := 35) 0 rfl dX10_undo_35 rfl ?_
    refine jo_getrE (pc := 36) ok_10_0 (ik_0 hw) rf_0_0 gw_631 dX10_undo_36 ?_
    refine jo_aload_n (pc := 39) 0 rfl dX10_undo_39 rfl ?_
    refine jo_getrE (pc := 40) ok_10_3 (ik_0 hw) rf_0_3 gw_634 dX10_undo_40 ?_
    refine jo_aload_n (pc := 43) 0 rfl dX10_undo_43 rfl ?_
    refine jo_getf (pc := 44) ok_10_5 (ik_0 hw) gw_636 dX10_undo_44 (fun v6 => ?_)
    refine jo_aaldG (pc := 47) (z := 8) hw (ik_33 hw) (by decide) (t := 2) rfl rfl (by decide) dX10_undo_47 (fun p7 hp7 => ?_)
    refine jo_cV_V_i (pc := 48) (μ' := mu_X8_takeActed) (fx := f_X8_takeActed σ5 1 p7) (As := [.ref (adr w p7)]) (c_X8_takeActed hw (ik_1 hw) (hp7)) (ok_X8_takeActed) (ltb rfl) (all3 gw_698 gw_699 gw_700) (ik_1 hw) (by decide) (q := (RX8, TX8, 3)) rfl rfl rfl rfl (Nat.le_of_ble_eq_true rfl) dX10_undo_48 (fun σ8 => ?_)
    refine jo_aload_n (pc := 51) 0 rfl dX10_undo_51 rfl ?_
    refine jo_getrE (pc := 52) ok_10_9 (ik_0 hw) rf_0_9 gw_640 dX10_undo_52 ?_
    refine jo_aload_n (pc := 55) 0 rfl dX10_undo_55 rfl ?_
    refine jo_getrE (pc := 56) ok_10_0 (ik_0 hw) rf_0_0 gw_631 dX10_undo_56 ?_
    refine jo_getrE (pc := 59) ok_8_0 (ik_1 hw) rf_1_0 gw_218 dX10_undo_59 ?_
    refine jo_cV_V_i (pc := 62) (μ' := mu_X4_follow) (fx := f_X4_follow σ8 2) (As := [.ref (adr w 2)]) (c_X4_follow hw (ik_2 hw)) (ok_X4_follow) (ltb rfl) (all3 gw_533 gw_534 gw_535) (ik_40 hw) (by decide) (q := (RX4, TX4, 9)) rfl rfl rfl rfl (Nat.le_of_ble_eq_true rfl) dX10_undo_62 (fun σ9 => ?_)
    refine jo_aload_n (pc := 65) 0 rfl dX10_undo_65 rfl ?_
    refine jo_getf (pc := 66) ok_10_4 (ik_0 hw) gw_635 dX10_undo_66 (fun v10 => ?_)
    exact jo_ireturn (pc := 69) rfl rfl dX10_undo_69
  · refine jo_iconst (pc := 7) dX10_undo_7 (ic_i_m1) ?_
    exact jo_ireturn (pc := 8) rfl rfl dX10_undo_8
theorem c_X10_undo {w : Wd} (hw : WOK w) {σ : Mem} : ∀ r σ', f_X10_undo σ = some (r, σ') → MC w mu_X10_undo (vI r) [.ref (adr w 0)] σ σ' := mc_of ok_X10_undo rfl (Nat.le_of_ble_eq_true rfl) (t_X10_undo hw)
abbrev mu_X10_image : MD := (yX10_image, cX10_image, 2, some .boolean, 7)
theorem ok_X10_image : MOK mu_X10_image 1 := ⟨gw_1247, gw_158, (by decide +kernel : plainFor yX10_image = true), ⟨(by decide +kernel : yX10_image.cls ≠ "java/lang/invoke/MethodHandle"), (by decide +kernel : yX10_image.cls ≠ "java/lang/invoke/VarHandle"), (by decide +kernel : (parseMethodDescriptor yX10_image.desc).map (fun d => d.parameters.length) = some 1)⟩, Nat.le_of_ble_eq_true rfl⟩
noncomputable def f_X10_image (σ : Mem) (x0 : Bool) : Option (Bool × Mem) :=
  if x0 then (f_X8_takeAll σ 17 1).bind (fun (σ5 : Mem) => pF σ5 0 2 1 (fun (σ6 : Mem) => some (true, σ6))) else gZ σ 0 2 (fun (b1 : Bool) => if b1 then (f_X8_takeAll σ 1 17).bind (fun (σ2 : Mem) => pF σ2 0 4 0 (fun (σ3 : Mem) => (f_X4_follow σ3 2).bind (fun (σ4 : Mem) => some (true, σ4)))) else some (false, σ))
theorem t_X10_image {w : Wd} (hw : WOK w) {σ : Mem} {x0 : Bool} : JO w mu_X10_image vB σ [(0, .ref (adr w 0)), (1, .int (b2i x0))] [] 0 (f_X10_image σ x0) some := by
  unfold f_X10_image
  refine jo_iload_n (pc := 0) 1 rfl dX10_image_0 rfl ?_
  refine jo_ifz_eq (pc := 1) dX10_image_1 (tgt := 22) rfl ?_ ?_
  · refine jo_aload_n (pc := 22) 0 rfl dX10_image_22 rfl ?_
    refine jo_getz (pc := 23) ok_10_2 (ik_0 hw) gw_633 dX10_image_23 (fun b1 => ?_)
    refine jo_ifz_ne (pc := 26) dX10_image_26 (tgt := 31) rfl ?_ ?_
    · refine jo_aload_n (pc := 31) 0 rfl dX10_image_31 rfl ?_
      refine jo_getrE (pc := 32) ok_10_0 (ik_0 hw) rf_0_0 gw_631 dX10_image_32 ?_
      refine jo_aload_n (pc := 35) 0 rfl dX10_image_35 rfl ?_
      refine jo_getrE (pc := 36) ok_10_1 (ik_0 hw) rf_0_1 gw_632 dX10_image_36 ?_
      refine jo_cV_V_i (pc := 39) (μ' := mu_X8_takeAll) (fx := f_X8_takeAll σ 1 17) (As := [.ref (adr w 17)]) (c_X8_takeAll hw (ik_1 hw) (ik_17 hw)) (ok_X8_takeAll) (ltb rfl) (all3 gw_1248 gw_1249 gw_1250) (ik_1 hw) (by decide) (q := (RX8, TX8, 3)) rfl rfl rfl rfl (Nat.le_of_ble_eq_true rfl) dX10_image_39 (fun σ2 => ?_)
      refine jo_aload_n (pc := 42) 0 rfl dX10_image_42 rfl ?_
      refine jo_iconst (pc := 43) dX10_image_43 (ic_i_0) ?_
      refine jo_putf (pc := 44) ok_10_4 okp_10_4 (ik_0 hw) gw_635 dX10_image_44 (fun σ3 => ?_)
      refine jo_aload_n (pc := 47) 0 rfl dX10_image_47 rfl ?_
      refine jo_getrE (pc := 48) ok_10_9 (ik_0 hw) rf_0_9 gw_640 dX10_image_48 ?_
      refine jo_aload_n (pc := 51) 0 rfl dX10_image_51 rfl ?_
      refine jo_getrE (pc := 52) ok_10_0 (ik_0 hw) rf_0_0 gw_631 dX10_image_52 ?_
      refine jo_getrE (pc := 55) ok_8_0 (ik_1 hw) rf_1_0 gw_218 dX10_image_55 ?_
      refine jo_cV_V_i (pc := 58) (μ' := mu_X4_follow) (fx := f_X4_follow σ3 2) (As := [.ref (adr w 2)]) (c_X4_follow hw (ik_2 hw)) (ok_X4_follow) (ltb rfl) (all3 gw_533 gw_534 gw_535) (ik_40 hw) (by decide) (q := (RX4, TX4, 9)) rfl rfl rfl rfl (Nat.le_of_ble_eq_true rfl) dX10_image_58 (fun σ4 => ?_)
      refine jo_iconst (pc := 61) dX10_image_61 (ic_i_1) ?_
      exact jo_breturn (pc := 62) (b := true) rfl rfl dX10_image_62
    · refine jo_iconst (pc := 29) dX10_image_29 (ic_i_0) ?_
      exact jo_breturn (pc := 30) (b := false) rfl rfl dX10_image_30
  · refine jo_aload_n (pc := 4) 0 rfl dX10_image_4 rfl ?_
    refine jo_getrE (pc := 5) ok_10_1 (ik_0 hw) rf_0_1 gw_632 dX10_image_5 ?_
    refine jo_aload_n (pc := 8) 0 rfl dX10_image_8 rfl ?_
    refine jo_getrE (pc := 9) ok_10_0 (ik_0 hw) rf_0_0 gw_631 dX10_image_9 ?_
    refine jo_cV_V_i (pc := 12) (μ' := mu_X8_takeAll) (fx := f_X8_takeAll σ 17 1) (As := [.ref (adr w 1)]) (c_X8_takeAll hw (ik_17 hw) (ik_1 hw)) (ok_X8_takeAll) (ltb rfl) (all3 gw_1248 gw_1249 gw_1250) (ik_17 hw) (by decide) (q := (RX8, TX8, 3)) rfl rfl rfl rfl (Nat.le_of_ble_eq_true rfl) dX10_image_12 (fun σ5 => ?_)
    refine jo_aload_n (pc := 15) 0 rfl dX10_image_15 rfl ?_
    refine jo_iconst (pc := 16) dX10_image_16 (ic_i_1) ?_
    refine jo_putz01 (pc := 17) (by decide) ok_10_2 okp_10_2 (ik_0 hw) gw_633 dX10_image_17 (fun σ6 => ?_)
    refine jo_iconst (pc := 20) dX10_image_20 (ic_i_1) ?_
    exact jo_breturn (pc := 21) (b := true) rfl rfl dX10_image_21
theorem c_X10_image {w : Wd} (hw : WOK w) {σ : Mem} {x0 : Bool} : ∀ r σ', f_X10_image σ x0 = some (r, σ') → MC w mu_X10_image (vB r) [.ref (adr w 0), .int (b2i x0)] σ σ' := mc_of ok_X10_image rfl (Nat.le_of_ble_eq_true rfl) (t_X10_image hw)
abbrev mu_X10_registersNotOne : MD := (yX10_registersNotOne, cX10_registersNotOne, 3, some .int, 2)
theorem ok_X10_registersNotOne : MOK mu_X10_registersNotOne 0 := ⟨gw_1269, gw_158, (by decide +kernel : plainFor yX10_registersNotOne = true), ⟨(by decide +kernel : yX10_registersNotOne.cls ≠ "java/lang/invoke/MethodHandle"), (by decide +kernel : yX10_registersNotOne.cls ≠ "java/lang/invoke/VarHandle"), (by decide +kernel : (parseMethodDescriptor yX10_registersNotOne.desc).map (fun d => d.parameters.length) = some 0)⟩, Nat.le_of_ble_eq_true rfl⟩
noncomputable def j_X10_registersNotOne_31 (i2 : Int32) (i5 : Int32) : Option ((Int32 × Int32) ⊕ Int32) :=
  some (Sum.inl (i5, i2 + 1))
noncomputable def l_X10_registersNotOne_4 (σ : Mem) (i1 : Int32) (i2 : Int32) : Option ((Int32 × Int32) ⊕ Int32) :=
  if 10 ≤ i2 then (some (Sum.inr i1)) else (gR 5 i2 (fun (p3 : Nat) => (f_X0_isOne σ p3).bind (fun (b4 : Bool) => (if b4 then some i1 else bd (i1 ||| (1 <<< (i2 &&& 31))) (fun (v6 : Int32) => some v6) : Option Int32).bind (fun (z5 : Int32) => j_X10_registersNotOne_31 i2 z5))))
noncomputable def f_X10_registersNotOne (σ : Mem) : Option Int32 :=
  loopO (fun (z2 : (Int32 × Int32)) => l_X10_registersNotOne_4 σ z2.1 z2.2) (0, 0)
theorem t_X10_registersNotOne {w : Wd} (hw : WOK w) {σ : Mem} : JO w mu_X10_registersNotOne vI σ [(0, .ref (adr w 0))] [] 0 (f_X10_registersNotOne σ) (fun z => some (z, σ)) := by
  unfold f_X10_registersNotOne
  refine jo_iconst (pc := 0) dX10_registersNotOne_0 (ic_i_0) ?_
  refine jo_istore_n (pc := 1) (lv' := [(1, .int 0), (0, .ref (adr w 0))]) dX10_registersNotOne_1 rfl (ltb rfl) rfl ?_
  refine jo_iconst (pc := 2) dX10_registersNotOne_2 (ic_i_0) ?_
  refine jo_istore_n (pc := 3) (lv' := [(2, .int 0), (1, .int 0), (0, .ref (adr w 0))]) dX10_registersNotOne_3 rfl (ltb rfl) rfl ?_
  refine jo_lv (lv' := [(0, .ref (adr w 0)), (1, .int 0), (2, .int 0)]) [2, 1, 0] rfl ?_
  refine jo_loop (X := Int32) (fun (z2 : (Int32 × Int32)) => σ) (fun (z2 : (Int32 × Int32)) => [(0, .ref (adr w 0)), (1, .int z2.1), (2, .int z2.2)]) (body := (fun (z2 : (Int32 × Int32)) => l_X10_registersNotOne_4 σ z2.1 z2.2)) (fun F4_2 hF4_2 s => ?_) (0, 0)
  obtain ⟨i1, i2⟩ := s
  show JO w mu_X10_registersNotOne vI σ [(0, .ref (adr w 0)), (1, .int i1), (2, .int i2)] [] 4 (l_X10_registersNotOne_4 σ i1 i2) _
  unfold l_X10_registersNotOne_4
  refine jo_iload_n (pc := 4) 2 rfl dX10_registersNotOne_4 rfl ?_
  refine jo_bipush (pc := 5) dX10_registersNotOne_5 (ic_b_10) ?_
  refine jo_icmp_ge (pc := 7) dX10_registersNotOne_7 (tgt := 37) rfl ?_ ?_
  · refine jo_iload_n (pc := 37) 1 rfl dX10_registersNotOne_37 rfl ?_
    exact jo_ireturn (pc := 38) rfl rfl dX10_registersNotOne_38
  · refine jo_aload_n (pc := 10) 0 rfl dX10_registersNotOne_10 rfl ?_
    refine jo_getrE (pc := 11) ok_10_0 (ik_0 hw) rf_0_0 gw_631 dX10_registersNotOne_11 ?_
    refine jo_getrE (pc := 14) ok_8_1 (ik_1 hw) rf_1_1 gw_221 dX10_registersNotOne_14 ?_
    refine jo_iload_n (pc := 17) 2 rfl dX10_registersNotOne_17 rfl ?_
    refine jo_aaldG (pc := 18) (z := 13) hw (ik_5 hw) (by decide) (t := 4) rfl rfl (by decide) dX10_registersNotOne_18 (fun p3 hp3 => ?_)
    refine jo_cS_Z_p (pc := 19) (μ' := mu_X0_isOne) (fx := f_X0_isOne σ p3) (As := [.ref (adr w p3)]) (c_X0_isOne hw (hp3)) (ok_X0_isOne) (ltb rfl) (all2 gw_1074 gw_1075) rfl rfl (Nat.le_of_ble_eq_true rfl) dX10_registersNotOne_19 (fun b4 => ?_)
    refine jo_join1 (S := Int32) (fun (z5 : Int32) => σ) (fun (z5 : Int32) => [(0, .ref (adr w 0)), (2, .int i2), (1, .int z5)]) (fun (z5 : Int32) => []) 31 ?_ (fun h31_5 => ?_)
    · intro i5
      show JO w mu_X10_registersNotOne vI σ [(0, .ref (adr w 0)), (2, .int i2), (1, .int i5)] [] 31 (j_X10_registersNotOne_31 i2 i5) _
      unfold j_X10_registersNotOne_31
      refine jo_iinc (pc := 31) (lv' := [(2, .int (i2 + 1)), (0, .ref (adr w 0)), (1, .int i5)]) 1 rfl dX10_registersNotOne_31 (congrArg (fun z => i2 + z) (ic_i_1)) (ltb rfl) rfl ?_
      refine jo_goto (pc := 34) dX10_registersNotOne_34 (tgt := 4) rfl ?_
      refine jo_lv (lv' := [(0, .ref (adr w 0)), (1, .int i5), (2, .int (i2 + 1))]) [1, 2, 0] rfl ?_
      exact jo_leaf (by rfl) (hF4_2 (i5, i2 + 1))
    · refine jo_ifz_ne (pc := 22) dX10_registersNotOne_22 (tgt := 31) rfl ?_ ?_
      · refine jo_lv (lv' := [(0, .ref (adr w 0)), (2, .int i2), (1, .int i1)]) [0, 2, 1] rfl ?_
        exact jo_leaf (by rfl) (h31_5 i1)
      · refine jo_iload_n (pc := 25) 1 rfl dX10_registersNotOne_25 rfl ?_
        refine jo_iconst (pc := 26) dX10_registersNotOne_26 (ic_i_1) ?_
        refine jo_iload_n (pc := 27) 2 rfl dX10_registersNotOne_27 rfl ?_
        refine jo_ishl (pc := 28) dX10_registersNotOne_28 ?_
        refine jo_ior (pc := 29) dX10_registersNotOne_29 ?_
        refine jo_bd ?_
        refine jo_istore_n (pc := 30) (lv' := [(1, .int (i1 ||| (1 <<< (i2 &&& 31)))), (0, .ref (adr w 0)), (2, .int i2)]) dX10_registersNotOne_30 rfl (ltb rfl) rfl ?_
        generalize (i1 ||| (1 <<< (i2 &&& 31))) = v6
        refine jo_lv (lv' := [(0, .ref (adr w 0)), (2, .int i2), (1, .int v6)]) [1, 2, 0] rfl ?_
        exact jo_leaf (by rfl) (h31_5 v6)
theorem c_X10_registersNotOne {w : Wd} (hw : WOK w) {σ : Mem} : ∀ r, f_X10_registersNotOne σ = some r → MC w mu_X10_registersNotOne (vI r) [.ref (adr w 0)] σ σ := mc_ofP ok_X10_registersNotOne rfl (Nat.le_of_ble_eq_true rfl) (t_X10_registersNotOne hw)
abbrev mu_X10_centralGenerators : MD := (yX10_centralGenerators, cX10_centralGenerators, 3, some .int, 3)
theorem ok_X10_centralGenerators : MOK mu_X10_centralGenerators 0 := ⟨gw_1273, gw_158, (by decide +kernel : plainFor yX10_centralGenerators = true), ⟨(by decide +kernel : yX10_centralGenerators.cls ≠ "java/lang/invoke/MethodHandle"), (by decide +kernel : yX10_centralGenerators.cls ≠ "java/lang/invoke/VarHandle"), (by decide +kernel : (parseMethodDescriptor yX10_centralGenerators.desc).map (fun d => d.parameters.length) = some 0)⟩, Nat.le_of_ble_eq_true rfl⟩
noncomputable def j_X10_centralGenerators_38 (i2 : Int32) (i5 : Int32) : Option ((Int32 × Int32) ⊕ Int32) :=
  some (Sum.inl (i5, i2 + 1))
noncomputable def l_X10_centralGenerators_4 (σ : Mem) (i1 : Int32) (i2 : Int32) : Option ((Int32 × Int32) ⊕ Int32) :=
  gF σ 2 0 (fun (v3 : Int32) => if v3 ≤ i2 then (some (Sum.inr i1)) else ((f_X6_isCentral σ 2 i2).bind (fun (b4 : Bool) => (if b4 then bd (i1 ||| (1 <<< (i2 &&& 31))) (fun (v6 : Int32) => some v6) else some i1 : Option Int32).bind (fun (z5 : Int32) => j_X10_centralGenerators_38 i2 z5))))
noncomputable def f_X10_centralGenerators (σ : Mem) : Option Int32 :=
  loopO (fun (z2 : (Int32 × Int32)) => l_X10_centralGenerators_4 σ z2.1 z2.2) (0, 0)
theorem t_X10_centralGenerators {w : Wd} (hw : WOK w) {σ : Mem} : JO w mu_X10_centralGenerators vI σ [(0, .ref (adr w 0))] [] 0 (f_X10_centralGenerators σ) (fun z => some (z, σ)) := by
  unfold f_X10_centralGenerators
  refine jo_iconst (pc := 0) dX10_centralGenerators_0 (ic_i_0) ?_
  refine jo_istore_n (pc := 1) (lv' := [(1, .int 0), (0, .ref (adr w 0))]) dX10_centralGenerators_1 rfl (ltb rfl) rfl ?_
  refine jo_iconst (pc := 2) dX10_centralGenerators_2 (ic_i_0) ?_
  refine jo_istore_n (pc := 3) (lv' := [(2, .int 0), (1, .int 0), (0, .ref (adr w 0))]) dX10_centralGenerators_3 rfl (ltb rfl) rfl ?_
  refine jo_lv (lv' := [(0, .ref (adr w 0)), (1, .int 0), (2, .int 0)]) [2, 1, 0] rfl ?_
  refine jo_loop (X := Int32) (fun (z2 : (Int32 × Int32)) => σ) (fun (z2 : (Int32 × Int32)) => [(0, .ref (adr w 0)), (1, .int z2.1), (2, .int z2.2)]) (body := (fun (z2 : (Int32 × Int32)) => l_X10_centralGenerators_4 σ z2.1 z2.2)) (fun F4_2 hF4_2 s => ?_) (0, 0)
  obtain ⟨i1, i2⟩ := s
  show JO w mu_X10_centralGenerators vI σ [(0, .ref (adr w 0)), (1, .int i1), (2, .int i2)] [] 4 (l_X10_centralGenerators_4 σ i1 i2) _
  unfold l_X10_centralGenerators_4
  refine jo_iload_n (pc := 4) 2 rfl dX10_centralGenerators_4 rfl ?_
  refine jo_aload_n (pc := 5) 0 rfl dX10_centralGenerators_5 rfl ?_
  refine jo_getrE (pc := 6) ok_10_0 (ik_0 hw) rf_0_0 gw_631 dX10_centralGenerators_6 ?_
  refine jo_getrE (pc := 9) ok_8_0 (ik_1 hw) rf_1_0 gw_218 dX10_centralGenerators_9 ?_
  refine jo_getf (pc := 12) ok_6_0 (ik_2 hw) gw_198 dX10_centralGenerators_12 (fun v3 => ?_)
  refine jo_icmp_ge (pc := 15) dX10_centralGenerators_15 (tgt := 44) rfl ?_ ?_
  · refine jo_iload_n (pc := 44) 1 rfl dX10_centralGenerators_44 rfl ?_
    exact jo_ireturn (pc := 45) rfl rfl dX10_centralGenerators_45
  · refine jo_aload_n (pc := 18) 0 rfl dX10_centralGenerators_18 rfl ?_
    refine jo_getrE (pc := 19) ok_10_0 (ik_0 hw) rf_0_0 gw_631 dX10_centralGenerators_19 ?_
    refine jo_getrE (pc := 22) ok_8_0 (ik_1 hw) rf_1_0 gw_218 dX10_centralGenerators_22 ?_
    refine jo_iload_n (pc := 25) 2 rfl dX10_centralGenerators_25 rfl ?_
    refine jo_cV_Z_p (pc := 26) (μ' := mu_X6_isCentral) (fx := f_X6_isCentral σ 2 i2) (As := [.int i2]) (c_X6_isCentral hw (ik_2 hw)) (ok_X6_isCentral) (ltb rfl) (all3 gw_747 gw_748 gw_749) (ik_2 hw) (by decide) (q := (RX6, TX6, 3)) rfl rfl rfl rfl (Nat.le_of_ble_eq_true rfl) dX10_centralGenerators_26 (fun b4 => ?_)
    refine jo_join1 (S := Int32) (fun (z5 : Int32) => σ) (fun (z5 : Int32) => [(0, .ref (adr w 0)), (2, .int i2), (1, .int z5)]) (fun (z5 : Int32) => []) 38 ?_ (fun h38_5 => ?_)
    · intro i5
      show JO w mu_X10_centralGenerators vI σ [(0, .ref (adr w 0)), (2, .int i2), (1, .int i5)] [] 38 (j_X10_centralGenerators_38 i2 i5) _
      unfold j_X10_centralGenerators_38
      refine jo_iinc (pc := 38) (lv' := [(2, .int (i2 + 1)), (0, .ref (adr w 0)), (1, .int i5)]) 1 rfl dX10_centralGenerators_38 (congrArg (fun z => i2 + z) (ic_i_1)) (ltb rfl) rfl ?_
      refine jo_goto (pc := 41) dX10_centralGenerators_41 (tgt := 4) rfl ?_
      refine jo_lv (lv' := [(0, .ref (adr w 0)), (1, .int i5), (2, .int (i2 + 1))]) [1, 2, 0] rfl ?_
      exact jo_leaf (by rfl) (hF4_2 (i5, i2 + 1))
    · refine jo_ifz_eq (pc := 29) dX10_centralGenerators_29 (tgt := 38) rfl ?_ ?_
      · refine jo_lv (lv' := [(0, .ref (adr w 0)), (2, .int i2), (1, .int i1)]) [0, 2, 1] rfl ?_
        exact jo_leaf (by rfl) (h38_5 i1)
      · refine jo_iload_n (pc := 32) 1 rfl dX10_centralGenerators_32 rfl ?_
        refine jo_iconst (pc := 33) dX10_centralGenerators_33 (ic_i_1) ?_
        refine jo_iload_n (pc := 34) 2 rfl dX10_centralGenerators_34 rfl ?_
        refine jo_ishl (pc := 35) dX10_centralGenerators_35 ?_
        refine jo_ior (pc := 36) dX10_centralGenerators_36 ?_
        refine jo_bd ?_
        refine jo_istore_n (pc := 37) (lv' := [(1, .int (i1 ||| (1 <<< (i2 &&& 31)))), (0, .ref (adr w 0)), (2, .int i2)]) dX10_centralGenerators_37 rfl (ltb rfl) rfl ?_
        generalize (i1 ||| (1 <<< (i2 &&& 31))) = v6
        refine jo_lv (lv' := [(0, .ref (adr w 0)), (2, .int i2), (1, .int v6)]) [1, 2, 0] rfl ?_
        exact jo_leaf (by rfl) (h38_5 v6)
theorem c_X10_centralGenerators {w : Wd} (hw : WOK w) {σ : Mem} : ∀ r, f_X10_centralGenerators σ = some r → MC w mu_X10_centralGenerators (vI r) [.ref (adr w 0)] σ σ := mc_ofP ok_X10_centralGenerators rfl (Nat.le_of_ble_eq_true rfl) (t_X10_centralGenerators hw)
abbrev mu_X10_look : MD := (yX10_look, cX10_look, 2, some .int, 4)
theorem ok_X10_look : MOK mu_X10_look 1 := ⟨gw_1257, gw_158, (by decide +kernel : plainFor yX10_look = true), ⟨(by decide +kernel : yX10_look.cls ≠ "java/lang/invoke/MethodHandle"), (by decide +kernel : yX10_look.cls ≠ "java/lang/invoke/VarHandle"), (by decide +kernel : (parseMethodDescriptor yX10_look.desc).map (fun d => d.parameters.length) = some 1)⟩, Nat.le_of_ble_eq_true rfl⟩
noncomputable def f_X10_look (σ : Mem) (x0 : Int32) : Option Int32 :=
  if x0 = 0 then (gF σ 2 0 (fun (v2 : Int32) => some v2)) else if x0 = 1 then ((f_X6_top σ 2).bind (fun (v4 : Int32) => some v4)) else if x0 = 2 then (gZ σ 40 3 (fun (b6 : Bool) => (f_X10_bit σ b6).bind (fun (v7 : Int32) => some v7))) else if x0 = 3 then ((f_X6_tailsAboveZero σ 2).bind (fun (v9 : Int32) => some v9)) else if x0 = 4 then ((f_X4_termCount σ).bind (fun (v11 : Int32) => some v11)) else if x0 = 5 then ((f_X10_registersNotOne σ).bind (fun (v13 : Int32) => some v13)) else if x0 = 6 then (gF σ 0 4 (fun (v15 : Int32) => some v15)) else if x0 = 7 then (gF σ 0 7 (fun (v17 : Int32) => some v17)) else if x0 = 8 then (gI σ 16 0 (fun (v19 : Int32) => some v19)) else if x0 = 9 then (gZ σ 40 3 (fun (b21 : Bool) => if b21 then (f_X10_centralGenerators σ).bind (fun (v22 : Int32) => some v22) else some 0)) else (some (-1))
theorem t_X10_look {w : Wd} (hw : WOK w) {σ : Mem} {x0 : Int32} : JO w mu_X10_look vI σ [(0, .ref (adr w 0)), (1, .int x0)] [] 0 (f_X10_look σ x0) (fun z => some (z, σ)) := by
  unfold f_X10_look
  refine jo_iload_n (pc := 0) 1 rfl dX10_look_0 rfl ?_
  refine jo_case (v := 0) (fun h1 => ?_) (fun h1 => ?_)
  · refine jo_tswHit (pc := 1) dX10_look_1 h1 (by decide) (by decide) (off := 55) (by rfl) (tgt := 56) rfl ?_
    refine jo_aload_n (pc := 56) 0 rfl dX10_look_56 rfl ?_
    refine jo_getrE (pc := 57) ok_10_0 (ik_0 hw) rf_0_0 gw_631 dX10_look_57 ?_
    refine jo_getrE (pc := 60) ok_8_0 (ik_1 hw) rf_1_0 gw_218 dX10_look_60 ?_
    refine jo_getf (pc := 63) ok_6_0 (ik_2 hw) gw_198 dX10_look_63 (fun v2 => ?_)
    exact jo_ireturn (pc := 66) rfl rfl dX10_look_66
  refine jo_case (v := 1) (fun h3 => ?_) (fun h3 => ?_)
  · refine jo_tswHit (pc := 1) dX10_look_1 h3 (by decide) (by decide) (off := 66) (by rfl) (tgt := 67) rfl ?_
    refine jo_aload_n (pc := 67) 0 rfl dX10_look_67 rfl ?_
    refine jo_getrE (pc := 68) ok_10_0 (ik_0 hw) rf_0_0 gw_631 dX10_look_68 ?_
    refine jo_getrE (pc := 71) ok_8_0 (ik_1 hw) rf_1_0 gw_218 dX10_look_71 ?_
    refine jo_cV_I_p (pc := 74) (μ' := mu_X6_top) (fx := f_X6_top σ 2) (As := []) (c_X6_top hw (ik_2 hw)) (ok_X6_top) (ltb rfl) (all3 gw_1061 gw_606 gw_607) (ik_2 hw) (by decide) (q := (RX6, TX6, 3)) rfl rfl rfl rfl (Nat.le_of_ble_eq_true rfl) dX10_look_74 (fun v4 => ?_)
    exact jo_ireturn (pc := 77) rfl rfl dX10_look_77
  refine jo_case (v := 2) (fun h5 => ?_) (fun h5 => ?_)
  · refine jo_tswHit (pc := 1) dX10_look_1 h5 (by decide) (by decide) (off := 77) (by rfl) (tgt := 78) rfl ?_
    refine jo_aload_n (pc := 78) 0 rfl dX10_look_78 rfl ?_
    refine jo_getrE (pc := 79) ok_10_9 (ik_0 hw) rf_0_9 gw_640 dX10_look_79 ?_
    refine jo_getz (pc := 82) ok_4_3 (ik_40 hw) gw_308 dX10_look_82 (fun b6 => ?_)
    refine jo_cS_I_p (pc := 85) (μ' := mu_X10_bit) (fx := f_X10_bit σ b6) (As := [.int (b2i b6)]) (c_X10_bit hw) (ok_X10_bit) (ltb rfl) (all2 gw_736 gw_737) rfl rfl (Nat.le_of_ble_eq_true rfl) dX10_look_85 (fun v7 => ?_)
    exact jo_ireturn (pc := 88) rfl rfl dX10_look_88
  refine jo_case (v := 3) (fun h8 => ?_) (fun h8 => ?_)
  · refine jo_tswHit (pc := 1) dX10_look_1 h8 (by decide) (by decide) (off := 88) (by rfl) (tgt := 89) rfl ?_
    refine jo_aload_n (pc := 89) 0 rfl dX10_look_89 rfl ?_
    refine jo_getrE (pc := 90) ok_10_0 (ik_0 hw) rf_0_0 gw_631 dX10_look_90 ?_
    refine jo_getrE (pc := 93) ok_8_0 (ik_1 hw) rf_1_0 gw_218 dX10_look_93 ?_
    refine jo_cV_I_p (pc := 96) (μ' := mu_X6_tailsAboveZero) (fx := f_X6_tailsAboveZero σ 2) (As := []) (c_X6_tailsAboveZero hw (ik_2 hw)) (ok_X6_tailsAboveZero) (ltb rfl) (all3 gw_1258 gw_1259 gw_1260) (ik_2 hw) (by decide) (q := (RX6, TX6, 3)) rfl rfl rfl rfl (Nat.le_of_ble_eq_true rfl) dX10_look_96 (fun v9 => ?_)
    exact jo_ireturn (pc := 99) rfl rfl dX10_look_99
  refine jo_case (v := 4) (fun h10 => ?_) (fun h10 => ?_)
  · refine jo_tswHit (pc := 1) dX10_look_1 h10 (by decide) (by decide) (off := 99) (by rfl) (tgt := 100) rfl ?_
    refine jo_aload_n (pc := 100) 0 rfl dX10_look_100 rfl ?_
    refine jo_getrE (pc := 101) ok_10_9 (ik_0 hw) rf_0_9 gw_640 dX10_look_101 ?_
    refine jo_cV_I_p (pc := 104) (μ' := mu_X4_termCount) (fx := f_X4_termCount σ) (As := []) (c_X4_termCount hw) (ok_X4_termCount) (ltb rfl) (all3 gw_1262 gw_1263 gw_1264) (ik_40 hw) (by decide) (q := (RX4, TX4, 9)) rfl rfl rfl rfl (Nat.le_of_ble_eq_true rfl) dX10_look_104 (fun v11 => ?_)
    exact jo_ireturn (pc := 107) rfl rfl dX10_look_107
  refine jo_case (v := 5) (fun h12 => ?_) (fun h12 => ?_)
  · refine jo_tswHit (pc := 1) dX10_look_1 h12 (by decide) (by decide) (off := 107) (by rfl) (tgt := 108) rfl ?_
    refine jo_aload_n (pc := 108) 0 rfl dX10_look_108 rfl ?_
    refine jo_cV_I_p (pc := 109) (μ' := mu_X10_registersNotOne) (fx := f_X10_registersNotOne σ) (As := []) (c_X10_registersNotOne hw) (ok_X10_registersNotOne) (ltb rfl) (all3 gw_1266 gw_1268 gw_59) (ik_0 hw) (by decide) (q := (RX10, TX10, 17)) rfl rfl rfl rfl (Nat.le_of_ble_eq_true rfl) dX10_look_109 (fun v13 => ?_)
    exact jo_ireturn (pc := 112) rfl rfl dX10_look_112
  refine jo_case (v := 6) (fun h14 => ?_) (fun h14 => ?_)
  · refine jo_tswHit (pc := 1) dX10_look_1 h14 (by decide) (by decide) (off := 112) (by rfl) (tgt := 113) rfl ?_
    refine jo_aload_n (pc := 113) 0 rfl dX10_look_113 rfl ?_
    refine jo_getf (pc := 114) ok_10_4 (ik_0 hw) gw_635 dX10_look_114 (fun v15 => ?_)
    exact jo_ireturn (pc := 117) rfl rfl dX10_look_117
  refine jo_case (v := 7) (fun h16 => ?_) (fun h16 => ?_)
  · refine jo_tswHit (pc := 1) dX10_look_1 h16 (by decide) (by decide) (off := 117) (by rfl) (tgt := 118) rfl ?_
    refine jo_aload_n (pc := 118) 0 rfl dX10_look_118 rfl ?_
    refine jo_getf (pc := 119) ok_10_7 (ik_0 hw) gw_638 dX10_look_119 (fun v17 => ?_)
    exact jo_ireturn (pc := 122) rfl rfl dX10_look_122
  refine jo_case (v := 8) (fun h18 => ?_) (fun h18 => ?_)
  · refine jo_tswHit (pc := 1) dX10_look_1 h18 (by decide) (by decide) (off := 122) (by rfl) (tgt := 123) rfl ?_
    refine jo_aload_n (pc := 123) 0 rfl dX10_look_123 rfl ?_
    refine jo_getrE (pc := 124) ok_10_0 (ik_0 hw) rf_0_0 gw_631 dX10_look_124 ?_
    refine jo_getrE (pc := 127) ok_8_2 (ik_1 hw) rf_1_2 gw_224 dX10_look_127 ?_
    refine jo_iconst (pc := 130) dX10_look_130 (ic_i_0) ?_
    refine jo_iald (pc := 131) (ik_16 hw) dX10_look_131 (fun v19 => ?_)
    exact jo_ireturn (pc := 132) rfl rfl dX10_look_132
  refine jo_case (v := 9) (fun h20 => ?_) (fun h20 => ?_)
  · refine jo_tswHit (pc := 1) dX10_look_1 h20 (by decide) (by decide) (off := 132) (by rfl) (tgt := 133) rfl ?_
    refine jo_aload_n (pc := 133) 0 rfl dX10_look_133 rfl ?_
    refine jo_getrE (pc := 134) ok_10_9 (ik_0 hw) rf_0_9 gw_640 dX10_look_134 ?_
    refine jo_getz (pc := 137) ok_4_3 (ik_40 hw) gw_308 dX10_look_137 (fun b21 => ?_)
    refine jo_ifz_eq (pc := 140) dX10_look_140 (tgt := 150) rfl ?_ ?_
    · refine jo_iconst (pc := 150) dX10_look_150 (ic_i_0) ?_
      exact jo_ireturn (pc := 151) rfl rfl dX10_look_151
    · refine jo_aload_n (pc := 143) 0 rfl dX10_look_143 rfl ?_
      refine jo_cV_I_p (pc := 144) (μ' := mu_X10_centralGenerators) (fx := f_X10_centralGenerators σ) (As := []) (c_X10_centralGenerators hw) (ok_X10_centralGenerators) (ltb rfl) (all3 gw_1270 gw_1272 gw_60) (ik_0 hw) (by decide) (q := (RX10, TX10, 17)) rfl rfl rfl rfl (Nat.le_of_ble_eq_true rfl) dX10_look_144 (fun v22 => ?_)
      refine jo_goto (pc := 147) dX10_look_147 (tgt := 151) rfl ?_
      exact jo_ireturn (pc := 151) rfl rfl dX10_look_151
  have qh1 : (x0).toInt ≠ 0 := fun e => h1 (Int32.toInt_inj.mp (e.trans (by decide)))
  have qh3 : (x0).toInt ≠ 1 := fun e => h3 (Int32.toInt_inj.mp (e.trans (by decide)))
  have qh5 : (x0).toInt ≠ 2 := fun e => h5 (Int32.toInt_inj.mp (e.trans (by decide)))
  have qh8 : (x0).toInt ≠ 3 := fun e => h8 (Int32.toInt_inj.mp (e.trans (by decide)))
  have qh10 : (x0).toInt ≠ 4 := fun e => h10 (Int32.toInt_inj.mp (e.trans (by decide)))
  have qh12 : (x0).toInt ≠ 5 := fun e => h12 (Int32.toInt_inj.mp (e.trans (by decide)))
  have qh14 : (x0).toInt ≠ 6 := fun e => h14 (Int32.toInt_inj.mp (e.trans (by decide)))
  have qh16 : (x0).toInt ≠ 7 := fun e => h16 (Int32.toInt_inj.mp (e.trans (by decide)))
  have qh18 : (x0).toInt ≠ 8 := fun e => h18 (Int32.toInt_inj.mp (e.trans (by decide)))
  have qh20 : (x0).toInt ≠ 9 := fun e => h20 (Int32.toInt_inj.mp (e.trans (by decide)))
  refine jo_tableOut (pc := 1) dX10_look_1 (by omega) (tgt := 152) rfl ?_
  refine jo_iconst (pc := 152) dX10_look_152 (ic_i_m1) ?_
  exact jo_ireturn (pc := 153) rfl rfl dX10_look_153
theorem c_X10_look {w : Wd} (hw : WOK w) {σ : Mem} {x0 : Int32} : ∀ r, f_X10_look σ x0 = some r → MC w mu_X10_look (vI r) [.ref (adr w 0), .int x0] σ σ := mc_ofP ok_X10_look rfl (Nat.le_of_ble_eq_true rfl) (t_X10_look hw)
abbrev mu_X11_isIn : MD := (yX11_isIn, cX11_isIn, 7, some .boolean, 0)
theorem ok_X11_isIn : MOK mu_X11_isIn 3 := ⟨gw_1423, gw_171, (by decide +kernel : plainFor yX11_isIn = true), ⟨(by decide +kernel : yX11_isIn.cls ≠ "java/lang/invoke/MethodHandle"), (by decide +kernel : yX11_isIn.cls ≠ "java/lang/invoke/VarHandle"), (by decide +kernel : (parseMethodDescriptor yX11_isIn.desc).map (fun d => d.parameters.length) = some 3)⟩, Nat.le_of_ble_eq_true rfl⟩
noncomputable def j_X11_isIn_17  : Option Bool :=
  some false
noncomputable def f_X11_isIn (σ : Mem) (x0 : Int64) (x1 : Int64) (x2 : Int64) : Option Bool :=
  (if x0 < x1 then (some (Sum.inl ())) else (if x2 < x0 then (some (Sum.inl ())) else (some (Sum.inr true))) : Option (Unit ⊕ Bool)).bind (Sum.elim (fun (z0 : Unit) => j_X11_isIn_17) some)
theorem t_X11_isIn {w : Wd} (hw : WOK w) (hN : wn w = NT) {σ : Mem} {x0 : Int64} {x1 : Int64} {x2 : Int64} : JO w mu_X11_isIn vB σ [(0, .ref (adr w 306)), (1, .long x0), (3, .long x1), (5, .long x2)] [] 0 (f_X11_isIn σ x0 x1 x2) (fun z => some (z, σ)) := by
  unfold f_X11_isIn
  refine jo_lload_n (pc := 0) 1 rfl dX11_isIn_0 rfl ?_
  refine jo_lload_n (pc := 1) 2 rfl dX11_isIn_1 rfl ?_
  refine jo_joinS (S := Unit) (fun (z0 : Unit) => σ) (fun (z0 : Unit) => []) (fun (z0 : Unit) => []) 17 ?_ (fun h17_0 => ?_)
  · intro _
    show JO w mu_X11_isIn vB σ [] [] 17 (j_X11_isIn_17) _
    unfold j_X11_isIn_17
    refine jo_iconst (pc := 17) dX11_isIn_17 (ic_i_0) ?_
    exact jo_breturn (pc := 18) (b := false) rfl rfl dX11_isIn_18
  · refine jo_lcmp_lt (pc := 2) dX11_isIn_2 dX11_isIn_3 (tgt := 17) rfl ?_ ?_
    · refine jo_lv (lv' := []) [] rfl ?_
      exact jo_leaf (by rfl) (h17_0 ())
    · refine jo_lload_n (pc := 6) 1 rfl dX11_isIn_6 rfl ?_
      refine jo_lload (pc := 7) 3 rfl dX11_isIn_7 ?_
      refine jo_lcmp_gt (pc := 9) dX11_isIn_9 dX11_isIn_10 (tgt := 17) rfl ?_ ?_
      · refine jo_lv (lv' := []) [] rfl ?_
        exact jo_leaf (by rfl) (h17_0 ())
      · refine jo_iconst (pc := 13) dX11_isIn_13 (ic_i_1) ?_
        refine jo_goto (pc := 14) dX11_isIn_14 (tgt := 18) rfl ?_
        exact jo_breturn (pc := 18) (b := true) rfl rfl dX11_isIn_18
theorem c_X11_isIn {w : Wd} (hw : WOK w) (hN : wn w = NT) {σ : Mem} {x0 : Int64} {x1 : Int64} {x2 : Int64} : ∀ r, f_X11_isIn σ x0 x1 x2 = some r → MC w mu_X11_isIn (vB r) [.ref (adr w 306), .long x0, .long x1, .long x2] σ σ := mc_ofP ok_X11_isIn rfl (Nat.le_of_ble_eq_true rfl) (t_X11_isIn hw hN)
abbrev mu_X11_clears : MD := (yX11_clears, cX11_clears, 3, none, 0)
theorem ok_X11_clears : MOK mu_X11_clears 1 := ⟨gw_1288, gw_171, (by decide +kernel : plainFor yX11_clears = true), ⟨(by decide +kernel : yX11_clears.cls ≠ "java/lang/invoke/MethodHandle"), (by decide +kernel : yX11_clears.cls ≠ "java/lang/invoke/VarHandle"), (by decide +kernel : (parseMethodDescriptor yX11_clears.desc).map (fun d => d.parameters.length) = some 1)⟩, Nat.le_of_ble_eq_true rfl⟩
noncomputable def j_X11_clears_22 (x0 : Int32) (σ1 : Mem) : Option Mem :=
  pI σ1 307 0 x0 (fun (σ2 : Mem) => pF σ2 306 9 0 (fun (σ3 : Mem) => some σ3))
noncomputable def l_X11_clears_2 (σ4 : Mem) (i5 : Int32) : Option ((Mem × Int32) ⊕ Mem) :=
  if 283 ≤ i5 then (some (Sum.inr σ4)) else (pI σ4 307 i5 0 (fun (σ6 : Mem) => some (Sum.inl (σ6, i5 + 1))))
noncomputable def f_X11_clears (σ : Mem) (x0 : Int32) : Option Mem :=
  (loopO (fun (z5 : (Mem × Int32)) => l_X11_clears_2 z5.1 z5.2) (σ, 0) : Option Mem).bind (fun (z1 : Mem) => j_X11_clears_22 x0 z1)
theorem t_X11_clears {w : Wd} (hw : WOK w) (hN : wn w = NT) {σ : Mem} {x0 : Int32} : JO w mu_X11_clears vV σ [(0, .ref (adr w 306)), (1, .int x0)] [] 0 (f_X11_clears σ x0) (fun z => some ((), z)) := by
  unfold f_X11_clears
  refine jo_iconst (pc := 0) dX11_clears_0 (ic_i_0) ?_
  refine jo_istore_n (pc := 1) (lv' := [(2, .int 0), (0, .ref (adr w 306)), (1, .int x0)]) dX11_clears_1 rfl (ltb rfl) rfl ?_
  refine jo_join1 (S := Mem) (fun (z1 : Mem) => z1) (fun (z1 : Mem) => [(0, .ref (adr w 306)), (1, .int x0)]) (fun (z1 : Mem) => []) 22 ?_ (fun h22_1 => ?_)
  · intro σ1
    show JO w mu_X11_clears vV σ1 [(0, .ref (adr w 306)), (1, .int x0)] [] 22 (j_X11_clears_22 x0 σ1) _
    unfold j_X11_clears_22
    refine jo_aload_n (pc := 22) 0 rfl dX11_clears_22 rfl ?_
    refine jo_getrE (pc := 23) ok_11_1 (ik_306 hw hN) rf_306_1 gw_1294 dX11_clears_23 ?_
    refine jo_iconst (pc := 26) dX11_clears_26 (ic_i_0) ?_
    refine jo_iload_n (pc := 27) 1 rfl dX11_clears_27 rfl ?_
    refine jo_iast (pc := 28) (ik_307 hw hN) dX11_clears_28 (fun σ2 => ?_)
    refine jo_aload_n (pc := 29) 0 rfl dX11_clears_29 rfl ?_
    refine jo_iconst (pc := 30) dX11_clears_30 (ic_i_0) ?_
    refine jo_putz01 (pc := 31) (by decide) ok_11_9 okp_11_9 (ik_306 hw hN) gw_1302 dX11_clears_31 (fun σ3 => ?_)
    exact jo_return (pc := 34) rfl rfl dX11_clears_34
  · refine jo_lv (lv' := [(0, .ref (adr w 306)), (1, .int x0), (2, .int 0)]) [1, 2, 0] rfl ?_
    refine jo_loop (X := Mem) (fun (z5 : (Mem × Int32)) => z5.1) (fun (z5 : (Mem × Int32)) => [(0, .ref (adr w 306)), (1, .int x0), (2, .int z5.2)]) (body := (fun (z5 : (Mem × Int32)) => l_X11_clears_2 z5.1 z5.2)) (fun F2_5 hF2_5 s => ?_) (σ, 0)
    obtain ⟨σ4, i5⟩ := s
    show JO w mu_X11_clears vV σ4 [(0, .ref (adr w 306)), (1, .int x0), (2, .int i5)] [] 2 (l_X11_clears_2 σ4 i5) _
    unfold l_X11_clears_2
    refine jo_iload_n (pc := 2) 2 rfl dX11_clears_2 rfl ?_
    refine jo_sipush (pc := 3) dX11_clears_3 (ic_s_283) ?_
    refine jo_icmp_ge (pc := 6) dX11_clears_6 (tgt := 22) rfl ?_ ?_
    · refine jo_lv (lv' := [(0, .ref (adr w 306)), (1, .int x0)]) [0, 1] rfl ?_
      exact jo_leaf (by rfl) (h22_1 σ4)
    · refine jo_aload_n (pc := 9) 0 rfl dX11_clears_9 rfl ?_
      refine jo_getrE (pc := 10) ok_11_1 (ik_306 hw hN) rf_306_1 gw_1294 dX11_clears_10 ?_
      refine jo_iload_n (pc := 13) 2 rfl dX11_clears_13 rfl ?_
      refine jo_iconst (pc := 14) dX11_clears_14 (ic_i_0) ?_
      refine jo_iast (pc := 15) (ik_307 hw hN) dX11_clears_15 (fun σ6 => ?_)
      refine jo_iinc (pc := 16) (lv' := [(2, .int (i5 + 1)), (0, .ref (adr w 306)), (1, .int x0)]) 2 rfl dX11_clears_16 (congrArg (fun z => i5 + z) (ic_i_1)) (ltb rfl) rfl ?_
      refine jo_goto (pc := 19) dX11_clears_19 (tgt := 2) rfl ?_
      refine jo_lv (lv' := [(0, .ref (adr w 306)), (1, .int x0), (2, .int (i5 + 1))]) [1, 2, 0] rfl ?_
      exact jo_leaf (by rfl) (hF2_5 (σ6, i5 + 1))
theorem c_X11_clears {w : Wd} (hw : WOK w) (hN : wn w = NT) {σ : Mem} {x0 : Int32} : ∀ σ', f_X11_clears σ x0 = some σ' → MC w mu_X11_clears none [.ref (adr w 306), .int x0] σ σ' := mc_ofV ok_X11_clears rfl (Nat.le_of_ble_eq_true rfl) (t_X11_clears hw hN)
abbrev mu_X11_putsTail : MD := (yX11_putsTail, cX11_putsTail, 5, none, 0)
theorem ok_X11_putsTail : MOK mu_X11_putsTail 4 := ⟨gw_1292, gw_171, (by decide +kernel : plainFor yX11_putsTail = true), ⟨(by decide +kernel : yX11_putsTail.cls ≠ "java/lang/invoke/MethodHandle"), (by decide +kernel : yX11_putsTail.cls ≠ "java/lang/invoke/VarHandle"), (by decide +kernel : (parseMethodDescriptor yX11_putsTail.desc).map (fun d => d.parameters.length) = some 4)⟩, Nat.le_of_ble_eq_true rfl⟩
noncomputable def f_X11_putsTail (σ : Mem) (x0 : Int32) (x1 : Int32) (x2 : Int32) (x3 : Int32) : Option Mem :=
  pI σ 307 (((7 + (36 * x0)) + (6 * x1)) + x2) x3 (fun (σ1 : Mem) => pF σ1 306 9 0 (fun (σ2 : Mem) => some σ2))
theorem t_X11_putsTail {w : Wd} (hw : WOK w) (hN : wn w = NT) {σ : Mem} {x0 : Int32} {x1 : Int32} {x2 : Int32} {x3 : Int32} : JO w mu_X11_putsTail vV σ [(0, .ref (adr w 306)), (1, .int x0), (2, .int x1), (3, .int x2), (4, .int x3)] [] 0 (f_X11_putsTail σ x0 x1 x2 x3) (fun z => some ((), z)) := by
  unfold f_X11_putsTail
  refine jo_aload_n (pc := 0) 0 rfl dX11_putsTail_0 rfl ?_
  refine jo_getrE (pc := 1) ok_11_1 (ik_306 hw hN) rf_306_1 gw_1294 dX11_putsTail_1 ?_
  refine jo_bipush (pc := 4) dX11_putsTail_4 (ic_b_7) ?_
  refine jo_bipush (pc := 6) dX11_putsTail_6 (ic_b_36) ?_
  refine jo_iload_n (pc := 8) 1 rfl dX11_putsTail_8 rfl ?_
  refine jo_imul (pc := 9) dX11_putsTail_9 ?_
  refine jo_iadd (pc := 10) dX11_putsTail_10 ?_
  refine jo_bipush (pc := 11) dX11_putsTail_11 (ic_b_6) ?_
  refine jo_iload_n (pc := 13) 2 rfl dX11_putsTail_13 rfl ?_
  refine jo_imul (pc := 14) dX11_putsTail_14 ?_
  refine jo_iadd (pc := 15) dX11_putsTail_15 ?_
  refine jo_iload_n (pc := 16) 3 rfl dX11_putsTail_16 rfl ?_
  refine jo_iadd (pc := 17) dX11_putsTail_17 ?_
  refine jo_iload (pc := 18) 4 rfl dX11_putsTail_18 ?_
  refine jo_iast (pc := 20) (ik_307 hw hN) dX11_putsTail_20 (fun σ1 => ?_)
  refine jo_aload_n (pc := 21) 0 rfl dX11_putsTail_21 rfl ?_
  refine jo_iconst (pc := 22) dX11_putsTail_22 (ic_i_0) ?_
  refine jo_putz01 (pc := 23) (by decide) ok_11_9 okp_11_9 (ik_306 hw hN) gw_1302 dX11_putsTail_23 (fun σ2 => ?_)
  exact jo_return (pc := 26) rfl rfl dX11_putsTail_26
theorem c_X11_putsTail {w : Wd} (hw : WOK w) (hN : wn w = NT) {σ : Mem} {x0 : Int32} {x1 : Int32} {x2 : Int32} {x3 : Int32} : ∀ σ', f_X11_putsTail σ x0 x1 x2 x3 = some σ' → MC w mu_X11_putsTail none [.ref (adr w 306), .int x0, .int x1, .int x2, .int x3] σ σ' := mc_ofV ok_X11_putsTail rfl (Nat.le_of_ble_eq_true rfl) (t_X11_putsTail hw hN)
abbrev mu_X11_plain : MD := (yX11_plain, cX11_plain, 1, none, 1)
theorem ok_X11_plain : MOK mu_X11_plain 0 := ⟨gw_1284, gw_171, (by decide +kernel : plainFor yX11_plain = true), ⟨(by decide +kernel : yX11_plain.cls ≠ "java/lang/invoke/MethodHandle"), (by decide +kernel : yX11_plain.cls ≠ "java/lang/invoke/VarHandle"), (by decide +kernel : (parseMethodDescriptor yX11_plain.desc).map (fun d => d.parameters.length) = some 0)⟩, Nat.le_of_ble_eq_true rfl⟩
noncomputable def f_X11_plain (σ : Mem) : Option Mem :=
  (f_X11_clears σ 3).bind (fun (σ1 : Mem) => pI σ1 307 1 1 (fun (σ2 : Mem) => pI σ2 307 2 1 (fun (σ3 : Mem) => pI σ3 307 3 2 (fun (σ4 : Mem) => (f_X11_putsTail σ4 1 0 2 1).bind (fun (σ5 : Mem) => some σ5)))))
theorem t_X11_plain {w : Wd} (hw : WOK w) (hN : wn w = NT) {σ : Mem} : JO w mu_X11_plain vV σ [(0, .ref (adr w 306))] [] 0 (f_X11_plain σ) (fun z => some ((), z)) := by
  unfold f_X11_plain
  refine jo_aload_n (pc := 0) 0 rfl dX11_plain_0 rfl ?_
  refine jo_iconst (pc := 1) dX11_plain_1 (ic_i_3) ?_
  refine jo_cV_V_i (pc := 2) (μ' := mu_X11_clears) (fx := f_X11_clears σ 3) (As := [.int 3]) (c_X11_clears hw hN) (ok_X11_clears) (ltb rfl) (all3 gw_1285 gw_1287 gw_62) (ik_306 hw hN) (by decide) (q := (RX11, TX11, 39)) rfl rfl rfl rfl (Nat.le_of_ble_eq_true rfl) dX11_plain_2 (fun σ1 => ?_)
  refine jo_aload_n (pc := 5) 0 rfl dX11_plain_5 rfl ?_
  refine jo_getrE (pc := 6) ok_11_1 (ik_306 hw hN) rf_306_1 gw_1294 dX11_plain_6 ?_
  refine jo_iconst (pc := 9) dX11_plain_9 (ic_i_1) ?_
  refine jo_iconst (pc := 10) dX11_plain_10 (ic_i_1) ?_
  refine jo_iast (pc := 11) (ik_307 hw hN) dX11_plain_11 (fun σ2 => ?_)
  refine jo_aload_n (pc := 12) 0 rfl dX11_plain_12 rfl ?_
  refine jo_getrE (pc := 13) ok_11_1 (ik_306 hw hN) rf_306_1 gw_1294 dX11_plain_13 ?_
  refine jo_iconst (pc := 16) dX11_plain_16 (ic_i_2) ?_
  refine jo_iconst (pc := 17) dX11_plain_17 (ic_i_1) ?_
  refine jo_iast (pc := 18) (ik_307 hw hN) dX11_plain_18 (fun σ3 => ?_)
  refine jo_aload_n (pc := 19) 0 rfl dX11_plain_19 rfl ?_
  refine jo_getrE (pc := 20) ok_11_1 (ik_306 hw hN) rf_306_1 gw_1294 dX11_plain_20 ?_
  refine jo_iconst (pc := 23) dX11_plain_23 (ic_i_3) ?_
  refine jo_iconst (pc := 24) dX11_plain_24 (ic_i_2) ?_
  refine jo_iast (pc := 25) (ik_307 hw hN) dX11_plain_25 (fun σ4 => ?_)
  refine jo_aload_n (pc := 26) 0 rfl dX11_plain_26 rfl ?_
  refine jo_iconst (pc := 27) dX11_plain_27 (ic_i_1) ?_
  refine jo_iconst (pc := 28) dX11_plain_28 (ic_i_0) ?_
  refine jo_iconst (pc := 29) dX11_plain_29 (ic_i_2) ?_
  refine jo_iconst (pc := 30) dX11_plain_30 (ic_i_1) ?_
  refine jo_cV_V_i (pc := 31) (μ' := mu_X11_putsTail) (fx := f_X11_putsTail σ4 1 0 2 1) (As := [.int 1, .int 0, .int 2, .int 1]) (c_X11_putsTail hw hN) (ok_X11_putsTail) (ltb rfl) (all3 gw_1289 gw_1291 gw_63) (ik_306 hw hN) (by decide) (q := (RX11, TX11, 39)) rfl rfl rfl rfl (Nat.le_of_ble_eq_true rfl) dX11_plain_31 (fun σ5 => ?_)
  exact jo_return (pc := 34) rfl rfl dX11_plain_34
theorem c_X11_plain {w : Wd} (hw : WOK w) (hN : wn w = NT) {σ : Mem} : ∀ σ', f_X11_plain σ = some σ' → MC w mu_X11_plain none [.ref (adr w 306)] σ σ' := mc_ofV ok_X11_plain rfl (Nat.le_of_ble_eq_true rfl) (t_X11_plain hw hN)
abbrev mu_X11_n : MD := (yX11_n, cX11_n, 1, some .int, 0)
theorem ok_X11_n : MOK mu_X11_n 0 := ⟨gw_1444, gw_171, (by decide +kernel : plainFor yX11_n = true), ⟨(by decide +kernel : yX11_n.cls ≠ "java/lang/invoke/MethodHandle"), (by decide +kernel : yX11_n.cls ≠ "java/lang/invoke/VarHandle"), (by decide +kernel : (parseMethodDescriptor yX11_n.desc).map (fun d => d.parameters.length) = some 0)⟩, Nat.le_of_ble_eq_true rfl⟩
noncomputable def f_X11_n (σ : Mem) : Option Int32 :=
  gI σ 307 0 (fun (v1 : Int32) => some v1)
theorem t_X11_n {w : Wd} (hw : WOK w) (hN : wn w = NT) {σ : Mem} : JO w mu_X11_n vI σ [(0, .ref (adr w 306))] [] 0 (f_X11_n σ) (fun z => some (z, σ)) := by
  unfold f_X11_n
  refine jo_aload_n (pc := 0) 0 rfl dX11_n_0 rfl ?_
  refine jo_getrE (pc := 1) ok_11_1 (ik_306 hw hN) rf_306_1 gw_1294 dX11_n_1 ?_
  refine jo_iconst (pc := 4) dX11_n_4 (ic_i_0) ?_
  refine jo_iald (pc := 5) (ik_307 hw hN) dX11_n_5 (fun v1 => ?_)
  exact jo_ireturn (pc := 6) rfl rfl dX11_n_6
theorem c_X11_n {w : Wd} (hw : WOK w) (hN : wn w = NT) {σ : Mem} : ∀ r, f_X11_n σ = some r → MC w mu_X11_n (vI r) [.ref (adr w 306)] σ σ := mc_ofP ok_X11_n rfl (Nat.le_of_ble_eq_true rfl) (t_X11_n hw hN)
abbrev mu_X11_weight : MD := (yX11_weight, cX11_weight, 2, some .int, 0)
theorem ok_X11_weight : MOK mu_X11_weight 1 := ⟨gw_1449, gw_171, (by decide +kernel : plainFor yX11_weight = true), ⟨(by decide +kernel : yX11_weight.cls ≠ "java/lang/invoke/MethodHandle"), (by decide +kernel : yX11_weight.cls ≠ "java/lang/invoke/VarHandle"), (by decide +kernel : (parseMethodDescriptor yX11_weight.desc).map (fun d => d.parameters.length) = some 1)⟩, Nat.le_of_ble_eq_true rfl⟩
noncomputable def f_X11_weight (σ : Mem) (x0 : Int32) : Option Int32 :=
  gI σ 307 (1 + x0) (fun (v1 : Int32) => some v1)
theorem t_X11_weight {w : Wd} (hw : WOK w) (hN : wn w = NT) {σ : Mem} {x0 : Int32} : JO w mu_X11_weight vI σ [(0, .ref (adr w 306)), (1, .int x0)] [] 0 (f_X11_weight σ x0) (fun z => some (z, σ)) := by
  unfold f_X11_weight
  refine jo_aload_n (pc := 0) 0 rfl dX11_weight_0 rfl ?_
  refine jo_getrE (pc := 1) ok_11_1 (ik_306 hw hN) rf_306_1 gw_1294 dX11_weight_1 ?_
  refine jo_iconst (pc := 4) dX11_weight_4 (ic_i_1) ?_
  refine jo_iload_n (pc := 5) 1 rfl dX11_weight_5 rfl ?_
  refine jo_iadd (pc := 6) dX11_weight_6 ?_
  refine jo_iald (pc := 7) (ik_307 hw hN) dX11_weight_7 (fun v1 => ?_)
  exact jo_ireturn (pc := 8) rfl rfl dX11_weight_8
theorem c_X11_weight {w : Wd} (hw : WOK w) (hN : wn w = NT) {σ : Mem} {x0 : Int32} : ∀ r, f_X11_weight σ x0 = some r → MC w mu_X11_weight (vI r) [.ref (adr w 306), .int x0] σ σ := mc_ofP ok_X11_weight rfl (Nat.le_of_ble_eq_true rfl) (t_X11_weight hw hN)
abbrev mu_X11_level : MD := (yX11_level, cX11_level, 1, some .int, 1)
theorem ok_X11_level : MOK mu_X11_level 0 := ⟨gw_1640, gw_171, (by decide +kernel : plainFor yX11_level = true), ⟨(by decide +kernel : yX11_level.cls ≠ "java/lang/invoke/MethodHandle"), (by decide +kernel : yX11_level.cls ≠ "java/lang/invoke/VarHandle"), (by decide +kernel : (parseMethodDescriptor yX11_level.desc).map (fun d => d.parameters.length) = some 0)⟩, Nat.le_of_ble_eq_true rfl⟩
noncomputable def f_X11_level (σ : Mem) : Option Int32 :=
  (f_X11_n σ).bind (fun (v1 : Int32) => (f_X11_weight σ (v1 - 1)).bind (fun (v2 : Int32) => some v2))
theorem t_X11_level {w : Wd} (hw : WOK w) (hN : wn w = NT) {σ : Mem} : JO w mu_X11_level vI σ [(0, .ref (adr w 306))] [] 0 (f_X11_level σ) (fun z => some (z, σ)) := by
  unfold f_X11_level
  refine jo_aload_n (pc := 0) 0 rfl dX11_level_0 rfl ?_
  refine jo_aload_n (pc := 1) 0 rfl dX11_level_1 rfl ?_
  refine jo_cV_I_p (pc := 2) (μ' := mu_X11_n) (fx := f_X11_n σ) (As := []) (c_X11_n hw hN) (ok_X11_n) (ltb rfl) (all3 gw_1441 gw_1443 gw_68) (ik_306 hw hN) (by decide) (q := (RX11, TX11, 39)) rfl rfl rfl rfl (Nat.le_of_ble_eq_true rfl) dX11_level_2 (fun v1 => ?_)
  refine jo_iconst (pc := 5) dX11_level_5 (ic_i_1) ?_
  refine jo_isub (pc := 6) dX11_level_6 ?_
  refine jo_cV_I_p (pc := 7) (μ' := mu_X11_weight) (fx := f_X11_weight σ (v1 - 1)) (As := [.int (v1 - 1)]) (c_X11_weight hw hN) (ok_X11_weight) (ltb rfl) (all3 gw_1446 gw_1448 gw_69) (ik_306 hw hN) (by decide) (q := (RX11, TX11, 39)) rfl rfl rfl rfl (Nat.le_of_ble_eq_true rfl) dX11_level_7 (fun v2 => ?_)
  exact jo_ireturn (pc := 10) rfl rfl dX11_level_10
theorem c_X11_level {w : Wd} (hw : WOK w) (hN : wn w = NT) {σ : Mem} : ∀ r, f_X11_level σ = some r → MC w mu_X11_level (vI r) [.ref (adr w 306)] σ σ := mc_ofP ok_X11_level rfl (Nat.le_of_ble_eq_true rfl) (t_X11_level hw hN)
abbrev mu_X11_tail : MD := (yX11_tail, cX11_tail, 4, some .int, 0)
theorem ok_X11_tail : MOK mu_X11_tail 3 := ⟨gw_1498, gw_171, (by decide +kernel : plainFor yX11_tail = true), ⟨(by decide +kernel : yX11_tail.cls ≠ "java/lang/invoke/MethodHandle"), (by decide +kernel : yX11_tail.cls ≠ "java/lang/invoke/VarHandle"), (by decide +kernel : (parseMethodDescriptor yX11_tail.desc).map (fun d => d.parameters.length) = some 3)⟩, Nat.le_of_ble_eq_true rfl⟩
noncomputable def f_X11_tail (σ : Mem) (x0 : Int32) (x1 : Int32) (x2 : Int32) : Option Int32 :=
  gI σ 307 (((7 + (36 * x0)) + (6 * x1)) + x2) (fun (v1 : Int32) => some v1)
theorem t_X11_tail {w : Wd} (hw : WOK w) (hN : wn w = NT) {σ : Mem} {x0 : Int32} {x1 : Int32} {x2 : Int32} : JO w mu_X11_tail vI σ [(0, .ref (adr w 306)), (1, .int x0), (2, .int x1), (3, .int x2)] [] 0 (f_X11_tail σ x0 x1 x2) (fun z => some (z, σ)) := by
  unfold f_X11_tail
  refine jo_aload_n (pc := 0) 0 rfl dX11_tail_0 rfl ?_
  refine jo_getrE (pc := 1) ok_11_1 (ik_306 hw hN) rf_306_1 gw_1294 dX11_tail_1 ?_
  refine jo_bipush (pc := 4) dX11_tail_4 (ic_b_7) ?_
  refine jo_bipush (pc := 6) dX11_tail_6 (ic_b_36) ?_
  refine jo_iload_n (pc := 8) 1 rfl dX11_tail_8 rfl ?_
  refine jo_imul (pc := 9) dX11_tail_9 ?_
  refine jo_iadd (pc := 10) dX11_tail_10 ?_
  refine jo_bipush (pc := 11) dX11_tail_11 (ic_b_6) ?_
  refine jo_iload_n (pc := 13) 2 rfl dX11_tail_13 rfl ?_
  refine jo_imul (pc := 14) dX11_tail_14 ?_
  refine jo_iadd (pc := 15) dX11_tail_15 ?_
  refine jo_iload_n (pc := 16) 3 rfl dX11_tail_16 rfl ?_
  refine jo_iadd (pc := 17) dX11_tail_17 ?_
  refine jo_iald (pc := 18) (ik_307 hw hN) dX11_tail_18 (fun v1 => ?_)
  exact jo_ireturn (pc := 19) rfl rfl dX11_tail_19
theorem c_X11_tail {w : Wd} (hw : WOK w) (hN : wn w = NT) {σ : Mem} {x0 : Int32} {x1 : Int32} {x2 : Int32} : ∀ r, f_X11_tail σ x0 x1 x2 = some r → MC w mu_X11_tail (vI r) [.ref (adr w 306), .int x0, .int x1, .int x2] σ σ := mc_ofP ok_X11_tail rfl (Nat.le_of_ble_eq_true rfl) (t_X11_tail hw hN)
abbrev mu_X11_ofRow : MD := (yX11_ofRow, cX11_ofRow, 3, some .int, 0)
theorem ok_X11_ofRow : MOK mu_X11_ofRow 2 := ⟨gw_1566, gw_171, (by decide +kernel : plainFor yX11_ofRow = true), ⟨(by decide +kernel : yX11_ofRow.cls ≠ "java/lang/invoke/MethodHandle"), (by decide +kernel : yX11_ofRow.cls ≠ "java/lang/invoke/VarHandle"), (by decide +kernel : (parseMethodDescriptor yX11_ofRow.desc).map (fun d => d.parameters.length) = some 2)⟩, Nat.le_of_ble_eq_true rfl⟩
noncomputable def f_X11_ofRow (σ : Mem) (x0 : Int32) (x1 : Int32) : Option Int32 :=
  gI σ 307 ((223 + (6 * x0)) + x1) (fun (v1 : Int32) => some v1)
theorem t_X11_ofRow {w : Wd} (hw : WOK w) (hN : wn w = NT) {σ : Mem} {x0 : Int32} {x1 : Int32} : JO w mu_X11_ofRow vI σ [(0, .ref (adr w 306)), (1, .int x0), (2, .int x1)] [] 0 (f_X11_ofRow σ x0 x1) (fun z => some (z, σ)) := by
  unfold f_X11_ofRow
  refine jo_aload_n (pc := 0) 0 rfl dX11_ofRow_0 rfl ?_
  refine jo_getrE (pc := 1) ok_11_1 (ik_306 hw hN) rf_306_1 gw_1294 dX11_ofRow_1 ?_
  refine jo_sipush (pc := 4) dX11_ofRow_4 (ic_s_223) ?_
  refine jo_bipush (pc := 7) dX11_ofRow_7 (ic_b_6) ?_
  refine jo_iload_n (pc := 9) 1 rfl dX11_ofRow_9 rfl ?_
  refine jo_imul (pc := 10) dX11_ofRow_10 ?_
  refine jo_iadd (pc := 11) dX11_ofRow_11 ?_
  refine jo_iload_n (pc := 12) 2 rfl dX11_ofRow_12 rfl ?_
  refine jo_iadd (pc := 13) dX11_ofRow_13 ?_
  refine jo_iald (pc := 14) (ik_307 hw hN) dX11_ofRow_14 (fun v1 => ?_)
  exact jo_ireturn (pc := 15) rfl rfl dX11_ofRow_15
theorem c_X11_ofRow {w : Wd} (hw : WOK w) (hN : wn w = NT) {σ : Mem} {x0 : Int32} {x1 : Int32} : ∀ r, f_X11_ofRow σ x0 x1 = some r → MC w mu_X11_ofRow (vI r) [.ref (adr w 306), .int x0, .int x1] σ σ := mc_ofP ok_X11_ofRow rfl (Nat.le_of_ble_eq_true rfl) (t_X11_ofRow hw hN)
abbrev mu_X11_keepsAct : MD := (yX11_keepsAct, cX11_keepsAct, 2, none, 0)
theorem ok_X11_keepsAct : MOK mu_X11_keepsAct 0 := ⟨gw_1432, gw_171, (by decide +kernel : plainFor yX11_keepsAct = true), ⟨(by decide +kernel : yX11_keepsAct.cls ≠ "java/lang/invoke/MethodHandle"), (by decide +kernel : yX11_keepsAct.cls ≠ "java/lang/invoke/VarHandle"), (by decide +kernel : (parseMethodDescriptor yX11_keepsAct.desc).map (fun d => d.parameters.length) = some 0)⟩, Nat.le_of_ble_eq_true rfl⟩
noncomputable def j_X11_keepsAct_82 (σ3 : Mem) : Option Mem :=
  gF σ3 306 3 (fun (v4 : Int32) => pF σ3 306 3 (v4 + 1) (fun (σ5 : Mem) => some σ5))
noncomputable def l_X11_keepsAct_48 (σ6 : Mem) (i7 : Int32) : Option ((Mem × Int32) ⊕ Mem) :=
  if 283 ≤ i7 then (some (Sum.inr σ6)) else (gF σ6 306 3 (fun (v8 : Int32) => gI σ6 307 i7 (fun (v9 : Int32) => pI σ6 308 ((v8 * 283) + i7) v9 (fun (σ10 : Mem) => some (Sum.inl (σ10, i7 + 1))))))
noncomputable def j_X11_keepsAct_46 (σ2 : Mem) : Option Mem :=
  (loopO (fun (z7 : (Mem × Int32)) => l_X11_keepsAct_48 z7.1 z7.2) (σ2, 0) : Option Mem).bind (fun (z3 : Mem) => j_X11_keepsAct_82 z3)
noncomputable def j_X11_keepsAct_40 (σ11 : Mem) : Option Mem :=
  pF σ11 306 3 7 (fun (σ12 : Mem) => some σ12)
noncomputable def l_X11_keepsAct_11 (σ13 : Mem) (i14 : Int32) : Option ((Mem × Int32) ⊕ Mem) :=
  if 1981 ≤ i14 then (some (Sum.inr σ13)) else (gI σ13 308 (i14 + 283) (fun (v15 : Int32) => pI σ13 308 i14 v15 (fun (σ16 : Mem) => some (Sum.inl (σ16, i14 + 1)))))
noncomputable def f_X11_keepsAct (σ : Mem) : Option Mem :=
  gF σ 306 3 (fun (v1 : Int32) => (if v1 = 8 then ((loopO (fun (z14 : (Mem × Int32)) => l_X11_keepsAct_11 z14.1 z14.2) (σ, 0) : Option Mem).bind (fun (z11 : Mem) => j_X11_keepsAct_40 z11)) else (some σ) : Option Mem).bind (fun (z2 : Mem) => j_X11_keepsAct_46 z2))
theorem t_X11_keepsAct {w : Wd} (hw : WOK w) (hN : wn w = NT) {σ : Mem} : JO w mu_X11_keepsAct vV σ [(0, .ref (adr w 306))] [] 0 (f_X11_keepsAct σ) (fun z => some ((), z)) := by
  unfold f_X11_keepsAct
  refine jo_aload_n (pc := 0) 0 rfl dX11_keepsAct_0 rfl ?_
  refine jo_getf (pc := 1) ok_11_3 (ik_306 hw hN) gw_1296 dX11_keepsAct_1 (fun v1 => ?_)
  refine jo_bipush (pc := 4) dX11_keepsAct_4 (ic_b_8) ?_
  refine jo_join1 (S := Mem) (fun (z2 : Mem) => z2) (fun (z2 : Mem) => [(0, .ref (adr w 306))]) (fun (z2 : Mem) => []) 46 ?_ (fun h46_2 => ?_)
  · intro σ2
    show JO w mu_X11_keepsAct vV σ2 [(0, .ref (adr w 306))] [] 46 (j_X11_keepsAct_46 σ2) _
    unfold j_X11_keepsAct_46
    refine jo_iconst (pc := 46) dX11_keepsAct_46 (ic_i_0) ?_
    refine jo_istore_n (pc := 47) (lv' := [(1, .int 0), (0, .ref (adr w 306))]) dX11_keepsAct_47 rfl (ltb rfl) rfl ?_
    refine jo_join1 (S := Mem) (fun (z3 : Mem) => z3) (fun (z3 : Mem) => [(0, .ref (adr w 306))]) (fun (z3 : Mem) => []) 82 ?_ (fun h82_3 => ?_)
    · intro σ3
      show JO w mu_X11_keepsAct vV σ3 [(0, .ref (adr w 306))] [] 82 (j_X11_keepsAct_82 σ3) _
      unfold j_X11_keepsAct_82
      refine jo_aload_n (pc := 82) 0 rfl dX11_keepsAct_82 rfl ?_
      refine jo_aload_n (pc := 83) 0 rfl dX11_keepsAct_83 rfl ?_
      refine jo_getf (pc := 84) ok_11_3 (ik_306 hw hN) gw_1296 dX11_keepsAct_84 (fun v4 => ?_)
      refine jo_iconst (pc := 87) dX11_keepsAct_87 (ic_i_1) ?_
      refine jo_iadd (pc := 88) dX11_keepsAct_88 ?_
      refine jo_putf (pc := 89) ok_11_3 okp_11_3 (ik_306 hw hN) gw_1296 dX11_keepsAct_89 (fun σ5 => ?_)
      exact jo_return (pc := 92) rfl rfl dX11_keepsAct_92
    · refine jo_lv (lv' := [(0, .ref (adr w 306)), (1, .int 0)]) [1, 0] rfl ?_
      refine jo_loop (X := Mem) (fun (z7 : (Mem × Int32)) => z7.1) (fun (z7 : (Mem × Int32)) => [(0, .ref (adr w 306)), (1, .int z7.2)]) (body := (fun (z7 : (Mem × Int32)) => l_X11_keepsAct_48 z7.1 z7.2)) (fun F48_7 hF48_7 s => ?_) (σ2, 0)
      obtain ⟨σ6, i7⟩ := s
      show JO w mu_X11_keepsAct vV σ6 [(0, .ref (adr w 306)), (1, .int i7)] [] 48 (l_X11_keepsAct_48 σ6 i7) _
      unfold l_X11_keepsAct_48
      refine jo_iload_n (pc := 48) 1 rfl dX11_keepsAct_48 rfl ?_
      refine jo_sipush (pc := 49) dX11_keepsAct_49 (ic_s_283) ?_
      refine jo_icmp_ge (pc := 52) dX11_keepsAct_52 (tgt := 82) rfl ?_ ?_
      · refine jo_lv (lv' := [(0, .ref (adr w 306))]) [0] rfl ?_
        exact jo_leaf (by rfl) (h82_3 σ6)
      · refine jo_aload_n (pc := 55) 0 rfl dX11_keepsAct_55 rfl ?_
        refine jo_getrE (pc := 56) ok_11_2 (ik_306 hw hN) rf_306_2 gw_1295 dX11_keepsAct_56 ?_
        refine jo_aload_n (pc := 59) 0 rfl dX11_keepsAct_59 rfl ?_
        refine jo_getf (pc := 60) ok_11_3 (ik_306 hw hN) gw_1296 dX11_keepsAct_60 (fun v8 => ?_)
        refine jo_sipush (pc := 63) dX11_keepsAct_63 (ic_s_283) ?_
        refine jo_imul (pc := 66) dX11_keepsAct_66 ?_
        refine jo_iload_n (pc := 67) 1 rfl dX11_keepsAct_67 rfl ?_
        refine jo_iadd (pc := 68) dX11_keepsAct_68 ?_
        refine jo_aload_n (pc := 69) 0 rfl dX11_keepsAct_69 rfl ?_
        refine jo_getrE (pc := 70) ok_11_1 (ik_306 hw hN) rf_306_1 gw_1294 dX11_keepsAct_70 ?_
        refine jo_iload_n (pc := 73) 1 rfl dX11_keepsAct_73 rfl ?_
        refine jo_iald (pc := 74) (ik_307 hw hN) dX11_keepsAct_74 (fun v9 => ?_)
        refine jo_iast (pc := 75) (ik_308 hw hN) dX11_keepsAct_75 (fun σ10 => ?_)
        refine jo_iinc (pc := 76) (lv' := [(1, .int (i7 + 1)), (0, .ref (adr w 306))]) 1 rfl dX11_keepsAct_76 (congrArg (fun z => i7 + z) (ic_i_1)) (ltb rfl) rfl ?_
        refine jo_goto (pc := 79) dX11_keepsAct_79 (tgt := 48) rfl ?_
        refine jo_lv (lv' := [(0, .ref (adr w 306)), (1, .int (i7 + 1))]) [1, 0] rfl ?_
        exact jo_leaf (by rfl) (hF48_7 (σ10, i7 + 1))
  · refine jo_icmp_ne (pc := 6) dX11_keepsAct_6 (tgt := 46) rfl ?_ ?_
    · exact jo_leaf (by rfl) (h46_2 σ)
    · refine jo_iconst (pc := 9) dX11_keepsAct_9 (ic_i_0) ?_
      refine jo_istore_n (pc := 10) (lv' := [(1, .int 0), (0, .ref (adr w 306))]) dX11_keepsAct_10 rfl (ltb rfl) rfl ?_
      refine jo_join1 (S := Mem) (fun (z11 : Mem) => z11) (fun (z11 : Mem) => [(0, .ref (adr w 306))]) (fun (z11 : Mem) => []) 40 ?_ (fun h40_11 => ?_)
      · intro σ11
        show JO w mu_X11_keepsAct vV σ11 [(0, .ref (adr w 306))] [] 40 (j_X11_keepsAct_40 σ11) _
        unfold j_X11_keepsAct_40
        refine jo_aload_n (pc := 40) 0 rfl dX11_keepsAct_40 rfl ?_
        refine jo_bipush (pc := 41) dX11_keepsAct_41 (ic_b_7) ?_
        refine jo_putf (pc := 43) ok_11_3 okp_11_3 (ik_306 hw hN) gw_1296 dX11_keepsAct_43 (fun σ12 => ?_)
        exact jo_leaf (by rfl) (h46_2 σ12)
      · refine jo_lv (lv' := [(0, .ref (adr w 306)), (1, .int 0)]) [1, 0] rfl ?_
        refine jo_loop (X := Mem) (fun (z14 : (Mem × Int32)) => z14.1) (fun (z14 : (Mem × Int32)) => [(0, .ref (adr w 306)), (1, .int z14.2)]) (body := (fun (z14 : (Mem × Int32)) => l_X11_keepsAct_11 z14.1 z14.2)) (fun F11_14 hF11_14 s => ?_) (σ, 0)
        obtain ⟨σ13, i14⟩ := s
        show JO w mu_X11_keepsAct vV σ13 [(0, .ref (adr w 306)), (1, .int i14)] [] 11 (l_X11_keepsAct_11 σ13 i14) _
        unfold l_X11_keepsAct_11
        refine jo_iload_n (pc := 11) 1 rfl dX11_keepsAct_11 rfl ?_
        refine jo_sipush (pc := 12) dX11_keepsAct_12 (ic_s_1981) ?_
        refine jo_icmp_ge (pc := 15) dX11_keepsAct_15 (tgt := 40) rfl ?_ ?_
        · refine jo_lv (lv' := [(0, .ref (adr w 306))]) [0] rfl ?_
          exact jo_leaf (by rfl) (h40_11 σ13)
        · refine jo_aload_n (pc := 18) 0 rfl dX11_keepsAct_18 rfl ?_
          refine jo_getrE (pc := 19) ok_11_2 (ik_306 hw hN) rf_306_2 gw_1295 dX11_keepsAct_19 ?_
          refine jo_iload_n (pc := 22) 1 rfl dX11_keepsAct_22 rfl ?_
          refine jo_aload_n (pc := 23) 0 rfl dX11_keepsAct_23 rfl ?_
          refine jo_getrE (pc := 24) ok_11_2 (ik_306 hw hN) rf_306_2 gw_1295 dX11_keepsAct_24 ?_
          refine jo_iload_n (pc := 27) 1 rfl dX11_keepsAct_27 rfl ?_
          refine jo_sipush (pc := 28) dX11_keepsAct_28 (ic_s_283) ?_
          refine jo_iadd (pc := 31) dX11_keepsAct_31 ?_
          refine jo_iald (pc := 32) (ik_308 hw hN) dX11_keepsAct_32 (fun v15 => ?_)
          refine jo_iast (pc := 33) (ik_308 hw hN) dX11_keepsAct_33 (fun σ16 => ?_)
          refine jo_iinc (pc := 34) (lv' := [(1, .int (i14 + 1)), (0, .ref (adr w 306))]) 1 rfl dX11_keepsAct_34 (congrArg (fun z => i14 + z) (ic_i_1)) (ltb rfl) rfl ?_
          refine jo_goto (pc := 37) dX11_keepsAct_37 (tgt := 11) rfl ?_
          refine jo_lv (lv' := [(0, .ref (adr w 306)), (1, .int (i14 + 1))]) [1, 0] rfl ?_
          exact jo_leaf (by rfl) (hF11_14 (σ16, i14 + 1))
theorem c_X11_keepsAct {w : Wd} (hw : WOK w) (hN : wn w = NT) {σ : Mem} : ∀ σ', f_X11_keepsAct σ = some σ' → MC w mu_X11_keepsAct none [.ref (adr w 306)] σ σ' := mc_ofV ok_X11_keepsAct rfl (Nat.le_of_ble_eq_true rfl) (t_X11_keepsAct hw hN)
abbrev mu_X11_undo : MD := (yX11_undo, cX11_undo, 2, some .int, 0)
theorem ok_X11_undo : MOK mu_X11_undo 0 := ⟨gw_1414, gw_171, (by decide +kernel : plainFor yX11_undo = true), ⟨(by decide +kernel : yX11_undo.cls ≠ "java/lang/invoke/MethodHandle"), (by decide +kernel : yX11_undo.cls ≠ "java/lang/invoke/VarHandle"), (by decide +kernel : (parseMethodDescriptor yX11_undo.desc).map (fun d => d.parameters.length) = some 0)⟩, Nat.le_of_ble_eq_true rfl⟩
noncomputable def j_X11_undo_60 (σ5 : Mem) : Option (Int32 × Mem) :=
  pF σ5 306 9 0 (fun (σ6 : Mem) => gF σ6 306 3 (fun (v7 : Int32) => some (v7, σ6)))
noncomputable def l_X11_undo_26 (σ8 : Mem) (i9 : Int32) : Option ((Mem × Int32) ⊕ Mem) :=
  if 283 ≤ i9 then (some (Sum.inr σ8)) else (gF σ8 306 3 (fun (v10 : Int32) => gI σ8 308 ((v10 * 283) + i9) (fun (v11 : Int32) => pI σ8 307 i9 v11 (fun (σ12 : Mem) => some (Sum.inl (σ12, i9 + 1))))))
noncomputable def f_X11_undo (σ : Mem) : Option (Int32 × Mem) :=
  pF σ 306 0 0 (fun (σ1 : Mem) => gF σ1 306 3 (fun (v2 : Int32) => if v2 = 0 then (some ((-1), σ1)) else (gF σ1 306 3 (fun (v3 : Int32) => pF σ1 306 3 (v3 - 1) (fun (σ4 : Mem) => (loopO (fun (z9 : (Mem × Int32)) => l_X11_undo_26 z9.1 z9.2) (σ4, 0) : Option Mem).bind (fun (z5 : Mem) => j_X11_undo_60 z5))))))
theorem t_X11_undo {w : Wd} (hw : WOK w) (hN : wn w = NT) {σ : Mem} : JO w mu_X11_undo vI σ [(0, .ref (adr w 306))] [] 0 (f_X11_undo σ) some := by
  unfold f_X11_undo
  refine jo_aload_n (pc := 0) 0 rfl dX11_undo_0 rfl ?_
  refine jo_iconst (pc := 1) dX11_undo_1 (ic_i_0) ?_
  refine jo_putf (pc := 2) ok_11_0 okp_11_0 (ik_306 hw hN) gw_1293 dX11_undo_2 (fun σ1 => ?_)
  refine jo_aload_n (pc := 5) 0 rfl dX11_undo_5 rfl ?_
  refine jo_getf (pc := 6) ok_11_3 (ik_306 hw hN) gw_1296 dX11_undo_6 (fun v2 => ?_)
  refine jo_if_ne (pc := 9) dX11_undo_9 (tgt := 14) rfl ?_ ?_
  · refine jo_aload_n (pc := 14) 0 rfl dX11_undo_14 rfl ?_
    refine jo_aload_n (pc := 15) 0 rfl dX11_undo_15 rfl ?_
    refine jo_getf (pc := 16) ok_11_3 (ik_306 hw hN) gw_1296 dX11_undo_16 (fun v3 => ?_)
    refine jo_iconst (pc := 19) dX11_undo_19 (ic_i_1) ?_
    refine jo_isub (pc := 20) dX11_undo_20 ?_
    refine jo_putf (pc := 21) ok_11_3 okp_11_3 (ik_306 hw hN) gw_1296 dX11_undo_21 (fun σ4 => ?_)
    refine jo_iconst (pc := 24) dX11_undo_24 (ic_i_0) ?_
    refine jo_istore_n (pc := 25) (lv' := [(1, .int 0), (0, .ref (adr w 306))]) dX11_undo_25 rfl (ltb rfl) rfl ?_
    refine jo_join1 (S := Mem) (fun (z5 : Mem) => z5) (fun (z5 : Mem) => [(0, .ref (adr w 306))]) (fun (z5 : Mem) => []) 60 ?_ (fun h60_5 => ?_)
    · intro σ5
      show JO w mu_X11_undo vI σ5 [(0, .ref (adr w 306))] [] 60 (j_X11_undo_60 σ5) _
      unfold j_X11_undo_60
      refine jo_aload_n (pc := 60) 0 rfl dX11_undo_60 rfl ?_
      refine jo_iconst (pc := 61) dX11_undo_61 (ic_i_0) ?_
      refine jo_putz01 (pc := 62) (by decide) ok_11_9 okp_11_9 (ik_306 hw hN) gw_1302 dX11_undo_62 (fun σ6 => ?_)
      refine jo_aload_n (pc := 65) 0 rfl dX11_undo_65 rfl ?_
      refine jo_getf (pc := 66) ok_11_3 (ik_306 hw hN) gw_1296 dX11_undo_66 (fun v7 => ?_)
      exact jo_ireturn (pc := 69) rfl rfl dX11_undo_69
    · refine jo_lv (lv' := [(0, .ref (adr w 306)), (1, .int 0)]) [1, 0] rfl ?_
      refine jo_loop (X := Mem) (fun (z9 : (Mem × Int32)) => z9.1) (fun (z9 : (Mem × Int32)) => [(0, .ref (adr w 306)), (1, .int z9.2)]) (body := (fun (z9 : (Mem × Int32)) => l_X11_undo_26 z9.1 z9.2)) (fun F26_9 hF26_9 s => ?_) (σ4, 0)
      obtain ⟨σ8, i9⟩ := s
      show JO w mu_X11_undo vI σ8 [(0, .ref (adr w 306)), (1, .int i9)] [] 26 (l_X11_undo_26 σ8 i9) _
      unfold l_X11_undo_26
      refine jo_iload_n (pc := 26) 1 rfl dX11_undo_26 rfl ?_
      refine jo_sipush (pc := 27) dX11_undo_27 (ic_s_283) ?_
      refine jo_icmp_ge (pc := 30) dX11_undo_30 (tgt := 60) rfl ?_ ?_
      · refine jo_lv (lv' := [(0, .ref (adr w 306))]) [0] rfl ?_
        exact jo_leaf (by rfl) (h60_5 σ8)
      · refine jo_aload_n (pc := 33) 0 rfl dX11_undo_33 rfl ?_
        refine jo_getrE (pc := 34) ok_11_1 (ik_306 hw hN) rf_306_1 gw_1294 dX11_undo_34 ?_
        refine jo_iload_n (pc := 37) 1 rfl dX11_undo_37 rfl ?_
        refine jo_aload_n (pc := 38) 0 rfl dX11_undo_38 rfl ?_
        refine jo_getrE (pc := 39) ok_11_2 (ik_306 hw hN) rf_306_2 gw_1295 dX11_undo_39 ?_
        refine jo_aload_n (pc := 42) 0 rfl dX11_undo_42 rfl ?_
        refine jo_getf (pc := 43) ok_11_3 (ik_306 hw hN) gw_1296 dX11_undo_43 (fun v10 => ?_)
        refine jo_sipush (pc := 46) dX11_undo_46 (ic_s_283) ?_
        refine jo_imul (pc := 49) dX11_undo_49 ?_
        refine jo_iload_n (pc := 50) 1 rfl dX11_undo_50 rfl ?_
        refine jo_iadd (pc := 51) dX11_undo_51 ?_
        refine jo_iald (pc := 52) (ik_308 hw hN) dX11_undo_52 (fun v11 => ?_)
        refine jo_iast (pc := 53) (ik_307 hw hN) dX11_undo_53 (fun σ12 => ?_)
        refine jo_iinc (pc := 54) (lv' := [(1, .int (i9 + 1)), (0, .ref (adr w 306))]) 1 rfl dX11_undo_54 (congrArg (fun z => i9 + z) (ic_i_1)) (ltb rfl) rfl ?_
        refine jo_goto (pc := 57) dX11_undo_57 (tgt := 26) rfl ?_
        refine jo_lv (lv' := [(0, .ref (adr w 306)), (1, .int (i9 + 1))]) [1, 0] rfl ?_
        exact jo_leaf (by rfl) (hF26_9 (σ12, i9 + 1))
  · refine jo_iconst (pc := 12) dX11_undo_12 (ic_i_m1) ?_
    exact jo_ireturn (pc := 13) rfl rfl dX11_undo_13
theorem c_X11_undo {w : Wd} (hw : WOK w) (hN : wn w = NT) {σ : Mem} : ∀ r σ', f_X11_undo σ = some (r, σ') → MC w mu_X11_undo (vI r) [.ref (adr w 306)] σ σ' := mc_of ok_X11_undo rfl (Nat.le_of_ble_eq_true rfl) (t_X11_undo hw hN)
abbrev mu_X11_areWeights : MD := (yX11_areWeights, cX11_areWeights, 6, some .boolean, 1)
theorem ok_X11_areWeights : MOK mu_X11_areWeights 2 := ⟨gw_1427, gw_171, (by decide +kernel : plainFor yX11_areWeights = true), ⟨(by decide +kernel : yX11_areWeights.cls ≠ "java/lang/invoke/MethodHandle"), (by decide +kernel : yX11_areWeights.cls ≠ "java/lang/invoke/VarHandle"), (by decide +kernel : (parseMethodDescriptor yX11_areWeights.desc).map (fun d => d.parameters.length) = some 2)⟩, Nat.le_of_ble_eq_true rfl⟩
noncomputable def j_X11_areWeights_49  : Option Bool :=
  some false
noncomputable def j_X11_areWeights_59 (i3 : Int32) (v4 : Int32) : Option ((Int32 × Int32) ⊕ (Unit ⊕ Bool)) :=
  some (Sum.inl (v4, i3 + 1))
noncomputable def l_X11_areWeights_20 (x0 : Int32) (x1 : Int32) (i2 : Int32) (i3 : Int32) : Option ((Int32 × Int32) ⊕ (Unit ⊕ Bool)) :=
  if 6 ≤ i3 then (some (Sum.inr (Sum.inr true))) else (bd ((x1 >>> ((2 * i3) &&& 31)) &&& 3) (fun (v4 : Int32) => (if x0 ≤ i3 then (if v4 ≤ 0 then (some (Sum.inl ())) else (some (Sum.inr (Sum.inr (Sum.inr false))))) else (if i2 ≤ v4 then (some (Sum.inl ())) else (some (Sum.inr (Sum.inr (Sum.inl ()))))) : Option (Unit ⊕ ((Int32 × Int32) ⊕ (Unit ⊕ Bool)))).bind (Sum.elim (fun (z4 : Unit) => j_X11_areWeights_59 i3 v4) some)))
noncomputable def f_X11_areWeights (σ : Mem) (x0 : Int32) (x1 : Int32) : Option Bool :=
  (f_X11_isIn σ (Int32.toInt64 x1) 0 4095).bind (fun (b1 : Bool) => if b1 then (loopO (fun (z3 : (Int32 × Int32)) => l_X11_areWeights_20 x0 x1 z3.1 z3.2) (1, 0) : Option (Unit ⊕ Bool)).bind (Sum.elim (fun (z1 : Unit) => j_X11_areWeights_49) some) else some false)
theorem t_X11_areWeights {w : Wd} (hw : WOK w) (hN : wn w = NT) {σ : Mem} {x0 : Int32} {x1 : Int32} : JO w mu_X11_areWeights vB σ [(0, .ref (adr w 306)), (1, .int x0), (2, .int x1)] [] 0 (f_X11_areWeights σ x0 x1) (fun z => some (z, σ)) := by
  unfold f_X11_areWeights
  refine jo_aload_n (pc := 0) 0 rfl dX11_areWeights_0 rfl ?_
  refine jo_iload_n (pc := 1) 2 rfl dX11_areWeights_1 rfl ?_
  refine jo_i2l (pc := 2) dX11_areWeights_2 ?_
  refine jo_lconst (pc := 3) dX11_areWeights_3 (ic_l_0) ?_
  refine jo_ldc2 (pc := 4) dX11_areWeights_4 gw_1428 ?_
  refine jo_cV_Z_p (pc := 7) (μ' := mu_X11_isIn) (fx := f_X11_isIn σ (Int32.toInt64 x1) 0 4095) (As := [.long (Int32.toInt64 x1), .long 0, .long 4095]) (c_X11_isIn hw hN) (ok_X11_isIn) (ltb rfl) (all3 gw_1420 gw_1422 gw_64) (ik_306 hw hN) (by decide) (q := (RX11, TX11, 39)) rfl rfl rfl rfl (Nat.le_of_ble_eq_true rfl) dX11_areWeights_7 (fun b1 => ?_)
  refine jo_ifz_ne (pc := 10) dX11_areWeights_10 (tgt := 15) rfl ?_ ?_
  · refine jo_iconst (pc := 15) dX11_areWeights_15 (ic_i_1) ?_
    refine jo_istore_n (pc := 16) (lv' := [(3, .int 1), (0, .ref (adr w 306)), (1, .int x0), (2, .int x1)]) dX11_areWeights_16 rfl (ltb rfl) rfl ?_
    refine jo_iconst (pc := 17) dX11_areWeights_17 (ic_i_0) ?_
    refine jo_istore (pc := 18) (lv' := [(4, .int 0), (3, .int 1), (0, .ref (adr w 306)), (1, .int x0), (2, .int x1)]) dX11_areWeights_18 (ltb rfl) rfl ?_
    refine jo_joinS (S := Unit) (fun (z1 : Unit) => σ) (fun (z1 : Unit) => []) (fun (z1 : Unit) => []) 49 ?_ (fun h49_1 => ?_)
    · intro _
      show JO w mu_X11_areWeights vB σ [] [] 49 (j_X11_areWeights_49) _
      unfold j_X11_areWeights_49
      refine jo_goto (pc := 49) dX11_areWeights_49 (tgt := 57) rfl ?_
      refine jo_iconst (pc := 57) dX11_areWeights_57 (ic_i_0) ?_
      exact jo_breturn (pc := 58) (b := false) rfl rfl dX11_areWeights_58
    · refine jo_lv (lv' := [(1, .int x0), (2, .int x1), (3, .int 1), (4, .int 0)]) [3, 4, 1, 0] rfl ?_
      refine jo_loop (X := Unit ⊕ Bool) (fun (z3 : (Int32 × Int32)) => σ) (fun (z3 : (Int32 × Int32)) => [(1, .int x0), (2, .int x1), (3, .int z3.1), (4, .int z3.2)]) (body := (fun (z3 : (Int32 × Int32)) => l_X11_areWeights_20 x0 x1 z3.1 z3.2)) (fun F20_3 hF20_3 s => ?_) (1, 0)
      obtain ⟨i2, i3⟩ := s
      show JO w mu_X11_areWeights vB σ [(1, .int x0), (2, .int x1), (3, .int i2), (4, .int i3)] [] 20 (l_X11_areWeights_20 x0 x1 i2 i3) _
      unfold l_X11_areWeights_20
      refine jo_iload (pc := 20) 3 rfl dX11_areWeights_20 ?_
      refine jo_bipush (pc := 22) dX11_areWeights_22 (ic_b_6) ?_
      refine jo_icmp_ge (pc := 24) dX11_areWeights_24 (tgt := 68) rfl ?_ ?_
      · refine jo_iconst (pc := 68) dX11_areWeights_68 (ic_i_1) ?_
        exact jo_breturn (pc := 69) (b := true) rfl rfl dX11_areWeights_69
      · refine jo_iload_n (pc := 27) 1 rfl dX11_areWeights_27 rfl ?_
        refine jo_iconst (pc := 28) dX11_areWeights_28 (ic_i_2) ?_
        refine jo_iload (pc := 29) 3 rfl dX11_areWeights_29 ?_
        refine jo_imul (pc := 31) dX11_areWeights_31 ?_
        refine jo_ishr (pc := 32) dX11_areWeights_32 ?_
        refine jo_iconst (pc := 33) dX11_areWeights_33 (ic_i_3) ?_
        refine jo_iand (pc := 34) dX11_areWeights_34 ?_
        refine jo_bd ?_
        refine jo_istore (pc := 35) (lv' := [(5, .int ((x1 >>> ((2 * i3) &&& 31)) &&& 3)), (1, .int x0), (2, .int x1), (3, .int i2), (4, .int i3)]) dX11_areWeights_35 (ltb rfl) rfl ?_
        generalize ((x1 >>> ((2 * i3) &&& 31)) &&& 3) = v4
        refine jo_iload (pc := 37) 4 rfl dX11_areWeights_37 ?_
        refine jo_iload_n (pc := 39) 1 rfl dX11_areWeights_39 rfl ?_
        refine jo_joinS (S := Unit) (fun (z4 : Unit) => σ) (fun (z4 : Unit) => [(5, .int v4), (1, .int x0), (2, .int x1), (4, .int i3)]) (fun (z4 : Unit) => []) 59 ?_ (fun h59_4 => ?_)
        · intro _
          show JO w mu_X11_areWeights vB σ [(5, .int v4), (1, .int x0), (2, .int x1), (4, .int i3)] [] 59 (j_X11_areWeights_59 i3 v4) _
          unfold j_X11_areWeights_59
          refine jo_iload (pc := 59) 0 rfl dX11_areWeights_59 ?_
          refine jo_istore_n (pc := 61) (lv' := [(3, .int v4), (5, .int v4), (1, .int x0), (2, .int x1), (4, .int i3)]) dX11_areWeights_61 rfl (ltb rfl) rfl ?_
          refine jo_iinc (pc := 62) (lv' := [(4, .int (i3 + 1)), (3, .int v4), (5, .int v4), (1, .int x0), (2, .int x1)]) 4 rfl dX11_areWeights_62 (congrArg (fun z => i3 + z) (ic_i_1)) (ltb rfl) rfl ?_
          refine jo_goto (pc := 65) dX11_areWeights_65 (tgt := 20) rfl ?_
          refine jo_lv (lv' := [(1, .int x0), (2, .int x1), (3, .int v4), (4, .int (i3 + 1))]) [3, 4, 1, 0] rfl ?_
          exact jo_leaf (by rfl) (hF20_3 (v4, i3 + 1))
        · refine jo_icmp_ge (pc := 40) dX11_areWeights_40 (tgt := 52) rfl ?_ ?_
          · refine jo_iload (pc := 52) 0 rfl dX11_areWeights_52 ?_
            refine jo_if_le (pc := 54) dX11_areWeights_54 (tgt := 59) rfl ?_ ?_
            · refine jo_lv (lv' := [(5, .int v4), (1, .int x0), (2, .int x1), (4, .int i3)]) [0, 1, 2, 4] rfl ?_
              exact jo_leaf (by rfl) (h59_4 ())
            · refine jo_iconst (pc := 57) dX11_areWeights_57 (ic_i_0) ?_
              exact jo_breturn (pc := 58) (b := false) rfl rfl dX11_areWeights_58
          · refine jo_iload (pc := 43) 0 rfl dX11_areWeights_43 ?_
            refine jo_iload_n (pc := 45) 3 rfl dX11_areWeights_45 rfl ?_
            refine jo_icmp_ge (pc := 46) dX11_areWeights_46 (tgt := 59) rfl ?_ ?_
            · refine jo_lv (lv' := [(5, .int v4), (1, .int x0), (2, .int x1), (4, .int i3)]) [0, 1, 2, 4] rfl ?_
              exact jo_leaf (by rfl) (h59_4 ())
            · refine jo_lv (lv' := []) [] rfl ?_
              exact jo_leaf (by rfl) (h49_1 ())
  · refine jo_iconst (pc := 13) dX11_areWeights_13 (ic_i_0) ?_
    exact jo_breturn (pc := 14) (b := false) rfl rfl dX11_areWeights_14
theorem c_X11_areWeights {w : Wd} (hw : WOK w) (hN : wn w = NT) {σ : Mem} {x0 : Int32} {x1 : Int32} : ∀ r, f_X11_areWeights σ x0 x1 = some r → MC w mu_X11_areWeights (vB r) [.ref (adr w 306), .int x0, .int x1] σ σ := mc_ofP ok_X11_areWeights rfl (Nat.le_of_ble_eq_true rfl) (t_X11_areWeights hw hN)
abbrev mu_X11_group : MD := (yX11_group, cX11_group, 4, some .boolean, 2)
theorem ok_X11_group : MOK mu_X11_group 2 := ⟨gw_1418, gw_171, (by decide +kernel : plainFor yX11_group = true), ⟨(by decide +kernel : yX11_group.cls ≠ "java/lang/invoke/MethodHandle"), (by decide +kernel : yX11_group.cls ≠ "java/lang/invoke/VarHandle"), (by decide +kernel : (parseMethodDescriptor yX11_group.desc).map (fun d => d.parameters.length) = some 2)⟩, Nat.le_of_ble_eq_true rfl⟩
noncomputable def l_X11_group_40 (x0 : Int32) (x1 : Int32) (σ6 : Mem) (i7 : Int32) : Option ((Mem × Int32) ⊕ (Bool × Mem)) :=
  if x0 ≤ i7 then (some (Sum.inr (true, σ6))) else (pI σ6 307 (1 + i7) ((x1 >>> ((2 * i7) &&& 31)) &&& 3) (fun (σ8 : Mem) => some (Sum.inl (σ8, i7 + 1))))
noncomputable def f_X11_group (σ : Mem) (x0 : Int32) (x1 : Int32) : Option (Bool × Mem) :=
  pF σ 306 0 0 (fun (σ1 : Mem) => (f_X11_isIn σ1 (Int32.toInt64 x0) 1 6).bind (fun (b2 : Bool) => if b2 then (f_X11_areWeights σ1 x0 x1).bind (fun (b3 : Bool) => if b3 then (f_X11_keepsAct σ1).bind (fun (σ4 : Mem) => (f_X11_clears σ4 x0).bind (fun (σ5 : Mem) => loopO (fun (z7 : (Mem × Int32)) => l_X11_group_40 x0 x1 z7.1 z7.2) (σ5, 0))) else some (false, σ1)) else some (false, σ1)))
theorem t_X11_group {w : Wd} (hw : WOK w) (hN : wn w = NT) {σ : Mem} {x0 : Int32} {x1 : Int32} : JO w mu_X11_group vB σ [(0, .ref (adr w 306)), (1, .int x0), (2, .int x1)] [] 0 (f_X11_group σ x0 x1) some := by
  unfold f_X11_group
  refine jo_aload_n (pc := 0) 0 rfl dX11_group_0 rfl ?_
  refine jo_iconst (pc := 1) dX11_group_1 (ic_i_0) ?_
  refine jo_putf (pc := 2) ok_11_0 okp_11_0 (ik_306 hw hN) gw_1293 dX11_group_2 (fun σ1 => ?_)
  refine jo_aload_n (pc := 5) 0 rfl dX11_group_5 rfl ?_
  refine jo_iload_n (pc := 6) 1 rfl dX11_group_6 rfl ?_
  refine jo_i2l (pc := 7) dX11_group_7 ?_
  refine jo_lconst (pc := 8) dX11_group_8 (ic_l_1) ?_
  refine jo_ldc2 (pc := 9) dX11_group_9 gw_1419 ?_
  refine jo_cV_Z_p (pc := 12) (μ' := mu_X11_isIn) (fx := f_X11_isIn σ1 (Int32.toInt64 x0) 1 6) (As := [.long (Int32.toInt64 x0), .long 1, .long 6]) (c_X11_isIn hw hN) (ok_X11_isIn) (ltb rfl) (all3 gw_1420 gw_1422 gw_64) (ik_306 hw hN) (by decide) (q := (RX11, TX11, 39)) rfl rfl rfl rfl (Nat.le_of_ble_eq_true rfl) dX11_group_12 (fun b2 => ?_)
  refine jo_ifz_eq (pc := 15) dX11_group_15 (tgt := 27) rfl ?_ ?_
  · refine jo_iconst (pc := 27) dX11_group_27 (ic_i_0) ?_
    exact jo_breturn (pc := 28) (b := false) rfl rfl dX11_group_28
  · refine jo_aload_n (pc := 18) 0 rfl dX11_group_18 rfl ?_
    refine jo_iload_n (pc := 19) 1 rfl dX11_group_19 rfl ?_
    refine jo_iload_n (pc := 20) 2 rfl dX11_group_20 rfl ?_
    refine jo_cV_Z_p (pc := 21) (μ' := mu_X11_areWeights) (fx := f_X11_areWeights σ1 x0 x1) (As := [.int x0, .int x1]) (c_X11_areWeights hw hN) (ok_X11_areWeights) (ltb rfl) (all3 gw_1424 gw_1426 gw_65) (ik_306 hw hN) (by decide) (q := (RX11, TX11, 39)) rfl rfl rfl rfl (Nat.le_of_ble_eq_true rfl) dX11_group_21 (fun b3 => ?_)
    refine jo_ifz_ne (pc := 24) dX11_group_24 (tgt := 29) rfl ?_ ?_
    · refine jo_aload_n (pc := 29) 0 rfl dX11_group_29 rfl ?_
      refine jo_cV_V_i (pc := 30) (μ' := mu_X11_keepsAct) (fx := f_X11_keepsAct σ1) (As := []) (c_X11_keepsAct hw hN) (ok_X11_keepsAct) (ltb rfl) (all3 gw_1429 gw_1431 gw_66) (ik_306 hw hN) (by decide) (q := (RX11, TX11, 39)) rfl rfl rfl rfl (Nat.le_of_ble_eq_true rfl) dX11_group_30 (fun σ4 => ?_)
      refine jo_aload_n (pc := 33) 0 rfl dX11_group_33 rfl ?_
      refine jo_iload_n (pc := 34) 1 rfl dX11_group_34 rfl ?_
      refine jo_cV_V_i (pc := 35) (μ' := mu_X11_clears) (fx := f_X11_clears σ4 x0) (As := [.int x0]) (c_X11_clears hw hN) (ok_X11_clears) (ltb rfl) (all3 gw_1285 gw_1287 gw_62) (ik_306 hw hN) (by decide) (q := (RX11, TX11, 39)) rfl rfl rfl rfl (Nat.le_of_ble_eq_true rfl) dX11_group_35 (fun σ5 => ?_)
      refine jo_iconst (pc := 38) dX11_group_38 (ic_i_0) ?_
      refine jo_istore_n (pc := 39) (lv' := [(3, .int 0), (0, .ref (adr w 306)), (1, .int x0), (2, .int x1)]) dX11_group_39 rfl (ltb rfl) rfl ?_
      refine jo_lv (lv' := [(0, .ref (adr w 306)), (1, .int x0), (2, .int x1), (3, .int 0)]) [1, 2, 3, 0] rfl ?_
      refine jo_loop (X := (Bool × Mem)) (fun (z7 : (Mem × Int32)) => z7.1) (fun (z7 : (Mem × Int32)) => [(0, .ref (adr w 306)), (1, .int x0), (2, .int x1), (3, .int z7.2)]) (body := (fun (z7 : (Mem × Int32)) => l_X11_group_40 x0 x1 z7.1 z7.2)) (fun F40_7 hF40_7 s => ?_) (σ5, 0)
      obtain ⟨σ6, i7⟩ := s
      show JO w mu_X11_group vB σ6 [(0, .ref (adr w 306)), (1, .int x0), (2, .int x1), (3, .int i7)] [] 40 (l_X11_group_40 x0 x1 σ6 i7) _
      unfold l_X11_group_40
      refine jo_iload_n (pc := 40) 3 rfl dX11_group_40 rfl ?_
      refine jo_iload_n (pc := 41) 1 rfl dX11_group_41 rfl ?_
      refine jo_icmp_ge (pc := 42) dX11_group_42 (tgt := 66) rfl ?_ ?_
      · refine jo_iconst (pc := 66) dX11_group_66 (ic_i_1) ?_
        exact jo_breturn (pc := 67) (b := true) rfl rfl dX11_group_67
      · refine jo_aload_n (pc := 45) 0 rfl dX11_group_45 rfl ?_
        refine jo_getrE (pc := 46) ok_11_1 (ik_306 hw hN) rf_306_1 gw_1294 dX11_group_46 ?_
        refine jo_iconst (pc := 49) dX11_group_49 (ic_i_1) ?_
        refine jo_iload_n (pc := 50) 3 rfl dX11_group_50 rfl ?_
        refine jo_iadd (pc := 51) dX11_group_51 ?_
        refine jo_iload_n (pc := 52) 2 rfl dX11_group_52 rfl ?_
        refine jo_iconst (pc := 53) dX11_group_53 (ic_i_2) ?_
        refine jo_iload_n (pc := 54) 3 rfl dX11_group_54 rfl ?_
        refine jo_imul (pc := 55) dX11_group_55 ?_
        refine jo_ishr (pc := 56) dX11_group_56 ?_
        refine jo_iconst (pc := 57) dX11_group_57 (ic_i_3) ?_
        refine jo_iand (pc := 58) dX11_group_58 ?_
        refine jo_iast (pc := 59) (ik_307 hw hN) dX11_group_59 (fun σ8 => ?_)
        refine jo_iinc (pc := 60) (lv' := [(3, .int (i7 + 1)), (0, .ref (adr w 306)), (1, .int x0), (2, .int x1)]) 3 rfl dX11_group_60 (congrArg (fun z => i7 + z) (ic_i_1)) (ltb rfl) rfl ?_
        refine jo_goto (pc := 63) dX11_group_63 (tgt := 40) rfl ?_
        refine jo_lv (lv' := [(0, .ref (adr w 306)), (1, .int x0), (2, .int x1), (3, .int (i7 + 1))]) [1, 2, 3, 0] rfl ?_
        exact jo_leaf (by rfl) (hF40_7 (σ8, i7 + 1))
    · refine jo_iconst (pc := 27) dX11_group_27 (ic_i_0) ?_
      exact jo_breturn (pc := 28) (b := false) rfl rfl dX11_group_28
theorem c_X11_group {w : Wd} (hw : WOK w) (hN : wn w = NT) {σ : Mem} {x0 : Int32} {x1 : Int32} : ∀ r σ', f_X11_group σ x0 x1 = some (r, σ') → MC w mu_X11_group (vB r) [.ref (adr w 306), .int x0, .int x1] σ σ' := mc_of ok_X11_group rfl (Nat.le_of_ble_eq_true rfl) (t_X11_group hw hN)
abbrev mu_X11_isTail : MD := (yX11_isTail, cX11_isTail, 4, some .boolean, 1)
theorem ok_X11_isTail : MOK mu_X11_isTail 3 := ⟨gw_1440, gw_171, (by decide +kernel : plainFor yX11_isTail = true), ⟨(by decide +kernel : yX11_isTail.cls ≠ "java/lang/invoke/MethodHandle"), (by decide +kernel : yX11_isTail.cls ≠ "java/lang/invoke/VarHandle"), (by decide +kernel : (parseMethodDescriptor yX11_isTail.desc).map (fun d => d.parameters.length) = some 3)⟩, Nat.le_of_ble_eq_true rfl⟩
noncomputable def j_X11_isTail_55  : Option Bool :=
  some false
noncomputable def f_X11_isTail (σ : Mem) (x0 : Int32) (x1 : Int32) (x2 : Int32) : Option Bool :=
  (f_X11_n σ).bind (fun (v1 : Int32) => (f_X11_isIn σ (Int32.toInt64 x1) 1 (Int32.toInt64 v1)).bind (fun (b2 : Bool) => (if b2 then (f_X11_n σ).bind (fun (v3 : Int32) => (f_X11_isIn σ (Int32.toInt64 x0) ((Int32.toInt64 x1) + 1) (Int32.toInt64 v3)).bind (fun (b4 : Bool) => if b4 then (f_X11_n σ).bind (fun (v5 : Int32) => (f_X11_isIn σ (Int32.toInt64 x2) ((Int32.toInt64 x0) + 1) (Int32.toInt64 v5)).bind (fun (b6 : Bool) => if b6 then some (Sum.inr true) else some (Sum.inl ()))) else some (Sum.inl ()))) else some (Sum.inl ()) : Option (Unit ⊕ Bool)).bind (Sum.elim (fun (z2 : Unit) => j_X11_isTail_55) some)))
theorem t_X11_isTail {w : Wd} (hw : WOK w) (hN : wn w = NT) {σ : Mem} {x0 : Int32} {x1 : Int32} {x2 : Int32} : JO w mu_X11_isTail vB σ [(0, .ref (adr w 306)), (1, .int x0), (2, .int x1), (3, .int x2)] [] 0 (f_X11_isTail σ x0 x1 x2) (fun z => some (z, σ)) := by
  unfold f_X11_isTail
  refine jo_aload_n (pc := 0) 0 rfl dX11_isTail_0 rfl ?_
  refine jo_iload_n (pc := 1) 2 rfl dX11_isTail_1 rfl ?_
  refine jo_i2l (pc := 2) dX11_isTail_2 ?_
  refine jo_lconst (pc := 3) dX11_isTail_3 (ic_l_1) ?_
  refine jo_aload_n (pc := 4) 0 rfl dX11_isTail_4 rfl ?_
  refine jo_cV_I_p (pc := 5) (μ' := mu_X11_n) (fx := f_X11_n σ) (As := []) (c_X11_n hw hN) (ok_X11_n) (ltb rfl) (all3 gw_1441 gw_1443 gw_68) (ik_306 hw hN) (by decide) (q := (RX11, TX11, 39)) rfl rfl rfl rfl (Nat.le_of_ble_eq_true rfl) dX11_isTail_5 (fun v1 => ?_)
  refine jo_i2l (pc := 8) dX11_isTail_8 ?_
  refine jo_cV_Z_p (pc := 9) (μ' := mu_X11_isIn) (fx := f_X11_isIn σ (Int32.toInt64 x1) 1 (Int32.toInt64 v1)) (As := [.long (Int32.toInt64 x1), .long 1, .long (Int32.toInt64 v1)]) (c_X11_isIn hw hN) (ok_X11_isIn) (ltb rfl) (all3 gw_1420 gw_1422 gw_64) (ik_306 hw hN) (by decide) (q := (RX11, TX11, 39)) rfl rfl rfl rfl (Nat.le_of_ble_eq_true rfl) dX11_isTail_9 (fun b2 => ?_)
  refine jo_joinS (S := Unit) (fun (z2 : Unit) => σ) (fun (z2 : Unit) => []) (fun (z2 : Unit) => []) 55 ?_ (fun h55_2 => ?_)
  · intro _
    show JO w mu_X11_isTail vB σ [] [] 55 (j_X11_isTail_55) _
    unfold j_X11_isTail_55
    refine jo_iconst (pc := 55) dX11_isTail_55 (ic_i_0) ?_
    exact jo_breturn (pc := 56) (b := false) rfl rfl dX11_isTail_56
  · refine jo_ifz_eq (pc := 12) dX11_isTail_12 (tgt := 55) rfl ?_ ?_
    · refine jo_lv (lv' := []) [] rfl ?_
      exact jo_leaf (by rfl) (h55_2 ())
    · refine jo_aload_n (pc := 15) 0 rfl dX11_isTail_15 rfl ?_
      refine jo_iload_n (pc := 16) 1 rfl dX11_isTail_16 rfl ?_
      refine jo_i2l (pc := 17) dX11_isTail_17 ?_
      refine jo_iload_n (pc := 18) 2 rfl dX11_isTail_18 rfl ?_
      refine jo_i2l (pc := 19) dX11_isTail_19 ?_
      refine jo_lconst (pc := 20) dX11_isTail_20 (ic_l_1) ?_
      refine jo_ladd (pc := 21) dX11_isTail_21 ?_
      refine jo_aload_n (pc := 22) 0 rfl dX11_isTail_22 rfl ?_
      refine jo_cV_I_p (pc := 23) (μ' := mu_X11_n) (fx := f_X11_n σ) (As := []) (c_X11_n hw hN) (ok_X11_n) (ltb rfl) (all3 gw_1441 gw_1443 gw_68) (ik_306 hw hN) (by decide) (q := (RX11, TX11, 39)) rfl rfl rfl rfl (Nat.le_of_ble_eq_true rfl) dX11_isTail_23 (fun v3 => ?_)
      refine jo_i2l (pc := 26) dX11_isTail_26 ?_
      refine jo_cV_Z_p (pc := 27) (μ' := mu_X11_isIn) (fx := f_X11_isIn σ (Int32.toInt64 x0) ((Int32.toInt64 x1) + 1) (Int32.toInt64 v3)) (As := [.long (Int32.toInt64 x0), .long ((Int32.toInt64 x1) + 1), .long (Int32.toInt64 v3)]) (c_X11_isIn hw hN) (ok_X11_isIn) (ltb rfl) (all3 gw_1420 gw_1422 gw_64) (ik_306 hw hN) (by decide) (q := (RX11, TX11, 39)) rfl rfl rfl rfl (Nat.le_of_ble_eq_true rfl) dX11_isTail_27 (fun b4 => ?_)
      refine jo_ifz_eq (pc := 30) dX11_isTail_30 (tgt := 55) rfl ?_ ?_
      · refine jo_lv (lv' := []) [] rfl ?_
        exact jo_leaf (by rfl) (h55_2 ())
      · refine jo_aload_n (pc := 33) 0 rfl dX11_isTail_33 rfl ?_
        refine jo_iload_n (pc := 34) 3 rfl dX11_isTail_34 rfl ?_
        refine jo_i2l (pc := 35) dX11_isTail_35 ?_
        refine jo_iload_n (pc := 36) 1 rfl dX11_isTail_36 rfl ?_
        refine jo_i2l (pc := 37) dX11_isTail_37 ?_
        refine jo_lconst (pc := 38) dX11_isTail_38 (ic_l_1) ?_
        refine jo_ladd (pc := 39) dX11_isTail_39 ?_
        refine jo_aload_n (pc := 40) 0 rfl dX11_isTail_40 rfl ?_
        refine jo_cV_I_p (pc := 41) (μ' := mu_X11_n) (fx := f_X11_n σ) (As := []) (c_X11_n hw hN) (ok_X11_n) (ltb rfl) (all3 gw_1441 gw_1443 gw_68) (ik_306 hw hN) (by decide) (q := (RX11, TX11, 39)) rfl rfl rfl rfl (Nat.le_of_ble_eq_true rfl) dX11_isTail_41 (fun v5 => ?_)
        refine jo_i2l (pc := 44) dX11_isTail_44 ?_
        refine jo_cV_Z_p (pc := 45) (μ' := mu_X11_isIn) (fx := f_X11_isIn σ (Int32.toInt64 x2) ((Int32.toInt64 x0) + 1) (Int32.toInt64 v5)) (As := [.long (Int32.toInt64 x2), .long ((Int32.toInt64 x0) + 1), .long (Int32.toInt64 v5)]) (c_X11_isIn hw hN) (ok_X11_isIn) (ltb rfl) (all3 gw_1420 gw_1422 gw_64) (ik_306 hw hN) (by decide) (q := (RX11, TX11, 39)) rfl rfl rfl rfl (Nat.le_of_ble_eq_true rfl) dX11_isTail_45 (fun b6 => ?_)
        refine jo_ifz_eq (pc := 48) dX11_isTail_48 (tgt := 55) rfl ?_ ?_
        · refine jo_lv (lv' := []) [] rfl ?_
          exact jo_leaf (by rfl) (h55_2 ())
        · refine jo_iconst (pc := 51) dX11_isTail_51 (ic_i_1) ?_
          refine jo_goto (pc := 52) dX11_isTail_52 (tgt := 56) rfl ?_
          exact jo_breturn (pc := 56) (b := true) rfl rfl dX11_isTail_56
theorem c_X11_isTail {w : Wd} (hw : WOK w) (hN : wn w = NT) {σ : Mem} {x0 : Int32} {x1 : Int32} {x2 : Int32} : ∀ r, f_X11_isTail σ x0 x1 x2 = some r → MC w mu_X11_isTail (vB r) [.ref (adr w 306), .int x0, .int x1, .int x2] σ σ := mc_ofP ok_X11_isTail rfl (Nat.le_of_ble_eq_true rfl) (t_X11_isTail hw hN)
abbrev mu_X11_onesAll : MD := (yX11_onesAll, cX11_onesAll, 2, none, 0)
theorem ok_X11_onesAll : MOK mu_X11_onesAll 0 := ⟨gw_1453, gw_171, (by decide +kernel : plainFor yX11_onesAll = true), ⟨(by decide +kernel : yX11_onesAll.cls ≠ "java/lang/invoke/MethodHandle"), (by decide +kernel : yX11_onesAll.cls ≠ "java/lang/invoke/VarHandle"), (by decide +kernel : (parseMethodDescriptor yX11_onesAll.desc).map (fun d => d.parameters.length) = some 0)⟩, Nat.le_of_ble_eq_true rfl⟩
noncomputable def l_X11_onesAll_4 (σ1 : Mem) (i2 : Int32) : Option ((Mem × Int32) ⊕ Mem) :=
  if 283 ≤ i2 then (some (Sum.inr σ1)) else (pI σ1 307 i2 0 (fun (σ3 : Mem) => some (Sum.inl (σ3, i2 + 1))))
noncomputable def f_X11_onesAll (σ : Mem) : Option Mem :=
  loopO (fun (z2 : (Mem × Int32)) => l_X11_onesAll_4 z2.1 z2.2) (σ, 223)
theorem t_X11_onesAll {w : Wd} (hw : WOK w) (hN : wn w = NT) {σ : Mem} : JO w mu_X11_onesAll vV σ [(0, .ref (adr w 306))] [] 0 (f_X11_onesAll σ) (fun z => some ((), z)) := by
  unfold f_X11_onesAll
  refine jo_sipush (pc := 0) dX11_onesAll_0 (ic_s_223) ?_
  refine jo_istore_n (pc := 3) (lv' := [(1, .int 223), (0, .ref (adr w 306))]) dX11_onesAll_3 rfl (ltb rfl) rfl ?_
  refine jo_lv (lv' := [(0, .ref (adr w 306)), (1, .int 223)]) [1, 0] rfl ?_
  refine jo_loop (X := Mem) (fun (z2 : (Mem × Int32)) => z2.1) (fun (z2 : (Mem × Int32)) => [(0, .ref (adr w 306)), (1, .int z2.2)]) (body := (fun (z2 : (Mem × Int32)) => l_X11_onesAll_4 z2.1 z2.2)) (fun F4_2 hF4_2 s => ?_) (σ, 223)
  obtain ⟨σ1, i2⟩ := s
  show JO w mu_X11_onesAll vV σ1 [(0, .ref (adr w 306)), (1, .int i2)] [] 4 (l_X11_onesAll_4 σ1 i2) _
  unfold l_X11_onesAll_4
  refine jo_iload_n (pc := 4) 1 rfl dX11_onesAll_4 rfl ?_
  refine jo_sipush (pc := 5) dX11_onesAll_5 (ic_s_283) ?_
  refine jo_icmp_ge (pc := 8) dX11_onesAll_8 (tgt := 24) rfl ?_ ?_
  · exact jo_return (pc := 24) rfl rfl dX11_onesAll_24
  · refine jo_aload_n (pc := 11) 0 rfl dX11_onesAll_11 rfl ?_
    refine jo_getrE (pc := 12) ok_11_1 (ik_306 hw hN) rf_306_1 gw_1294 dX11_onesAll_12 ?_
    refine jo_iload_n (pc := 15) 1 rfl dX11_onesAll_15 rfl ?_
    refine jo_iconst (pc := 16) dX11_onesAll_16 (ic_i_0) ?_
    refine jo_iast (pc := 17) (ik_307 hw hN) dX11_onesAll_17 (fun σ3 => ?_)
    refine jo_iinc (pc := 18) (lv' := [(1, .int (i2 + 1)), (0, .ref (adr w 306))]) 1 rfl dX11_onesAll_18 (congrArg (fun z => i2 + z) (ic_i_1)) (ltb rfl) rfl ?_
    refine jo_goto (pc := 21) dX11_onesAll_21 (tgt := 4) rfl ?_
    refine jo_lv (lv' := [(0, .ref (adr w 306)), (1, .int (i2 + 1))]) [1, 0] rfl ?_
    exact jo_leaf (by rfl) (hF4_2 (σ3, i2 + 1))
theorem c_X11_onesAll {w : Wd} (hw : WOK w) (hN : wn w = NT) {σ : Mem} : ∀ σ', f_X11_onesAll σ = some σ' → MC w mu_X11_onesAll none [.ref (adr w 306)] σ σ' := mc_ofV ok_X11_onesAll rfl (Nat.le_of_ble_eq_true rfl) (t_X11_onesAll hw hN)
abbrev mu_X11_tail_ : MD := (yX11_tail_, cX11_tail_, 5, some .boolean, 2)
theorem ok_X11_tail_ : MOK mu_X11_tail_ 4 := ⟨gw_1436, gw_171, (by decide +kernel : plainFor yX11_tail_ = true), ⟨(by decide +kernel : yX11_tail_.cls ≠ "java/lang/invoke/MethodHandle"), (by decide +kernel : yX11_tail_.cls ≠ "java/lang/invoke/VarHandle"), (by decide +kernel : (parseMethodDescriptor yX11_tail_.desc).map (fun d => d.parameters.length) = some 4)⟩, Nat.le_of_ble_eq_true rfl⟩
noncomputable def j_X11_tail__61 (x0 : Int32) (x1 : Int32) (x2 : Int32) (x3 : Int32) (σ1 : Mem) : Option (Bool × Mem) :=
  (f_X11_keepsAct σ1).bind (fun (σ4 : Mem) => (f_X11_onesAll σ4).bind (fun (σ5 : Mem) => (f_X11_putsTail σ5 (x0 - 1) (x1 - 1) (x2 - 1) x3).bind (fun (σ6 : Mem) => some (true, σ6))))
noncomputable def f_X11_tail_ (σ : Mem) (x0 : Int32) (x1 : Int32) (x2 : Int32) (x3 : Int32) : Option (Bool × Mem) :=
  pF σ 306 0 0 (fun (σ1 : Mem) => (f_X11_isTail σ1 x0 x1 x2).bind (fun (b2 : Bool) => if b2 then (f_X11_isIn σ1 (Int32.toInt64 x3) 0 3).bind (fun (b3 : Bool) => if b3 then (if x3 ≤ 0 then (some (Sum.inl ())) else ((f_X11_weight σ1 (x2 - 1)).bind (fun (v7 : Int32) => (f_X11_weight σ1 (x1 - 1)).bind (fun (v8 : Int32) => (f_X11_weight σ1 (x0 - 1)).bind (fun (v9 : Int32) => if (v8 + v9) ≤ v7 then (some (Sum.inl ())) else (some (Sum.inr (false, σ1))))))) : Option (Unit ⊕ (Bool × Mem))).bind (Sum.elim (fun (z3 : Unit) => j_X11_tail__61 x0 x1 x2 x3 σ1) some) else some (false, σ1)) else some (false, σ1)))
theorem t_X11_tail_ {w : Wd} (hw : WOK w) (hN : wn w = NT) {σ : Mem} {x0 : Int32} {x1 : Int32} {x2 : Int32} {x3 : Int32} : JO w mu_X11_tail_ vB σ [(0, .ref (adr w 306)), (1, .int x0), (2, .int x1), (3, .int x2), (4, .int x3)] [] 0 (f_X11_tail_ σ x0 x1 x2 x3) some := by
  unfold f_X11_tail_
  refine jo_aload_n (pc := 0) 0 rfl dX11_tail__0 rfl ?_
  refine jo_iconst (pc := 1) dX11_tail__1 (ic_i_0) ?_
  refine jo_putf (pc := 2) ok_11_0 okp_11_0 (ik_306 hw hN) gw_1293 dX11_tail__2 (fun σ1 => ?_)
  refine jo_aload_n (pc := 5) 0 rfl dX11_tail__5 rfl ?_
  refine jo_iload_n (pc := 6) 1 rfl dX11_tail__6 rfl ?_
  refine jo_iload_n (pc := 7) 2 rfl dX11_tail__7 rfl ?_
  refine jo_iload_n (pc := 8) 3 rfl dX11_tail__8 rfl ?_
  refine jo_cV_Z_p (pc := 9) (μ' := mu_X11_isTail) (fx := f_X11_isTail σ1 x0 x1 x2) (As := [.int x0, .int x1, .int x2]) (c_X11_isTail hw hN) (ok_X11_isTail) (ltb rfl) (all3 gw_1437 gw_1439 gw_67) (ik_306 hw hN) (by decide) (q := (RX11, TX11, 39)) rfl rfl rfl rfl (Nat.le_of_ble_eq_true rfl) dX11_tail__9 (fun b2 => ?_)
  refine jo_ifz_eq (pc := 12) dX11_tail__12 (tgt := 59) rfl ?_ ?_
  · refine jo_iconst (pc := 59) dX11_tail__59 (ic_i_0) ?_
    exact jo_breturn (pc := 60) (b := false) rfl rfl dX11_tail__60
  · refine jo_aload_n (pc := 15) 0 rfl dX11_tail__15 rfl ?_
    refine jo_iload (pc := 16) 4 rfl dX11_tail__16 ?_
    refine jo_i2l (pc := 18) dX11_tail__18 ?_
    refine jo_lconst (pc := 19) dX11_tail__19 (ic_l_0) ?_
    refine jo_ldc2 (pc := 20) dX11_tail__20 gw_1445 ?_
    refine jo_cV_Z_p (pc := 23) (μ' := mu_X11_isIn) (fx := f_X11_isIn σ1 (Int32.toInt64 x3) 0 3) (As := [.long (Int32.toInt64 x3), .long 0, .long 3]) (c_X11_isIn hw hN) (ok_X11_isIn) (ltb rfl) (all3 gw_1420 gw_1422 gw_64) (ik_306 hw hN) (by decide) (q := (RX11, TX11, 39)) rfl rfl rfl rfl (Nat.le_of_ble_eq_true rfl) dX11_tail__23 (fun b3 => ?_)
    refine jo_ifz_eq (pc := 26) dX11_tail__26 (tgt := 59) rfl ?_ ?_
    · refine jo_iconst (pc := 59) dX11_tail__59 (ic_i_0) ?_
      exact jo_breturn (pc := 60) (b := false) rfl rfl dX11_tail__60
    · refine jo_iload (pc := 29) 4 rfl dX11_tail__29 ?_
      refine jo_joinS (S := Unit) (fun (z3 : Unit) => σ1) (fun (z3 : Unit) => [(0, .ref (adr w 306)), (1, .int x0), (2, .int x1), (3, .int x2), (4, .int x3)]) (fun (z3 : Unit) => []) 61 ?_ (fun h61_3 => ?_)
      · intro _
        show JO w mu_X11_tail_ vB σ1 [(0, .ref (adr w 306)), (1, .int x0), (2, .int x1), (3, .int x2), (4, .int x3)] [] 61 (j_X11_tail__61 x0 x1 x2 x3 σ1) _
        unfold j_X11_tail__61
        refine jo_aload_n (pc := 61) 0 rfl dX11_tail__61 rfl ?_
        refine jo_cV_V_i (pc := 62) (μ' := mu_X11_keepsAct) (fx := f_X11_keepsAct σ1) (As := []) (c_X11_keepsAct hw hN) (ok_X11_keepsAct) (ltb rfl) (all3 gw_1429 gw_1431 gw_66) (ik_306 hw hN) (by decide) (q := (RX11, TX11, 39)) rfl rfl rfl rfl (Nat.le_of_ble_eq_true rfl) dX11_tail__62 (fun σ4 => ?_)
        refine jo_aload_n (pc := 65) 0 rfl dX11_tail__65 rfl ?_
        refine jo_cV_V_i (pc := 66) (μ' := mu_X11_onesAll) (fx := f_X11_onesAll σ4) (As := []) (c_X11_onesAll hw hN) (ok_X11_onesAll) (ltb rfl) (all3 gw_1450 gw_1452 gw_70) (ik_306 hw hN) (by decide) (q := (RX11, TX11, 39)) rfl rfl rfl rfl (Nat.le_of_ble_eq_true rfl) dX11_tail__66 (fun σ5 => ?_)
        refine jo_aload_n (pc := 69) 0 rfl dX11_tail__69 rfl ?_
        refine jo_iload_n (pc := 70) 1 rfl dX11_tail__70 rfl ?_
        refine jo_iconst (pc := 71) dX11_tail__71 (ic_i_1) ?_
        refine jo_isub (pc := 72) dX11_tail__72 ?_
        refine jo_iload_n (pc := 73) 2 rfl dX11_tail__73 rfl ?_
        refine jo_iconst (pc := 74) dX11_tail__74 (ic_i_1) ?_
        refine jo_isub (pc := 75) dX11_tail__75 ?_
        refine jo_iload_n (pc := 76) 3 rfl dX11_tail__76 rfl ?_
        refine jo_iconst (pc := 77) dX11_tail__77 (ic_i_1) ?_
        refine jo_isub (pc := 78) dX11_tail__78 ?_
        refine jo_iload (pc := 79) 4 rfl dX11_tail__79 ?_
        refine jo_cV_V_i (pc := 81) (μ' := mu_X11_putsTail) (fx := f_X11_putsTail σ5 (x0 - 1) (x1 - 1) (x2 - 1) x3) (As := [.int (x0 - 1), .int (x1 - 1), .int (x2 - 1), .int x3]) (c_X11_putsTail hw hN) (ok_X11_putsTail) (ltb rfl) (all3 gw_1289 gw_1291 gw_63) (ik_306 hw hN) (by decide) (q := (RX11, TX11, 39)) rfl rfl rfl rfl (Nat.le_of_ble_eq_true rfl) dX11_tail__81 (fun σ6 => ?_)
        refine jo_iconst (pc := 84) dX11_tail__84 (ic_i_1) ?_
        exact jo_breturn (pc := 85) (b := true) rfl rfl dX11_tail__85
      · refine jo_if_le (pc := 31) dX11_tail__31 (tgt := 61) rfl ?_ ?_
        · exact jo_leaf (by rfl) (h61_3 ())
        · refine jo_aload_n (pc := 34) 0 rfl dX11_tail__34 rfl ?_
          refine jo_iload_n (pc := 35) 3 rfl dX11_tail__35 rfl ?_
          refine jo_iconst (pc := 36) dX11_tail__36 (ic_i_1) ?_
          refine jo_isub (pc := 37) dX11_tail__37 ?_
          refine jo_cV_I_p (pc := 38) (μ' := mu_X11_weight) (fx := f_X11_weight σ1 (x2 - 1)) (As := [.int (x2 - 1)]) (c_X11_weight hw hN) (ok_X11_weight) (ltb rfl) (all3 gw_1446 gw_1448 gw_69) (ik_306 hw hN) (by decide) (q := (RX11, TX11, 39)) rfl rfl rfl rfl (Nat.le_of_ble_eq_true rfl) dX11_tail__38 (fun v7 => ?_)
          refine jo_aload_n (pc := 41) 0 rfl dX11_tail__41 rfl ?_
          refine jo_iload_n (pc := 42) 2 rfl dX11_tail__42 rfl ?_
          refine jo_iconst (pc := 43) dX11_tail__43 (ic_i_1) ?_
          refine jo_isub (pc := 44) dX11_tail__44 ?_
          refine jo_cV_I_p (pc := 45) (μ' := mu_X11_weight) (fx := f_X11_weight σ1 (x1 - 1)) (As := [.int (x1 - 1)]) (c_X11_weight hw hN) (ok_X11_weight) (ltb rfl) (all3 gw_1446 gw_1448 gw_69) (ik_306 hw hN) (by decide) (q := (RX11, TX11, 39)) rfl rfl rfl rfl (Nat.le_of_ble_eq_true rfl) dX11_tail__45 (fun v8 => ?_)
          refine jo_aload_n (pc := 48) 0 rfl dX11_tail__48 rfl ?_
          refine jo_iload_n (pc := 49) 1 rfl dX11_tail__49 rfl ?_
          refine jo_iconst (pc := 50) dX11_tail__50 (ic_i_1) ?_
          refine jo_isub (pc := 51) dX11_tail__51 ?_
          refine jo_cV_I_p (pc := 52) (μ' := mu_X11_weight) (fx := f_X11_weight σ1 (x0 - 1)) (As := [.int (x0 - 1)]) (c_X11_weight hw hN) (ok_X11_weight) (ltb rfl) (all3 gw_1446 gw_1448 gw_69) (ik_306 hw hN) (by decide) (q := (RX11, TX11, 39)) rfl rfl rfl rfl (Nat.le_of_ble_eq_true rfl) dX11_tail__52 (fun v9 => ?_)
          refine jo_iadd (pc := 55) dX11_tail__55 ?_
          refine jo_icmp_ge (pc := 56) dX11_tail__56 (tgt := 61) rfl ?_ ?_
          · exact jo_leaf (by rfl) (h61_3 ())
          · refine jo_iconst (pc := 59) dX11_tail__59 (ic_i_0) ?_
            exact jo_breturn (pc := 60) (b := false) rfl rfl dX11_tail__60
theorem c_X11_tail_ {w : Wd} (hw : WOK w) (hN : wn w = NT) {σ : Mem} {x0 : Int32} {x1 : Int32} {x2 : Int32} {x3 : Int32} : ∀ r σ', f_X11_tail_ σ x0 x1 x2 x3 = some (r, σ') → MC w mu_X11_tail_ (vB r) [.ref (adr w 306), .int x0, .int x1, .int x2, .int x3] σ σ' := mc_of ok_X11_tail_ rfl (Nat.le_of_ble_eq_true rfl) (t_X11_tail_ hw hN)
end
section
abbrev mu_X11_weighs : MD := (yX11_weighs, cX11_weighs, 7, none, 0)
theorem ok_X11_weighs : MOK mu_X11_weighs 6 := ⟨gw_1461, gw_171, (by decide +kernel : plainFor yX11_weighs = true), ⟨(by decide +kernel : yX11_weighs.cls ≠ "java/lang/invoke/MethodHandle"), (by decide +kernel : yX11_weighs.cls ≠ "java/lang/invoke/VarHandle"), (by decide +kernel : (parseMethodDescriptor yX11_weighs.desc).map (fun d => d.parameters.length) = some 6)⟩, Nat.le_of_ble_eq_true rfl⟩
noncomputable def f_X11_weighs (σ : Mem) (x0 : Int32) (x1 : Int32) (x2 : Int32) (x3 : Int32) (x4 : Int32) (x5 : Int32) : Option Mem :=
  pI σ 307 1 x0 (fun (σ1 : Mem) => pI σ1 307 2 x1 (fun (σ2 : Mem) => pI σ2 307 3 x2 (fun (σ3 : Mem) => pI σ3 307 4 x3 (fun (σ4 : Mem) => pI σ4 307 5 x4 (fun (σ5 : Mem) => pI σ5 307 6 x5 (fun (σ6 : Mem) => some σ6))))))
theorem t_X11_weighs {w : Wd} (hw : WOK w) (hN : wn w = NT) {σ : Mem} {x0 : Int32} {x1 : Int32} {x2 : Int32} {x3 : Int32} {x4 : Int32} {x5 : Int32} : JO w mu_X11_weighs vV σ [(0, .ref (adr w 306)), (1, .int x0), (2, .int x1), (3, .int x2), (4, .int x3), (5, .int x4), (6, .int x5)] [] 0 (f_X11_weighs σ x0 x1 x2 x3 x4 x5) (fun z => some ((), z)) := by
  unfold f_X11_weighs
  refine jo_aload_n (pc := 0) 0 rfl dX11_weighs_0 rfl ?_
  refine jo_getrE (pc := 1) ok_11_1 (ik_306 hw hN) rf_306_1 gw_1294 dX11_weighs_1 ?_
  refine jo_iconst (pc := 4) dX11_weighs_4 (ic_i_1) ?_
  refine jo_iload_n (pc := 5) 1 rfl dX11_weighs_5 rfl ?_
  refine jo_iast (pc := 6) (ik_307 hw hN) dX11_weighs_6 (fun σ1 => ?_)
  refine jo_aload_n (pc := 7) 0 rfl dX11_weighs_7 rfl ?_
  refine jo_getrE (pc := 8) ok_11_1 (ik_306 hw hN) rf_306_1 gw_1294 dX11_weighs_8 ?_
  refine jo_iconst (pc := 11) dX11_weighs_11 (ic_i_2) ?_
  refine jo_iload_n (pc := 12) 2 rfl dX11_weighs_12 rfl ?_
  refine jo_iast (pc := 13) (ik_307 hw hN) dX11_weighs_13 (fun σ2 => ?_)
  refine jo_aload_n (pc := 14) 0 rfl dX11_weighs_14 rfl ?_
  refine jo_getrE (pc := 15) ok_11_1 (ik_306 hw hN) rf_306_1 gw_1294 dX11_weighs_15 ?_
  refine jo_iconst (pc := 18) dX11_weighs_18 (ic_i_3) ?_
  refine jo_iload_n (pc := 19) 3 rfl dX11_weighs_19 rfl ?_
  refine jo_iast (pc := 20) (ik_307 hw hN) dX11_weighs_20 (fun σ3 => ?_)
  refine jo_aload_n (pc := 21) 0 rfl dX11_weighs_21 rfl ?_
  refine jo_getrE (pc := 22) ok_11_1 (ik_306 hw hN) rf_306_1 gw_1294 dX11_weighs_22 ?_
  refine jo_iconst (pc := 25) dX11_weighs_25 (ic_i_4) ?_
  refine jo_iload (pc := 26) 4 rfl dX11_weighs_26 ?_
  refine jo_iast (pc := 28) (ik_307 hw hN) dX11_weighs_28 (fun σ4 => ?_)
  refine jo_aload_n (pc := 29) 0 rfl dX11_weighs_29 rfl ?_
  refine jo_getrE (pc := 30) ok_11_1 (ik_306 hw hN) rf_306_1 gw_1294 dX11_weighs_30 ?_
  refine jo_iconst (pc := 33) dX11_weighs_33 (ic_i_5) ?_
  refine jo_iload (pc := 34) 5 rfl dX11_weighs_34 ?_
  refine jo_iast (pc := 36) (ik_307 hw hN) dX11_weighs_36 (fun σ5 => ?_)
  refine jo_aload_n (pc := 37) 0 rfl dX11_weighs_37 rfl ?_
  refine jo_getrE (pc := 38) ok_11_1 (ik_306 hw hN) rf_306_1 gw_1294 dX11_weighs_38 ?_
  refine jo_bipush (pc := 41) dX11_weighs_41 (ic_b_6) ?_
  refine jo_iload (pc := 43) 6 rfl dX11_weighs_43 ?_
  refine jo_iast (pc := 45) (ik_307 hw hN) dX11_weighs_45 (fun σ6 => ?_)
  exact jo_return (pc := 46) rfl rfl dX11_weighs_46
theorem c_X11_weighs {w : Wd} (hw : WOK w) (hN : wn w = NT) {σ : Mem} {x0 : Int32} {x1 : Int32} {x2 : Int32} {x3 : Int32} {x4 : Int32} {x5 : Int32} : ∀ σ', f_X11_weighs σ x0 x1 x2 x3 x4 x5 = some σ' → MC w mu_X11_weighs none [.ref (adr w 306), .int x0, .int x1, .int x2, .int x3, .int x4, .int x5] σ σ' := mc_ofV ok_X11_weighs rfl (Nat.le_of_ble_eq_true rfl) (t_X11_weighs hw hN)
abbrev mu_X11_kind : MD := (yX11_kind, cX11_kind, 2, some .boolean, 2)
theorem ok_X11_kind : MOK mu_X11_kind 1 := ⟨gw_1457, gw_171, (by decide +kernel : plainFor yX11_kind = true), ⟨(by decide +kernel : yX11_kind.cls ≠ "java/lang/invoke/MethodHandle"), (by decide +kernel : yX11_kind.cls ≠ "java/lang/invoke/VarHandle"), (by decide +kernel : (parseMethodDescriptor yX11_kind.desc).map (fun d => d.parameters.length) = some 1)⟩, Nat.le_of_ble_eq_true rfl⟩
noncomputable def j_X11_kind_123 (x0 : Int32) (σ9 : Mem) : Option (Bool × Mem) :=
  if x0 = 2 then ((f_X11_putsTail σ9 2 0 3 1).bind (fun (σ10 : Mem) => (f_X11_putsTail σ10 2 1 4 1).bind (fun (σ11 : Mem) => (f_X11_putsTail σ11 3 1 5 1).bind (fun (σ12 : Mem) => (f_X11_putsTail σ12 4 0 5 1).bind (fun (σ13 : Mem) => some (true, σ13)))))) else (some (true, σ9))
noncomputable def j_X11_kind_94 (x0 : Int32) (σ8 : Mem) : Option (Bool × Mem) :=
  (if x0 = 1 then ((f_X11_putsTail σ8 1 0 2 1).bind (fun (σ14 : Mem) => (f_X11_putsTail σ14 2 0 3 1).bind (fun (σ15 : Mem) => (f_X11_putsTail σ15 2 1 4 1).bind (fun (σ16 : Mem) => some σ16)))) else (some σ8) : Option Mem).bind (fun (z9 : Mem) => j_X11_kind_123 x0 z9)
noncomputable def j_X11_kind_79 (x0 : Int32) (σ7 : Mem) : Option (Bool × Mem) :=
  (if x0 = 3 then ((f_X11_weighs σ7 1 1 1 1 1 1).bind (fun (σ17 : Mem) => some σ17)) else (some σ7) : Option Mem).bind (fun (z8 : Mem) => j_X11_kind_94 x0 z8)
noncomputable def j_X11_kind_64 (x0 : Int32) (σ6 : Mem) : Option (Bool × Mem) :=
  (if x0 = 2 then ((f_X11_weighs σ6 1 1 1 2 2 3).bind (fun (σ18 : Mem) => some σ18)) else (some σ6) : Option Mem).bind (fun (z7 : Mem) => j_X11_kind_79 x0 z7)
noncomputable def j_X11_kind_46 (x0 : Int32) (σ3 : Mem) (i4 : Int32) : Option (Bool × Mem) :=
  (f_X11_clears σ3 i4).bind (fun (σ5 : Mem) => (if x0 = 1 then ((f_X11_weighs σ5 1 1 2 3 3 0).bind (fun (σ19 : Mem) => some σ19)) else (some σ5) : Option Mem).bind (fun (z6 : Mem) => j_X11_kind_64 x0 z6))
noncomputable def f_X11_kind (σ : Mem) (x0 : Int32) : Option (Bool × Mem) :=
  pF σ 306 0 0 (fun (σ1 : Mem) => (f_X11_isIn σ1 (Int32.toInt64 x0) 0 3).bind (fun (b2 : Bool) => if b2 then (f_X11_keepsAct σ1).bind (fun (σ3 : Mem) => if x0 = 0 then ((f_X11_plain σ3).bind (fun (σ20 : Mem) => some (true, σ20))) else ((if x0 = 1 then (some 5) else (some 6) : Option Int32).bind (fun (z4 : Int32) => j_X11_kind_46 x0 σ3 z4))) else some (false, σ1)))
theorem t_X11_kind {w : Wd} (hw : WOK w) (hN : wn w = NT) {σ : Mem} {x0 : Int32} : JO w mu_X11_kind vB σ [(0, .ref (adr w 306)), (1, .int x0)] [] 0 (f_X11_kind σ x0) some := by
  unfold f_X11_kind
  refine jo_aload_n (pc := 0) 0 rfl dX11_kind_0 rfl ?_
  refine jo_iconst (pc := 1) dX11_kind_1 (ic_i_0) ?_
  refine jo_putf (pc := 2) ok_11_0 okp_11_0 (ik_306 hw hN) gw_1293 dX11_kind_2 (fun σ1 => ?_)
  refine jo_aload_n (pc := 5) 0 rfl dX11_kind_5 rfl ?_
  refine jo_iload_n (pc := 6) 1 rfl dX11_kind_6 rfl ?_
  refine jo_i2l (pc := 7) dX11_kind_7 ?_
  refine jo_lconst (pc := 8) dX11_kind_8 (ic_l_0) ?_
  refine jo_ldc2 (pc := 9) dX11_kind_9 gw_1445 ?_
  refine jo_cV_Z_p (pc := 12) (μ' := mu_X11_isIn) (fx := f_X11_isIn σ1 (Int32.toInt64 x0) 0 3) (As := [.long (Int32.toInt64 x0), .long 0, .long 3]) (c_X11_isIn hw hN) (ok_X11_isIn) (ltb rfl) (all3 gw_1420 gw_1422 gw_64) (ik_306 hw hN) (by decide) (q := (RX11, TX11, 39)) rfl rfl rfl rfl (Nat.le_of_ble_eq_true rfl) dX11_kind_12 (fun b2 => ?_)
  refine jo_ifz_ne (pc := 15) dX11_kind_15 (tgt := 20) rfl ?_ ?_
  · refine jo_aload_n (pc := 20) 0 rfl dX11_kind_20 rfl ?_
    refine jo_cV_V_i (pc := 21) (μ' := mu_X11_keepsAct) (fx := f_X11_keepsAct σ1) (As := []) (c_X11_keepsAct hw hN) (ok_X11_keepsAct) (ltb rfl) (all3 gw_1429 gw_1431 gw_66) (ik_306 hw hN) (by decide) (q := (RX11, TX11, 39)) rfl rfl rfl rfl (Nat.le_of_ble_eq_true rfl) dX11_kind_21 (fun σ3 => ?_)
    refine jo_iload_n (pc := 24) 1 rfl dX11_kind_24 rfl ?_
    refine jo_if_ne (pc := 25) dX11_kind_25 (tgt := 34) rfl ?_ ?_
    · refine jo_aload_n (pc := 34) 0 rfl dX11_kind_34 rfl ?_
      refine jo_iload_n (pc := 35) 1 rfl dX11_kind_35 rfl ?_
      refine jo_iconst (pc := 36) dX11_kind_36 (ic_i_1) ?_
      refine jo_join1 (S := Int32) (fun (z4 : Int32) => σ3) (fun (z4 : Int32) => [(0, .ref (adr w 306)), (1, .int x0)]) (fun (z4 : Int32) => [.int z4, .ref (adr w 306)]) 46 ?_ (fun h46_4 => ?_)
      · intro i4
        show JO w mu_X11_kind vB σ3 [(0, .ref (adr w 306)), (1, .int x0)] [.int i4, .ref (adr w 306)] 46 (j_X11_kind_46 x0 σ3 i4) _
        unfold j_X11_kind_46
        refine jo_cV_V_i (pc := 46) (μ' := mu_X11_clears) (fx := f_X11_clears σ3 i4) (As := [.int i4]) (c_X11_clears hw hN) (ok_X11_clears) (ltb rfl) (all3 gw_1285 gw_1287 gw_62) (ik_306 hw hN) (by decide) (q := (RX11, TX11, 39)) rfl rfl rfl rfl (Nat.le_of_ble_eq_true rfl) dX11_kind_46 (fun σ5 => ?_)
        refine jo_iload_n (pc := 49) 1 rfl dX11_kind_49 rfl ?_
        refine jo_iconst (pc := 50) dX11_kind_50 (ic_i_1) ?_
        refine jo_join1 (S := Mem) (fun (z6 : Mem) => z6) (fun (z6 : Mem) => [(0, .ref (adr w 306)), (1, .int x0)]) (fun (z6 : Mem) => []) 64 ?_ (fun h64_6 => ?_)
        · intro σ6
          show JO w mu_X11_kind vB σ6 [(0, .ref (adr w 306)), (1, .int x0)] [] 64 (j_X11_kind_64 x0 σ6) _
          unfold j_X11_kind_64
          refine jo_iload_n (pc := 64) 1 rfl dX11_kind_64 rfl ?_
          refine jo_iconst (pc := 65) dX11_kind_65 (ic_i_2) ?_
          refine jo_join1 (S := Mem) (fun (z7 : Mem) => z7) (fun (z7 : Mem) => [(0, .ref (adr w 306)), (1, .int x0)]) (fun (z7 : Mem) => []) 79 ?_ (fun h79_7 => ?_)
          · intro σ7
            show JO w mu_X11_kind vB σ7 [(0, .ref (adr w 306)), (1, .int x0)] [] 79 (j_X11_kind_79 x0 σ7) _
            unfold j_X11_kind_79
            refine jo_iload_n (pc := 79) 1 rfl dX11_kind_79 rfl ?_
            refine jo_iconst (pc := 80) dX11_kind_80 (ic_i_3) ?_
            refine jo_join1 (S := Mem) (fun (z8 : Mem) => z8) (fun (z8 : Mem) => [(0, .ref (adr w 306)), (1, .int x0)]) (fun (z8 : Mem) => []) 94 ?_ (fun h94_8 => ?_)
            · intro σ8
              show JO w mu_X11_kind vB σ8 [(0, .ref (adr w 306)), (1, .int x0)] [] 94 (j_X11_kind_94 x0 σ8) _
              unfold j_X11_kind_94
              refine jo_iload_n (pc := 94) 1 rfl dX11_kind_94 rfl ?_
              refine jo_iconst (pc := 95) dX11_kind_95 (ic_i_1) ?_
              refine jo_join1 (S := Mem) (fun (z9 : Mem) => z9) (fun (z9 : Mem) => [(0, .ref (adr w 306)), (1, .int x0)]) (fun (z9 : Mem) => []) 123 ?_ (fun h123_9 => ?_)
              · intro σ9
                show JO w mu_X11_kind vB σ9 [(0, .ref (adr w 306)), (1, .int x0)] [] 123 (j_X11_kind_123 x0 σ9) _
                unfold j_X11_kind_123
                refine jo_iload_n (pc := 123) 1 rfl dX11_kind_123 rfl ?_
                refine jo_iconst (pc := 124) dX11_kind_124 (ic_i_2) ?_
                refine jo_icmp_ne (pc := 125) dX11_kind_125 (tgt := 160) rfl ?_ ?_
                · refine jo_iconst (pc := 160) dX11_kind_160 (ic_i_1) ?_
                  exact jo_breturn (pc := 161) (b := true) rfl rfl dX11_kind_161
                · refine jo_aload_n (pc := 128) 0 rfl dX11_kind_128 rfl ?_
                  refine jo_iconst (pc := 129) dX11_kind_129 (ic_i_2) ?_
                  refine jo_iconst (pc := 130) dX11_kind_130 (ic_i_0) ?_
                  refine jo_iconst (pc := 131) dX11_kind_131 (ic_i_3) ?_
                  refine jo_iconst (pc := 132) dX11_kind_132 (ic_i_1) ?_
                  refine jo_cV_V_i (pc := 133) (μ' := mu_X11_putsTail) (fx := f_X11_putsTail σ9 2 0 3 1) (As := [.int 2, .int 0, .int 3, .int 1]) (c_X11_putsTail hw hN) (ok_X11_putsTail) (ltb rfl) (all3 gw_1289 gw_1291 gw_63) (ik_306 hw hN) (by decide) (q := (RX11, TX11, 39)) rfl rfl rfl rfl (Nat.le_of_ble_eq_true rfl) dX11_kind_133 (fun σ10 => ?_)
                  refine jo_aload_n (pc := 136) 0 rfl dX11_kind_136 rfl ?_
                  refine jo_iconst (pc := 137) dX11_kind_137 (ic_i_2) ?_
                  refine jo_iconst (pc := 138) dX11_kind_138 (ic_i_1) ?_
                  refine jo_iconst (pc := 139) dX11_kind_139 (ic_i_4) ?_
                  refine jo_iconst (pc := 140) dX11_kind_140 (ic_i_1) ?_
                  refine jo_cV_V_i (pc := 141) (μ' := mu_X11_putsTail) (fx := f_X11_putsTail σ10 2 1 4 1) (As := [.int 2, .int 1, .int 4, .int 1]) (c_X11_putsTail hw hN) (ok_X11_putsTail) (ltb rfl) (all3 gw_1289 gw_1291 gw_63) (ik_306 hw hN) (by decide) (q := (RX11, TX11, 39)) rfl rfl rfl rfl (Nat.le_of_ble_eq_true rfl) dX11_kind_141 (fun σ11 => ?_)
                  refine jo_aload_n (pc := 144) 0 rfl dX11_kind_144 rfl ?_
                  refine jo_iconst (pc := 145) dX11_kind_145 (ic_i_3) ?_
                  refine jo_iconst (pc := 146) dX11_kind_146 (ic_i_1) ?_
                  refine jo_iconst (pc := 147) dX11_kind_147 (ic_i_5) ?_
                  refine jo_iconst (pc := 148) dX11_kind_148 (ic_i_1) ?_
                  refine jo_cV_V_i (pc := 149) (μ' := mu_X11_putsTail) (fx := f_X11_putsTail σ11 3 1 5 1) (As := [.int 3, .int 1, .int 5, .int 1]) (c_X11_putsTail hw hN) (ok_X11_putsTail) (ltb rfl) (all3 gw_1289 gw_1291 gw_63) (ik_306 hw hN) (by decide) (q := (RX11, TX11, 39)) rfl rfl rfl rfl (Nat.le_of_ble_eq_true rfl) dX11_kind_149 (fun σ12 => ?_)
                  refine jo_aload_n (pc := 152) 0 rfl dX11_kind_152 rfl ?_
                  refine jo_iconst (pc := 153) dX11_kind_153 (ic_i_4) ?_
                  refine jo_iconst (pc := 154) dX11_kind_154 (ic_i_0) ?_
                  refine jo_iconst (pc := 155) dX11_kind_155 (ic_i_5) ?_
                  refine jo_iconst (pc := 156) dX11_kind_156 (ic_i_1) ?_
                  refine jo_cV_V_i (pc := 157) (μ' := mu_X11_putsTail) (fx := f_X11_putsTail σ12 4 0 5 1) (As := [.int 4, .int 0, .int 5, .int 1]) (c_X11_putsTail hw hN) (ok_X11_putsTail) (ltb rfl) (all3 gw_1289 gw_1291 gw_63) (ik_306 hw hN) (by decide) (q := (RX11, TX11, 39)) rfl rfl rfl rfl (Nat.le_of_ble_eq_true rfl) dX11_kind_157 (fun σ13 => ?_)
                  refine jo_iconst (pc := 160) dX11_kind_160 (ic_i_1) ?_
                  exact jo_breturn (pc := 161) (b := true) rfl rfl dX11_kind_161
              · refine jo_icmp_ne (pc := 96) dX11_kind_96 (tgt := 123) rfl ?_ ?_
                · exact jo_leaf (by rfl) (h123_9 σ8)
                · refine jo_aload_n (pc := 99) 0 rfl dX11_kind_99 rfl ?_
                  refine jo_iconst (pc := 100) dX11_kind_100 (ic_i_1) ?_
                  refine jo_iconst (pc := 101) dX11_kind_101 (ic_i_0) ?_
                  refine jo_iconst (pc := 102) dX11_kind_102 (ic_i_2) ?_
                  refine jo_iconst (pc := 103) dX11_kind_103 (ic_i_1) ?_
                  refine jo_cV_V_i (pc := 104) (μ' := mu_X11_putsTail) (fx := f_X11_putsTail σ8 1 0 2 1) (As := [.int 1, .int 0, .int 2, .int 1]) (c_X11_putsTail hw hN) (ok_X11_putsTail) (ltb rfl) (all3 gw_1289 gw_1291 gw_63) (ik_306 hw hN) (by decide) (q := (RX11, TX11, 39)) rfl rfl rfl rfl (Nat.le_of_ble_eq_true rfl) dX11_kind_104 (fun σ14 => ?_)
                  refine jo_aload_n (pc := 107) 0 rfl dX11_kind_107 rfl ?_
                  refine jo_iconst (pc := 108) dX11_kind_108 (ic_i_2) ?_
                  refine jo_iconst (pc := 109) dX11_kind_109 (ic_i_0) ?_
                  refine jo_iconst (pc := 110) dX11_kind_110 (ic_i_3) ?_
                  refine jo_iconst (pc := 111) dX11_kind_111 (ic_i_1) ?_
                  refine jo_cV_V_i (pc := 112) (μ' := mu_X11_putsTail) (fx := f_X11_putsTail σ14 2 0 3 1) (As := [.int 2, .int 0, .int 3, .int 1]) (c_X11_putsTail hw hN) (ok_X11_putsTail) (ltb rfl) (all3 gw_1289 gw_1291 gw_63) (ik_306 hw hN) (by decide) (q := (RX11, TX11, 39)) rfl rfl rfl rfl (Nat.le_of_ble_eq_true rfl) dX11_kind_112 (fun σ15 => ?_)
                  refine jo_aload_n (pc := 115) 0 rfl dX11_kind_115 rfl ?_
                  refine jo_iconst (pc := 116) dX11_kind_116 (ic_i_2) ?_
                  refine jo_iconst (pc := 117) dX11_kind_117 (ic_i_1) ?_
                  refine jo_iconst (pc := 118) dX11_kind_118 (ic_i_4) ?_
                  refine jo_iconst (pc := 119) dX11_kind_119 (ic_i_1) ?_
                  refine jo_cV_V_i (pc := 120) (μ' := mu_X11_putsTail) (fx := f_X11_putsTail σ15 2 1 4 1) (As := [.int 2, .int 1, .int 4, .int 1]) (c_X11_putsTail hw hN) (ok_X11_putsTail) (ltb rfl) (all3 gw_1289 gw_1291 gw_63) (ik_306 hw hN) (by decide) (q := (RX11, TX11, 39)) rfl rfl rfl rfl (Nat.le_of_ble_eq_true rfl) dX11_kind_120 (fun σ16 => ?_)
                  exact jo_leaf (by rfl) (h123_9 σ16)
            · refine jo_icmp_ne (pc := 81) dX11_kind_81 (tgt := 94) rfl ?_ ?_
              · exact jo_leaf (by rfl) (h94_8 σ7)
              · refine jo_aload_n (pc := 84) 0 rfl dX11_kind_84 rfl ?_
                refine jo_iconst (pc := 85) dX11_kind_85 (ic_i_1) ?_
                refine jo_iconst (pc := 86) dX11_kind_86 (ic_i_1) ?_
                refine jo_iconst (pc := 87) dX11_kind_87 (ic_i_1) ?_
                refine jo_iconst (pc := 88) dX11_kind_88 (ic_i_1) ?_
                refine jo_iconst (pc := 89) dX11_kind_89 (ic_i_1) ?_
                refine jo_iconst (pc := 90) dX11_kind_90 (ic_i_1) ?_
                refine jo_cV_V_i (pc := 91) (μ' := mu_X11_weighs) (fx := f_X11_weighs σ7 1 1 1 1 1 1) (As := [.int 1, .int 1, .int 1, .int 1, .int 1, .int 1]) (c_X11_weighs hw hN) (ok_X11_weighs) (ltb rfl) (all3 gw_1458 gw_1460 gw_71) (ik_306 hw hN) (by decide) (q := (RX11, TX11, 39)) rfl rfl rfl rfl (Nat.le_of_ble_eq_true rfl) dX11_kind_91 (fun σ17 => ?_)
                exact jo_leaf (by rfl) (h94_8 σ17)
          · refine jo_icmp_ne (pc := 66) dX11_kind_66 (tgt := 79) rfl ?_ ?_
            · exact jo_leaf (by rfl) (h79_7 σ6)
            · refine jo_aload_n (pc := 69) 0 rfl dX11_kind_69 rfl ?_
              refine jo_iconst (pc := 70) dX11_kind_70 (ic_i_1) ?_
              refine jo_iconst (pc := 71) dX11_kind_71 (ic_i_1) ?_
              refine jo_iconst (pc := 72) dX11_kind_72 (ic_i_1) ?_
              refine jo_iconst (pc := 73) dX11_kind_73 (ic_i_2) ?_
              refine jo_iconst (pc := 74) dX11_kind_74 (ic_i_2) ?_
              refine jo_iconst (pc := 75) dX11_kind_75 (ic_i_3) ?_
              refine jo_cV_V_i (pc := 76) (μ' := mu_X11_weighs) (fx := f_X11_weighs σ6 1 1 1 2 2 3) (As := [.int 1, .int 1, .int 1, .int 2, .int 2, .int 3]) (c_X11_weighs hw hN) (ok_X11_weighs) (ltb rfl) (all3 gw_1458 gw_1460 gw_71) (ik_306 hw hN) (by decide) (q := (RX11, TX11, 39)) rfl rfl rfl rfl (Nat.le_of_ble_eq_true rfl) dX11_kind_76 (fun σ18 => ?_)
              exact jo_leaf (by rfl) (h79_7 σ18)
        · refine jo_icmp_ne (pc := 51) dX11_kind_51 (tgt := 64) rfl ?_ ?_
          · exact jo_leaf (by rfl) (h64_6 σ5)
          · refine jo_aload_n (pc := 54) 0 rfl dX11_kind_54 rfl ?_
            refine jo_iconst (pc := 55) dX11_kind_55 (ic_i_1) ?_
            refine jo_iconst (pc := 56) dX11_kind_56 (ic_i_1) ?_
            refine jo_iconst (pc := 57) dX11_kind_57 (ic_i_2) ?_
            refine jo_iconst (pc := 58) dX11_kind_58 (ic_i_3) ?_
            refine jo_iconst (pc := 59) dX11_kind_59 (ic_i_3) ?_
            refine jo_iconst (pc := 60) dX11_kind_60 (ic_i_0) ?_
            refine jo_cV_V_i (pc := 61) (μ' := mu_X11_weighs) (fx := f_X11_weighs σ5 1 1 2 3 3 0) (As := [.int 1, .int 1, .int 2, .int 3, .int 3, .int 0]) (c_X11_weighs hw hN) (ok_X11_weighs) (ltb rfl) (all3 gw_1458 gw_1460 gw_71) (ik_306 hw hN) (by decide) (q := (RX11, TX11, 39)) rfl rfl rfl rfl (Nat.le_of_ble_eq_true rfl) dX11_kind_61 (fun σ19 => ?_)
            exact jo_leaf (by rfl) (h64_6 σ19)
      · refine jo_icmp_ne (pc := 37) dX11_kind_37 (tgt := 44) rfl ?_ ?_
        · refine jo_bipush (pc := 44) dX11_kind_44 (ic_b_6) ?_
          exact jo_leaf (by rfl) (h46_4 6)
        · refine jo_iconst (pc := 40) dX11_kind_40 (ic_i_5) ?_
          refine jo_goto (pc := 41) dX11_kind_41 (tgt := 46) rfl ?_
          exact jo_leaf (by rfl) (h46_4 5)
    · refine jo_aload_n (pc := 28) 0 rfl dX11_kind_28 rfl ?_
      refine jo_cV_V_i (pc := 29) (μ' := mu_X11_plain) (fx := f_X11_plain σ3) (As := []) (c_X11_plain hw hN) (ok_X11_plain) (ltb rfl) (all3 gw_1281 gw_1283 gw_61) (ik_306 hw hN) (by decide) (q := (RX11, TX11, 39)) rfl rfl rfl rfl (Nat.le_of_ble_eq_true rfl) dX11_kind_29 (fun σ20 => ?_)
      refine jo_iconst (pc := 32) dX11_kind_32 (ic_i_1) ?_
      exact jo_breturn (pc := 33) (b := true) rfl rfl dX11_kind_33
  · refine jo_iconst (pc := 18) dX11_kind_18 (ic_i_0) ?_
    exact jo_breturn (pc := 19) (b := false) rfl rfl dX11_kind_19
theorem c_X11_kind {w : Wd} (hw : WOK w) (hN : wn w = NT) {σ : Mem} {x0 : Int32} : ∀ r σ', f_X11_kind σ x0 = some (r, σ') → MC w mu_X11_kind (vB r) [.ref (adr w 306), .int x0] σ σ' := mc_of ok_X11_kind rfl (Nat.le_of_ble_eq_true rfl) (t_X11_kind hw hN)
abbrev mu_X11_writes : MD := (yX11_writes, cX11_writes, 2, none, 0)
theorem ok_X11_writes : MOK mu_X11_writes 1 := ⟨gw_1490, gw_171, (by decide +kernel : plainFor yX11_writes = true), ⟨(by decide +kernel : yX11_writes.cls ≠ "java/lang/invoke/MethodHandle"), (by decide +kernel : yX11_writes.cls ≠ "java/lang/invoke/VarHandle"), (by decide +kernel : (parseMethodDescriptor yX11_writes.desc).map (fun d => d.parameters.length) = some 1)⟩, Nat.le_of_ble_eq_true rfl⟩
noncomputable def f_X11_writes (σ : Mem) (x0 : Int32) : Option Mem :=
  gF σ 306 6 (fun (v1 : Int32) => pI σ 309 v1 x0 (fun (σ2 : Mem) => gF σ2 306 6 (fun (v3 : Int32) => pF σ2 306 6 (v3 + 1) (fun (σ4 : Mem) => some σ4))))
theorem t_X11_writes {w : Wd} (hw : WOK w) (hN : wn w = NT) {σ : Mem} {x0 : Int32} : JO w mu_X11_writes vV σ [(0, .ref (adr w 306)), (1, .int x0)] [] 0 (f_X11_writes σ x0) (fun z => some ((), z)) := by
  unfold f_X11_writes
  refine jo_aload_n (pc := 0) 0 rfl dX11_writes_0 rfl ?_
  refine jo_getrE (pc := 1) ok_11_5 (ik_306 hw hN) rf_306_5 gw_1298 dX11_writes_1 ?_
  refine jo_aload_n (pc := 4) 0 rfl dX11_writes_4 rfl ?_
  refine jo_getf (pc := 5) ok_11_6 (ik_306 hw hN) gw_1299 dX11_writes_5 (fun v1 => ?_)
  refine jo_iload_n (pc := 8) 1 rfl dX11_writes_8 rfl ?_
  refine jo_iast (pc := 9) (ik_309 hw hN) dX11_writes_9 (fun σ2 => ?_)
  refine jo_aload_n (pc := 10) 0 rfl dX11_writes_10 rfl ?_
  refine jo_aload_n (pc := 11) 0 rfl dX11_writes_11 rfl ?_
  refine jo_getf (pc := 12) ok_11_6 (ik_306 hw hN) gw_1299 dX11_writes_12 (fun v3 => ?_)
  refine jo_iconst (pc := 15) dX11_writes_15 (ic_i_1) ?_
  refine jo_iadd (pc := 16) dX11_writes_16 ?_
  refine jo_putf (pc := 17) ok_11_6 okp_11_6 (ik_306 hw hN) gw_1299 dX11_writes_17 (fun σ4 => ?_)
  exact jo_return (pc := 20) rfl rfl dX11_writes_20
theorem c_X11_writes {w : Wd} (hw : WOK w) (hN : wn w = NT) {σ : Mem} {x0 : Int32} : ∀ σ', f_X11_writes σ x0 = some σ' → MC w mu_X11_writes none [.ref (adr w 306), .int x0] σ σ' := mc_ofV ok_X11_writes rfl (Nat.le_of_ble_eq_true rfl) (t_X11_writes hw hN)
abbrev mu_X11_exchanges : MD := (yX11_exchanges, cX11_exchanges, 8, none, 1)
theorem ok_X11_exchanges : MOK mu_X11_exchanges 1 := ⟨gw_1494, gw_171, (by decide +kernel : plainFor yX11_exchanges = true), ⟨(by decide +kernel : yX11_exchanges.cls ≠ "java/lang/invoke/MethodHandle"), (by decide +kernel : yX11_exchanges.cls ≠ "java/lang/invoke/VarHandle"), (by decide +kernel : (parseMethodDescriptor yX11_exchanges.desc).map (fun d => d.parameters.length) = some 1)⟩, Nat.le_of_ble_eq_true rfl⟩
noncomputable def j_X11_exchanges_179 (σ14 : Mem) : Option Mem :=
  gF σ14 306 7 (fun (v15 : Int32) => pF σ14 306 7 (v15 + 1) (fun (σ16 : Mem) => some σ16))
noncomputable def j_X11_exchanges_173 (i19 : Int32) (σ22 : Mem) (i23 : Int32) : Option ((Mem × Int32 × Int32) ⊕ Mem) :=
  some (Sum.inl (σ22, i23, i19 + 1))
noncomputable def l_X11_exchanges_147 (i19 : Int32) (σ24 : Mem) (i25 : Int32) (i26 : Int32) : Option ((Mem × Int32 × Int32) ⊕ (Mem × Int32)) :=
  if i26 ≤ 0 then (some (Sum.inr (σ24, i25))) else (pI σ24 309 i25 i19 (fun (σ27 : Mem) => bd (i25 + 1) (fun (v28 : Int32) => some (Sum.inl (σ27, v28, i26 + (-1))))))
noncomputable def l_X11_exchanges_128 (v1 : Int32) (v2 : Int32) (σ17 : Mem) (i18 : Int32) (i19 : Int32) : Option ((Mem × Int32 × Int32) ⊕ Mem) :=
  (f_X11_n σ17).bind (fun (v20 : Int32) => if v20 ≤ i19 then (some (Sum.inr σ17)) else ((f_X11_tail σ17 v1 v2 i19).bind (fun (v21 : Int32) => (loopO (fun (z26 : (Mem × Int32 × Int32)) => l_X11_exchanges_147 i19 z26.1 z26.2.1 z26.2.2) (σ17, i18, v21) : Option (Mem × Int32)).bind (fun (z23 : (Mem × Int32)) => j_X11_exchanges_173 i19 z23.1 z23.2))))
noncomputable def j_X11_exchanges_91 (x0 : Int32) (v1 : Int32) (v2 : Int32) (i4 : Int32) (σ7 : Mem) : Option Mem :=
  gF σ7 306 6 (fun (v8 : Int32) => pF σ7 306 6 (v8 + i4) (fun (σ9 : Mem) => pI σ9 309 x0 v2 (fun (σ10 : Mem) => pI σ10 309 (x0 + 1) v1 (fun (σ11 : Mem) => bd (x0 + 2) (fun (v12 : Int32) => bd (v1 + 1) (fun (v13 : Int32) => (loopO (fun (z19 : (Mem × Int32 × Int32)) => l_X11_exchanges_128 v1 v2 z19.1 z19.2.1 z19.2.2) (σ11, v12, v13) : Option Mem).bind (fun (z14 : Mem) => j_X11_exchanges_179 z14)))))))
noncomputable def l_X11_exchanges_60 (x0 : Int32) (i4 : Int32) (σ29 : Mem) (i30 : Int32) : Option ((Mem × Int32) ⊕ Mem) :=
  if i30 ≤ (x0 + 1) then (some (Sum.inr σ29)) else (gI σ29 309 i30 (fun (v31 : Int32) => pI σ29 309 (i30 + i4) v31 (fun (σ32 : Mem) => some (Sum.inl (σ32, i30 + (-1))))))
noncomputable def j_X11_exchanges_52 (σ : Mem) (x0 : Int32) (v1 : Int32) (v2 : Int32) (i4 : Int32) : Option Mem :=
  gF σ 306 6 (fun (v5 : Int32) => bd (v5 - 1) (fun (v6 : Int32) => (loopO (fun (z30 : (Mem × Int32)) => l_X11_exchanges_60 x0 i4 z30.1 z30.2) (σ, v6) : Option Mem).bind (fun (z7 : Mem) => j_X11_exchanges_91 x0 v1 v2 i4 z7)))
noncomputable def l_X11_exchanges_24 (σ : Mem) (v1 : Int32) (v2 : Int32) (i33 : Int32) (i34 : Int32) : Option ((Int32 × Int32) ⊕ Int32) :=
  (f_X11_n σ).bind (fun (v35 : Int32) => if v35 ≤ i34 then (some (Sum.inr i33)) else ((f_X11_tail σ v1 v2 i34).bind (fun (v36 : Int32) => bd (i33 + v36) (fun (v37 : Int32) => some (Sum.inl (v37, i34 + 1))))))
noncomputable def f_X11_exchanges (σ : Mem) (x0 : Int32) : Option Mem :=
  gI σ 309 x0 (fun (v1 : Int32) => gI σ 309 (x0 + 1) (fun (v2 : Int32) => bd (v1 + 1) (fun (v3 : Int32) => (loopO (fun (z34 : (Int32 × Int32)) => l_X11_exchanges_24 σ v1 v2 z34.1 z34.2) (0, v3) : Option Int32).bind (fun (z4 : Int32) => j_X11_exchanges_52 σ x0 v1 v2 z4))))
theorem t_X11_exchanges {w : Wd} (hw : WOK w) (hN : wn w = NT) {σ : Mem} {x0 : Int32} : JO w mu_X11_exchanges vV σ [(0, .ref (adr w 306)), (1, .int x0)] [] 0 (f_X11_exchanges σ x0) (fun z => some ((), z)) := by
  unfold f_X11_exchanges
  refine jo_aload_n (pc := 0) 0 rfl dX11_exchanges_0 rfl ?_
  refine jo_getrE (pc := 1) ok_11_5 (ik_306 hw hN) rf_306_5 gw_1298 dX11_exchanges_1 ?_
  refine jo_iload_n (pc := 4) 1 rfl dX11_exchanges_4 rfl ?_
  refine jo_iald (pc := 5) (ik_309 hw hN) dX11_exchanges_5 (fun v1 => ?_)
  refine jo_istore_n (pc := 6) (lv' := [(2, .int v1), (0, .ref (adr w 306)), (1, .int x0)]) dX11_exchanges_6 rfl (ltb rfl) rfl ?_
  refine jo_aload_n (pc := 7) 1 rfl dX11_exchanges_7 rfl ?_
  refine jo_getrE (pc := 8) ok_11_5 (ik_306 hw hN) rf_306_5 gw_1298 dX11_exchanges_8 ?_
  refine jo_iload_n (pc := 11) 2 rfl dX11_exchanges_11 rfl ?_
  refine jo_iconst (pc := 12) dX11_exchanges_12 (ic_i_1) ?_
  refine jo_iadd (pc := 13) dX11_exchanges_13 ?_
  refine jo_iald (pc := 14) (ik_309 hw hN) dX11_exchanges_14 (fun v2 => ?_)
  refine jo_istore_n (pc := 15) (lv' := [(3, .int v2), (2, .int v1), (0, .ref (adr w 306)), (1, .int x0)]) dX11_exchanges_15 rfl (ltb rfl) rfl ?_
  refine jo_iconst (pc := 16) dX11_exchanges_16 (ic_i_0) ?_
  refine jo_istore (pc := 17) (lv' := [(4, .int 0), (3, .int v2), (2, .int v1), (0, .ref (adr w 306)), (1, .int x0)]) dX11_exchanges_17 (ltb rfl) rfl ?_
  refine jo_iload_n (pc := 19) 2 rfl dX11_exchanges_19 rfl ?_
  refine jo_iconst (pc := 20) dX11_exchanges_20 (ic_i_1) ?_
  refine jo_iadd (pc := 21) dX11_exchanges_21 ?_
  refine jo_bd ?_
  refine jo_istore (pc := 22) (lv' := [(5, .int (v1 + 1)), (4, .int 0), (3, .int v2), (2, .int v1), (0, .ref (adr w 306)), (1, .int x0)]) dX11_exchanges_22 (ltb rfl) rfl ?_
  generalize (v1 + 1) = v3
  refine jo_join1 (S := Int32) (fun (z4 : Int32) => σ) (fun (z4 : Int32) => [(3, .int v2), (2, .int v1), (0, .ref (adr w 306)), (1, .int x0), (4, .int z4)]) (fun (z4 : Int32) => []) 52 ?_ (fun h52_4 => ?_)
  · intro i4
    show JO w mu_X11_exchanges vV σ [(3, .int v2), (2, .int v1), (0, .ref (adr w 306)), (1, .int x0), (4, .int i4)] [] 52 (j_X11_exchanges_52 σ x0 v1 v2 i4) _
    unfold j_X11_exchanges_52
    refine jo_aload_n (pc := 52) 2 rfl dX11_exchanges_52 rfl ?_
    refine jo_getf (pc := 53) ok_11_6 (ik_306 hw hN) gw_1299 dX11_exchanges_53 (fun v5 => ?_)
    refine jo_iconst (pc := 56) dX11_exchanges_56 (ic_i_1) ?_
    refine jo_isub (pc := 57) dX11_exchanges_57 ?_
    refine jo_bd ?_
    refine jo_istore (pc := 58) (lv' := [(5, .int (v5 - 1)), (3, .int v2), (2, .int v1), (0, .ref (adr w 306)), (1, .int x0), (4, .int i4)]) dX11_exchanges_58 (ltb rfl) rfl ?_
    generalize (v5 - 1) = v6
    refine jo_join1 (S := Mem) (fun (z7 : Mem) => z7) (fun (z7 : Mem) => [(3, .int v2), (2, .int v1), (0, .ref (adr w 306)), (1, .int x0), (4, .int i4)]) (fun (z7 : Mem) => []) 91 ?_ (fun h91_7 => ?_)
    · intro σ7
      show JO w mu_X11_exchanges vV σ7 [(3, .int v2), (2, .int v1), (0, .ref (adr w 306)), (1, .int x0), (4, .int i4)] [] 91 (j_X11_exchanges_91 x0 v1 v2 i4 σ7) _
      unfold j_X11_exchanges_91
      refine jo_aload_n (pc := 91) 2 rfl dX11_exchanges_91 rfl ?_
      refine jo_aload_n (pc := 92) 2 rfl dX11_exchanges_92 rfl ?_
      refine jo_getf (pc := 93) ok_11_6 (ik_306 hw hN) gw_1299 dX11_exchanges_93 (fun v8 => ?_)
      refine jo_iload (pc := 96) 4 rfl dX11_exchanges_96 ?_
      refine jo_iadd (pc := 98) dX11_exchanges_98 ?_
      refine jo_putf (pc := 99) ok_11_6 okp_11_6 (ik_306 hw hN) gw_1299 dX11_exchanges_99 (fun σ9 => ?_)
      refine jo_aload_n (pc := 102) 2 rfl dX11_exchanges_102 rfl ?_
      refine jo_getrE (pc := 103) ok_11_5 (ik_306 hw hN) rf_306_5 gw_1298 dX11_exchanges_103 ?_
      refine jo_iload_n (pc := 106) 3 rfl dX11_exchanges_106 rfl ?_
      refine jo_iload_n (pc := 107) 0 rfl dX11_exchanges_107 rfl ?_
      refine jo_iast (pc := 108) (ik_309 hw hN) dX11_exchanges_108 (fun σ10 => ?_)
      refine jo_aload_n (pc := 109) 2 rfl dX11_exchanges_109 rfl ?_
      refine jo_getrE (pc := 110) ok_11_5 (ik_306 hw hN) rf_306_5 gw_1298 dX11_exchanges_110 ?_
      refine jo_iload_n (pc := 113) 3 rfl dX11_exchanges_113 rfl ?_
      refine jo_iconst (pc := 114) dX11_exchanges_114 (ic_i_1) ?_
      refine jo_iadd (pc := 115) dX11_exchanges_115 ?_
      refine jo_iload_n (pc := 116) 1 rfl dX11_exchanges_116 rfl ?_
      refine jo_iast (pc := 117) (ik_309 hw hN) dX11_exchanges_117 (fun σ11 => ?_)
      refine jo_iload_n (pc := 118) 3 rfl dX11_exchanges_118 rfl ?_
      refine jo_iconst (pc := 119) dX11_exchanges_119 (ic_i_2) ?_
      refine jo_iadd (pc := 120) dX11_exchanges_120 ?_
      refine jo_bd ?_
      refine jo_istore (pc := 121) (lv' := [(5, .int (x0 + 2)), (3, .int v2), (2, .int v1), (0, .ref (adr w 306)), (1, .int x0), (4, .int i4)]) dX11_exchanges_121 (ltb rfl) rfl ?_
      generalize (x0 + 2) = v12
      refine jo_iload_n (pc := 123) 2 rfl dX11_exchanges_123 rfl ?_
      refine jo_iconst (pc := 124) dX11_exchanges_124 (ic_i_1) ?_
      refine jo_iadd (pc := 125) dX11_exchanges_125 ?_
      refine jo_bd ?_
      refine jo_istore (pc := 126) (lv' := [(6, .int (v1 + 1)), (5, .int v12), (3, .int v2), (2, .int v1), (0, .ref (adr w 306)), (1, .int x0), (4, .int i4)]) dX11_exchanges_126 (ltb rfl) rfl ?_
      generalize (v1 + 1) = v13
      refine jo_join1 (S := Mem) (fun (z14 : Mem) => z14) (fun (z14 : Mem) => [(0, .ref (adr w 306))]) (fun (z14 : Mem) => []) 179 ?_ (fun h179_14 => ?_)
      · intro σ14
        show JO w mu_X11_exchanges vV σ14 [(0, .ref (adr w 306))] [] 179 (j_X11_exchanges_179 σ14) _
        unfold j_X11_exchanges_179
        refine jo_aload_n (pc := 179) 0 rfl dX11_exchanges_179 rfl ?_
        refine jo_aload_n (pc := 180) 0 rfl dX11_exchanges_180 rfl ?_
        refine jo_getf (pc := 181) ok_11_7 (ik_306 hw hN) gw_1300 dX11_exchanges_181 (fun v15 => ?_)
        refine jo_iconst (pc := 184) dX11_exchanges_184 (ic_i_1) ?_
        refine jo_iadd (pc := 185) dX11_exchanges_185 ?_
        refine jo_putf (pc := 186) ok_11_7 okp_11_7 (ik_306 hw hN) gw_1300 dX11_exchanges_186 (fun σ16 => ?_)
        exact jo_return (pc := 189) rfl rfl dX11_exchanges_189
      · refine jo_lv (lv' := [(3, .int v2), (2, .int v1), (0, .ref (adr w 306)), (5, .int v12), (6, .int v13)]) [2, 3, 4, 1, 0] rfl ?_
        refine jo_loop (X := Mem) (fun (z19 : (Mem × Int32 × Int32)) => z19.1) (fun (z19 : (Mem × Int32 × Int32)) => [(3, .int v2), (2, .int v1), (0, .ref (adr w 306)), (5, .int z19.2.1), (6, .int z19.2.2)]) (body := (fun (z19 : (Mem × Int32 × Int32)) => l_X11_exchanges_128 v1 v2 z19.1 z19.2.1 z19.2.2)) (fun F128_19 hF128_19 s => ?_) (σ11, v12, v13)
        obtain ⟨σ17, i18, i19⟩ := s
        show JO w mu_X11_exchanges vV σ17 [(3, .int v2), (2, .int v1), (0, .ref (adr w 306)), (5, .int i18), (6, .int i19)] [] 128 (l_X11_exchanges_128 v1 v2 σ17 i18 i19) _
        unfold l_X11_exchanges_128
        refine jo_iload (pc := 128) 4 rfl dX11_exchanges_128 ?_
        refine jo_aload_n (pc := 130) 2 rfl dX11_exchanges_130 rfl ?_
        refine jo_cV_I_p (pc := 131) (μ' := mu_X11_n) (fx := f_X11_n σ17) (As := []) (c_X11_n hw hN) (ok_X11_n) (ltb rfl) (all3 gw_1441 gw_1443 gw_68) (ik_306 hw hN) (by decide) (q := (RX11, TX11, 39)) rfl rfl rfl rfl (Nat.le_of_ble_eq_true rfl) dX11_exchanges_131 (fun v20 => ?_)
        refine jo_icmp_ge (pc := 134) dX11_exchanges_134 (tgt := 179) rfl ?_ ?_
        · refine jo_lv (lv' := [(0, .ref (adr w 306))]) [2] rfl ?_
          exact jo_leaf (by rfl) (h179_14 σ17)
        · refine jo_aload_n (pc := 137) 2 rfl dX11_exchanges_137 rfl ?_
          refine jo_iload_n (pc := 138) 1 rfl dX11_exchanges_138 rfl ?_
          refine jo_iload_n (pc := 139) 0 rfl dX11_exchanges_139 rfl ?_
          refine jo_iload (pc := 140) 4 rfl dX11_exchanges_140 ?_
          refine jo_cV_I_p (pc := 142) (μ' := mu_X11_tail) (fx := f_X11_tail σ17 v1 v2 i19) (As := [.int v1, .int v2, .int i19]) (c_X11_tail hw hN) (ok_X11_tail) (ltb rfl) (all3 gw_1495 gw_1497 gw_79) (ik_306 hw hN) (by decide) (q := (RX11, TX11, 39)) rfl rfl rfl rfl (Nat.le_of_ble_eq_true rfl) dX11_exchanges_142 (fun v21 => ?_)
          refine jo_istore (pc := 145) (lv' := [(7, .int v21), (3, .int v2), (2, .int v1), (0, .ref (adr w 306)), (5, .int i18), (6, .int i19)]) dX11_exchanges_145 (ltb rfl) rfl ?_
          refine jo_join1 (S := (Mem × Int32)) (fun (z23 : (Mem × Int32)) => z23.1) (fun (z23 : (Mem × Int32)) => [(3, .int v2), (2, .int v1), (0, .ref (adr w 306)), (6, .int i19), (5, .int z23.2)]) (fun (z23 : (Mem × Int32)) => []) 173 ?_ (fun h173_23 => ?_)
          · intro s
            obtain ⟨σ22, i23⟩ := s
            show JO w mu_X11_exchanges vV σ22 [(3, .int v2), (2, .int v1), (0, .ref (adr w 306)), (6, .int i19), (5, .int i23)] [] 173 (j_X11_exchanges_173 i19 σ22 i23) _
            unfold j_X11_exchanges_173
            refine jo_iinc (pc := 173) (lv' := [(6, .int (i19 + 1)), (3, .int v2), (2, .int v1), (0, .ref (adr w 306)), (5, .int i23)]) 3 rfl dX11_exchanges_173 (congrArg (fun z => i19 + z) (ic_i_1)) (ltb rfl) rfl ?_
            refine jo_goto (pc := 176) dX11_exchanges_176 (tgt := 128) rfl ?_
            refine jo_lv (lv' := [(3, .int v2), (2, .int v1), (0, .ref (adr w 306)), (5, .int i23), (6, .int (i19 + 1))]) [1, 2, 3, 4, 0] rfl ?_
            exact jo_leaf (by rfl) (hF128_19 (σ22, i23, i19 + 1))
          · refine jo_lv (lv' := [(3, .int v2), (2, .int v1), (0, .ref (adr w 306)), (6, .int i19), (5, .int i18), (7, .int v21)]) [1, 2, 3, 5, 4, 0] rfl ?_
            refine jo_loop (X := (Mem × Int32)) (fun (z26 : (Mem × Int32 × Int32)) => z26.1) (fun (z26 : (Mem × Int32 × Int32)) => [(3, .int v2), (2, .int v1), (0, .ref (adr w 306)), (6, .int i19), (5, .int z26.2.1), (7, .int z26.2.2)]) (body := (fun (z26 : (Mem × Int32 × Int32)) => l_X11_exchanges_147 i19 z26.1 z26.2.1 z26.2.2)) (fun F147_26 hF147_26 s => ?_) (σ17, i18, v21)
            obtain ⟨σ24, i25, i26⟩ := s
            show JO w mu_X11_exchanges vV σ24 [(3, .int v2), (2, .int v1), (0, .ref (adr w 306)), (6, .int i19), (5, .int i25), (7, .int i26)] [] 147 (l_X11_exchanges_147 i19 σ24 i25 i26) _
            unfold l_X11_exchanges_147
            refine jo_iload (pc := 147) 5 rfl dX11_exchanges_147 ?_
            refine jo_if_le (pc := 149) dX11_exchanges_149 (tgt := 173) rfl ?_ ?_
            · refine jo_lv (lv' := [(3, .int v2), (2, .int v1), (0, .ref (adr w 306)), (6, .int i19), (5, .int i25)]) [0, 1, 2, 3, 4] rfl ?_
              exact jo_leaf (by rfl) (h173_23 (σ24, i25))
            · refine jo_aload_n (pc := 152) 2 rfl dX11_exchanges_152 rfl ?_
              refine jo_getrE (pc := 153) ok_11_5 (ik_306 hw hN) rf_306_5 gw_1298 dX11_exchanges_153 ?_
              refine jo_iload (pc := 156) 4 rfl dX11_exchanges_156 ?_
              refine jo_iload (pc := 158) 3 rfl dX11_exchanges_158 ?_
              refine jo_iast (pc := 160) (ik_309 hw hN) dX11_exchanges_160 (fun σ27 => ?_)
              refine jo_iload (pc := 161) 4 rfl dX11_exchanges_161 ?_
              refine jo_iconst (pc := 163) dX11_exchanges_163 (ic_i_1) ?_
              refine jo_iadd (pc := 164) dX11_exchanges_164 ?_
              refine jo_bd ?_
              refine jo_istore (pc := 165) (lv' := [(5, .int (i25 + 1)), (3, .int v2), (2, .int v1), (0, .ref (adr w 306)), (6, .int i19), (7, .int i26)]) dX11_exchanges_165 (ltb rfl) rfl ?_
              generalize (i25 + 1) = v28
              refine jo_iinc (pc := 167) (lv' := [(7, .int (i26 + (-1))), (5, .int v28), (3, .int v2), (2, .int v1), (0, .ref (adr w 306)), (6, .int i19)]) 5 rfl dX11_exchanges_167 (congrArg (fun z => i26 + z) (ic_i_m1)) (ltb rfl) rfl ?_
              refine jo_goto (pc := 170) dX11_exchanges_170 (tgt := 147) rfl ?_
              refine jo_lv (lv' := [(3, .int v2), (2, .int v1), (0, .ref (adr w 306)), (6, .int i19), (5, .int v28), (7, .int (i26 + (-1)))]) [2, 3, 4, 5, 1, 0] rfl ?_
              exact jo_leaf (by rfl) (hF147_26 (σ27, v28, i26 + (-1)))
    · refine jo_lv (lv' := [(3, .int v2), (2, .int v1), (0, .ref (adr w 306)), (1, .int x0), (4, .int i4), (5, .int v6)]) [1, 2, 3, 4, 5, 0] rfl ?_
      refine jo_loop (X := Mem) (fun (z30 : (Mem × Int32)) => z30.1) (fun (z30 : (Mem × Int32)) => [(3, .int v2), (2, .int v1), (0, .ref (adr w 306)), (1, .int x0), (4, .int i4), (5, .int z30.2)]) (body := (fun (z30 : (Mem × Int32)) => l_X11_exchanges_60 x0 i4 z30.1 z30.2)) (fun F60_30 hF60_30 s => ?_) (σ, v6)
      obtain ⟨σ29, i30⟩ := s
      show JO w mu_X11_exchanges vV σ29 [(3, .int v2), (2, .int v1), (0, .ref (adr w 306)), (1, .int x0), (4, .int i4), (5, .int i30)] [] 60 (l_X11_exchanges_60 x0 i4 σ29 i30) _
      unfold l_X11_exchanges_60
      refine jo_iload (pc := 60) 5 rfl dX11_exchanges_60 ?_
      refine jo_iload_n (pc := 62) 3 rfl dX11_exchanges_62 rfl ?_
      refine jo_iconst (pc := 63) dX11_exchanges_63 (ic_i_1) ?_
      refine jo_iadd (pc := 64) dX11_exchanges_64 ?_
      refine jo_icmp_le (pc := 65) dX11_exchanges_65 (tgt := 91) rfl ?_ ?_
      · refine jo_lv (lv' := [(3, .int v2), (2, .int v1), (0, .ref (adr w 306)), (1, .int x0), (4, .int i4)]) [0, 1, 2, 3, 4] rfl ?_
        exact jo_leaf (by rfl) (h91_7 σ29)
      · refine jo_aload_n (pc := 68) 2 rfl dX11_exchanges_68 rfl ?_
        refine jo_getrE (pc := 69) ok_11_5 (ik_306 hw hN) rf_306_5 gw_1298 dX11_exchanges_69 ?_
        refine jo_iload (pc := 72) 5 rfl dX11_exchanges_72 ?_
        refine jo_iload (pc := 74) 4 rfl dX11_exchanges_74 ?_
        refine jo_iadd (pc := 76) dX11_exchanges_76 ?_
        refine jo_aload_n (pc := 77) 2 rfl dX11_exchanges_77 rfl ?_
        refine jo_getrE (pc := 78) ok_11_5 (ik_306 hw hN) rf_306_5 gw_1298 dX11_exchanges_78 ?_
        refine jo_iload (pc := 81) 5 rfl dX11_exchanges_81 ?_
        refine jo_iald (pc := 83) (ik_309 hw hN) dX11_exchanges_83 (fun v31 => ?_)
        refine jo_iast (pc := 84) (ik_309 hw hN) dX11_exchanges_84 (fun σ32 => ?_)
        refine jo_iinc (pc := 85) (lv' := [(5, .int (i30 + (-1))), (3, .int v2), (2, .int v1), (0, .ref (adr w 306)), (1, .int x0), (4, .int i4)]) 5 rfl dX11_exchanges_85 (congrArg (fun z => i30 + z) (ic_i_m1)) (ltb rfl) rfl ?_
        refine jo_goto (pc := 88) dX11_exchanges_88 (tgt := 60) rfl ?_
        refine jo_lv (lv' := [(3, .int v2), (2, .int v1), (0, .ref (adr w 306)), (1, .int x0), (4, .int i4), (5, .int (i30 + (-1)))]) [1, 2, 3, 4, 5, 0] rfl ?_
        exact jo_leaf (by rfl) (hF60_30 (σ32, i30 + (-1)))
  · refine jo_lv (lv' := [(3, .int v2), (2, .int v1), (0, .ref (adr w 306)), (1, .int x0), (4, .int 0), (5, .int v3)]) [2, 3, 4, 5, 1, 0] rfl ?_
    refine jo_loop (X := Int32) (fun (z34 : (Int32 × Int32)) => σ) (fun (z34 : (Int32 × Int32)) => [(3, .int v2), (2, .int v1), (0, .ref (adr w 306)), (1, .int x0), (4, .int z34.1), (5, .int z34.2)]) (body := (fun (z34 : (Int32 × Int32)) => l_X11_exchanges_24 σ v1 v2 z34.1 z34.2)) (fun F24_34 hF24_34 s => ?_) (0, v3)
    obtain ⟨i33, i34⟩ := s
    show JO w mu_X11_exchanges vV σ [(3, .int v2), (2, .int v1), (0, .ref (adr w 306)), (1, .int x0), (4, .int i33), (5, .int i34)] [] 24 (l_X11_exchanges_24 σ v1 v2 i33 i34) _
    unfold l_X11_exchanges_24
    refine jo_iload (pc := 24) 5 rfl dX11_exchanges_24 ?_
    refine jo_aload_n (pc := 26) 2 rfl dX11_exchanges_26 rfl ?_
    refine jo_cV_I_p (pc := 27) (μ' := mu_X11_n) (fx := f_X11_n σ) (As := []) (c_X11_n hw hN) (ok_X11_n) (ltb rfl) (all3 gw_1441 gw_1443 gw_68) (ik_306 hw hN) (by decide) (q := (RX11, TX11, 39)) rfl rfl rfl rfl (Nat.le_of_ble_eq_true rfl) dX11_exchanges_27 (fun v35 => ?_)
    refine jo_icmp_ge (pc := 30) dX11_exchanges_30 (tgt := 52) rfl ?_ ?_
    · refine jo_lv (lv' := [(3, .int v2), (2, .int v1), (0, .ref (adr w 306)), (1, .int x0), (4, .int i33)]) [0, 1, 2, 3, 4] rfl ?_
      exact jo_leaf (by rfl) (h52_4 i33)
    · refine jo_iload (pc := 33) 4 rfl dX11_exchanges_33 ?_
      refine jo_aload_n (pc := 35) 2 rfl dX11_exchanges_35 rfl ?_
      refine jo_iload_n (pc := 36) 1 rfl dX11_exchanges_36 rfl ?_
      refine jo_iload_n (pc := 37) 0 rfl dX11_exchanges_37 rfl ?_
      refine jo_iload (pc := 38) 5 rfl dX11_exchanges_38 ?_
      refine jo_cV_I_p (pc := 40) (μ' := mu_X11_tail) (fx := f_X11_tail σ v1 v2 i34) (As := [.int v1, .int v2, .int i34]) (c_X11_tail hw hN) (ok_X11_tail) (ltb rfl) (all3 gw_1495 gw_1497 gw_79) (ik_306 hw hN) (by decide) (q := (RX11, TX11, 39)) rfl rfl rfl rfl (Nat.le_of_ble_eq_true rfl) dX11_exchanges_40 (fun v36 => ?_)
      refine jo_iadd (pc := 43) dX11_exchanges_43 ?_
      refine jo_bd ?_
      refine jo_istore (pc := 44) (lv' := [(4, .int (i33 + v36)), (3, .int v2), (2, .int v1), (0, .ref (adr w 306)), (1, .int x0), (5, .int i34)]) dX11_exchanges_44 (ltb rfl) rfl ?_
      generalize (i33 + v36) = v37
      refine jo_iinc (pc := 46) (lv' := [(5, .int (i34 + 1)), (4, .int v37), (3, .int v2), (2, .int v1), (0, .ref (adr w 306)), (1, .int x0)]) 5 rfl dX11_exchanges_46 (congrArg (fun z => i34 + z) (ic_i_1)) (ltb rfl) rfl ?_
      refine jo_goto (pc := 49) dX11_exchanges_49 (tgt := 24) rfl ?_
      refine jo_lv (lv' := [(3, .int v2), (2, .int v1), (0, .ref (adr w 306)), (1, .int x0), (4, .int v37), (5, .int (i34 + 1))]) [2, 3, 4, 5, 1, 0] rfl ?_
      exact jo_leaf (by rfl) (hF24_34 (v37, i34 + 1))
theorem c_X11_exchanges {w : Wd} (hw : WOK w) (hN : wn w = NT) {σ : Mem} {x0 : Int32} : ∀ σ', f_X11_exchanges σ x0 = some σ' → MC w mu_X11_exchanges none [.ref (adr w 306), .int x0] σ σ' := mc_ofV ok_X11_exchanges rfl (Nat.le_of_ble_eq_true rfl) (t_X11_exchanges hw hN)
abbrev mu_X11_collects : MD := (yX11_collects, cX11_collects, 2, some .boolean, 2)
theorem ok_X11_collects : MOK mu_X11_collects 0 := ⟨gw_1502, gw_171, (by decide +kernel : plainFor yX11_collects = true), ⟨(by decide +kernel : yX11_collects.cls ≠ "java/lang/invoke/MethodHandle"), (by decide +kernel : yX11_collects.cls ≠ "java/lang/invoke/VarHandle"), (by decide +kernel : (parseMethodDescriptor yX11_collects.desc).map (fun d => d.parameters.length) = some 0)⟩, Nat.le_of_ble_eq_true rfl⟩
noncomputable def j_X11_collects_64 (σ7 : Mem) (i8 : Int32) : Option ((Mem × Int32) ⊕ (Bool × Mem)) :=
  some (Sum.inl (σ7, i8))
noncomputable def l_X11_collects_2 (σ1 : Mem) (i2 : Int32) : Option ((Mem × Int32) ⊕ (Bool × Mem)) :=
  gF σ1 306 6 (fun (v3 : Int32) => if v3 ≤ (i2 + 1) then (some (Sum.inr (true, σ1))) else (gI σ1 309 i2 (fun (v4 : Int32) => gI σ1 309 (i2 + 1) (fun (v5 : Int32) => if v5 < v4 then (gF σ1 306 7 (fun (v6 : Int32) => if v6 = 1000 then (some (Sum.inr (false, σ1))) else ((f_X11_exchanges σ1 i2).bind (fun (σ7 : Mem) => (if i2 ≤ 0 then (some 0) else (some (i2 - 1)) : Option Int32).bind (fun (z8 : Int32) => j_X11_collects_64 σ7 z8))))) else (bd (i2 + 1) (fun (v9 : Int32) => some (Sum.inl (σ1, v9))))))))
noncomputable def f_X11_collects (σ : Mem) : Option (Bool × Mem) :=
  loopO (fun (z2 : (Mem × Int32)) => l_X11_collects_2 z2.1 z2.2) (σ, 0)
theorem t_X11_collects {w : Wd} (hw : WOK w) (hN : wn w = NT) {σ : Mem} : JO w mu_X11_collects vB σ [(0, .ref (adr w 306))] [] 0 (f_X11_collects σ) some := by
  unfold f_X11_collects
  refine jo_iconst (pc := 0) dX11_collects_0 (ic_i_0) ?_
  refine jo_istore_n (pc := 1) (lv' := [(1, .int 0), (0, .ref (adr w 306))]) dX11_collects_1 rfl (ltb rfl) rfl ?_
  refine jo_lv (lv' := [(0, .ref (adr w 306)), (1, .int 0)]) [1, 0] rfl ?_
  refine jo_loop (X := (Bool × Mem)) (fun (z2 : (Mem × Int32)) => z2.1) (fun (z2 : (Mem × Int32)) => [(0, .ref (adr w 306)), (1, .int z2.2)]) (body := (fun (z2 : (Mem × Int32)) => l_X11_collects_2 z2.1 z2.2)) (fun F2_2 hF2_2 s => ?_) (σ, 0)
  obtain ⟨σ1, i2⟩ := s
  show JO w mu_X11_collects vB σ1 [(0, .ref (adr w 306)), (1, .int i2)] [] 2 (l_X11_collects_2 σ1 i2) _
  unfold l_X11_collects_2
  refine jo_iload_n (pc := 2) 1 rfl dX11_collects_2 rfl ?_
  refine jo_iconst (pc := 3) dX11_collects_3 (ic_i_1) ?_
  refine jo_iadd (pc := 4) dX11_collects_4 ?_
  refine jo_aload_n (pc := 5) 0 rfl dX11_collects_5 rfl ?_
  refine jo_getf (pc := 6) ok_11_6 (ik_306 hw hN) gw_1299 dX11_collects_6 (fun v3 => ?_)
  refine jo_icmp_ge (pc := 9) dX11_collects_9 (tgt := 68) rfl ?_ ?_
  · refine jo_iconst (pc := 68) dX11_collects_68 (ic_i_1) ?_
    exact jo_breturn (pc := 69) (b := true) rfl rfl dX11_collects_69
  · refine jo_aload_n (pc := 12) 0 rfl dX11_collects_12 rfl ?_
    refine jo_getrE (pc := 13) ok_11_5 (ik_306 hw hN) rf_306_5 gw_1298 dX11_collects_13 ?_
    refine jo_iload_n (pc := 16) 1 rfl dX11_collects_16 rfl ?_
    refine jo_iald (pc := 17) (ik_309 hw hN) dX11_collects_17 (fun v4 => ?_)
    refine jo_aload_n (pc := 18) 0 rfl dX11_collects_18 rfl ?_
    refine jo_getrE (pc := 19) ok_11_5 (ik_306 hw hN) rf_306_5 gw_1298 dX11_collects_19 ?_
    refine jo_iload_n (pc := 22) 1 rfl dX11_collects_22 rfl ?_
    refine jo_iconst (pc := 23) dX11_collects_23 (ic_i_1) ?_
    refine jo_iadd (pc := 24) dX11_collects_24 ?_
    refine jo_iald (pc := 25) (ik_309 hw hN) dX11_collects_25 (fun v5 => ?_)
    refine jo_icmp_gt (pc := 26) dX11_collects_26 (tgt := 36) rfl ?_ ?_
    · refine jo_aload_n (pc := 36) 0 rfl dX11_collects_36 rfl ?_
      refine jo_getf (pc := 37) ok_11_7 (ik_306 hw hN) gw_1300 dX11_collects_37 (fun v6 => ?_)
      refine jo_sipush (pc := 40) dX11_collects_40 (ic_s_1000) ?_
      refine jo_icmp_ne (pc := 43) dX11_collects_43 (tgt := 48) rfl ?_ ?_
      · refine jo_aload_n (pc := 48) 0 rfl dX11_collects_48 rfl ?_
        refine jo_iload_n (pc := 49) 1 rfl dX11_collects_49 rfl ?_
        refine jo_cV_V_i (pc := 50) (μ' := mu_X11_exchanges) (fx := f_X11_exchanges σ1 i2) (As := [.int i2]) (c_X11_exchanges hw hN) (ok_X11_exchanges) (ltb rfl) (all3 gw_1491 gw_1493 gw_78) (ik_306 hw hN) (by decide) (q := (RX11, TX11, 39)) rfl rfl rfl rfl (Nat.le_of_ble_eq_true rfl) dX11_collects_50 (fun σ7 => ?_)
        refine jo_iload_n (pc := 53) 1 rfl dX11_collects_53 rfl ?_
        refine jo_join1 (S := Int32) (fun (z8 : Int32) => σ7) (fun (z8 : Int32) => [(0, .ref (adr w 306))]) (fun (z8 : Int32) => [.int z8]) 64 ?_ (fun h64_8 => ?_)
        · intro i8
          show JO w mu_X11_collects vB σ7 [(0, .ref (adr w 306))] [.int i8] 64 (j_X11_collects_64 σ7 i8) _
          unfold j_X11_collects_64
          refine jo_istore_n (pc := 64) (lv' := [(1, .int i8), (0, .ref (adr w 306))]) dX11_collects_64 rfl (ltb rfl) rfl ?_
          refine jo_goto (pc := 65) dX11_collects_65 (tgt := 2) rfl ?_
          refine jo_lv (lv' := [(0, .ref (adr w 306)), (1, .int i8)]) [1, 0] rfl ?_
          exact jo_leaf (by rfl) (hF2_2 (σ7, i8))
        · refine jo_if_le (pc := 54) dX11_collects_54 (tgt := 63) rfl ?_ ?_
          · refine jo_iconst (pc := 63) dX11_collects_63 (ic_i_0) ?_
            refine jo_lv (lv' := [(0, .ref (adr w 306))]) [0] rfl ?_
            exact jo_leaf (by rfl) (h64_8 0)
          · refine jo_iload_n (pc := 57) 1 rfl dX11_collects_57 rfl ?_
            refine jo_iconst (pc := 58) dX11_collects_58 (ic_i_1) ?_
            refine jo_isub (pc := 59) dX11_collects_59 ?_
            refine jo_goto (pc := 60) dX11_collects_60 (tgt := 64) rfl ?_
            refine jo_lv (lv' := [(0, .ref (adr w 306))]) [0] rfl ?_
            exact jo_leaf (by rfl) (h64_8 (i2 - 1))
      · refine jo_iconst (pc := 46) dX11_collects_46 (ic_i_0) ?_
        exact jo_breturn (pc := 47) (b := false) rfl rfl dX11_collects_47
    · refine jo_iload_n (pc := 29) 1 rfl dX11_collects_29 rfl ?_
      refine jo_iconst (pc := 30) dX11_collects_30 (ic_i_1) ?_
      refine jo_iadd (pc := 31) dX11_collects_31 ?_
      refine jo_bd ?_
      refine jo_istore_n (pc := 32) (lv' := [(1, .int (i2 + 1)), (0, .ref (adr w 306))]) dX11_collects_32 rfl (ltb rfl) rfl ?_
      generalize (i2 + 1) = v9
      refine jo_goto (pc := 33) dX11_collects_33 (tgt := 2) rfl ?_
      refine jo_lv (lv' := [(0, .ref (adr w 306)), (1, .int v9)]) [1, 0] rfl ?_
      exact jo_leaf (by rfl) (hF2_2 (σ1, v9))
theorem c_X11_collects {w : Wd} (hw : WOK w) (hN : wn w = NT) {σ : Mem} : ∀ r σ', f_X11_collects σ = some (r, σ') → MC w mu_X11_collects (vB r) [.ref (adr w 306)] σ σ' := mc_of ok_X11_collects rfl (Nat.le_of_ble_eq_true rfl) (t_X11_collects hw hN)
abbrev mu_X11_letters : MD := (yX11_letters, cX11_letters, 4, some .int, 0)
theorem ok_X11_letters : MOK mu_X11_letters 1 := ⟨gw_1506, gw_171, (by decide +kernel : plainFor yX11_letters = true), ⟨(by decide +kernel : yX11_letters.cls ≠ "java/lang/invoke/MethodHandle"), (by decide +kernel : yX11_letters.cls ≠ "java/lang/invoke/VarHandle"), (by decide +kernel : (parseMethodDescriptor yX11_letters.desc).map (fun d => d.parameters.length) = some 1)⟩, Nat.le_of_ble_eq_true rfl⟩
noncomputable def j_X11_letters_26 (i2 : Int32) (i5 : Int32) : Option ((Int32 × Int32) ⊕ Int32) :=
  some (Sum.inl (i5, i2 + 1))
noncomputable def l_X11_letters_4 (σ : Mem) (x0 : Int32) (i1 : Int32) (i2 : Int32) : Option ((Int32 × Int32) ⊕ Int32) :=
  gF σ 306 6 (fun (v3 : Int32) => if v3 ≤ i2 then (some (Sum.inr i1)) else (gI σ 309 i2 (fun (v4 : Int32) => (if v4 = x0 then (bd (i1 + 1) (fun (v6 : Int32) => some v6)) else (some i1) : Option Int32).bind (fun (z5 : Int32) => j_X11_letters_26 i2 z5))))
noncomputable def f_X11_letters (σ : Mem) (x0 : Int32) : Option Int32 :=
  loopO (fun (z2 : (Int32 × Int32)) => l_X11_letters_4 σ x0 z2.1 z2.2) (0, 0)
theorem t_X11_letters {w : Wd} (hw : WOK w) (hN : wn w = NT) {σ : Mem} {x0 : Int32} : JO w mu_X11_letters vI σ [(0, .ref (adr w 306)), (1, .int x0)] [] 0 (f_X11_letters σ x0) (fun z => some (z, σ)) := by
  unfold f_X11_letters
  refine jo_iconst (pc := 0) dX11_letters_0 (ic_i_0) ?_
  refine jo_istore_n (pc := 1) (lv' := [(2, .int 0), (0, .ref (adr w 306)), (1, .int x0)]) dX11_letters_1 rfl (ltb rfl) rfl ?_
  refine jo_iconst (pc := 2) dX11_letters_2 (ic_i_0) ?_
  refine jo_istore_n (pc := 3) (lv' := [(3, .int 0), (2, .int 0), (0, .ref (adr w 306)), (1, .int x0)]) dX11_letters_3 rfl (ltb rfl) rfl ?_
  refine jo_lv (lv' := [(0, .ref (adr w 306)), (1, .int x0), (2, .int 0), (3, .int 0)]) [2, 3, 1, 0] rfl ?_
  refine jo_loop (X := Int32) (fun (z2 : (Int32 × Int32)) => σ) (fun (z2 : (Int32 × Int32)) => [(0, .ref (adr w 306)), (1, .int x0), (2, .int z2.1), (3, .int z2.2)]) (body := (fun (z2 : (Int32 × Int32)) => l_X11_letters_4 σ x0 z2.1 z2.2)) (fun F4_2 hF4_2 s => ?_) (0, 0)
  obtain ⟨i1, i2⟩ := s
  show JO w mu_X11_letters vI σ [(0, .ref (adr w 306)), (1, .int x0), (2, .int i1), (3, .int i2)] [] 4 (l_X11_letters_4 σ x0 i1 i2) _
  unfold l_X11_letters_4
  refine jo_iload_n (pc := 4) 3 rfl dX11_letters_4 rfl ?_
  refine jo_aload_n (pc := 5) 0 rfl dX11_letters_5 rfl ?_
  refine jo_getf (pc := 6) ok_11_6 (ik_306 hw hN) gw_1299 dX11_letters_6 (fun v3 => ?_)
  refine jo_icmp_ge (pc := 9) dX11_letters_9 (tgt := 32) rfl ?_ ?_
  · refine jo_iload_n (pc := 32) 2 rfl dX11_letters_32 rfl ?_
    exact jo_ireturn (pc := 33) rfl rfl dX11_letters_33
  · refine jo_aload_n (pc := 12) 0 rfl dX11_letters_12 rfl ?_
    refine jo_getrE (pc := 13) ok_11_5 (ik_306 hw hN) rf_306_5 gw_1298 dX11_letters_13 ?_
    refine jo_iload_n (pc := 16) 3 rfl dX11_letters_16 rfl ?_
    refine jo_iald (pc := 17) (ik_309 hw hN) dX11_letters_17 (fun v4 => ?_)
    refine jo_iload_n (pc := 18) 1 rfl dX11_letters_18 rfl ?_
    refine jo_join1 (S := Int32) (fun (z5 : Int32) => σ) (fun (z5 : Int32) => [(0, .ref (adr w 306)), (1, .int x0), (3, .int i2), (2, .int z5)]) (fun (z5 : Int32) => []) 26 ?_ (fun h26_5 => ?_)
    · intro i5
      show JO w mu_X11_letters vI σ [(0, .ref (adr w 306)), (1, .int x0), (3, .int i2), (2, .int i5)] [] 26 (j_X11_letters_26 i2 i5) _
      unfold j_X11_letters_26
      refine jo_iinc (pc := 26) (lv' := [(3, .int (i2 + 1)), (0, .ref (adr w 306)), (1, .int x0), (2, .int i5)]) 2 rfl dX11_letters_26 (congrArg (fun z => i2 + z) (ic_i_1)) (ltb rfl) rfl ?_
      refine jo_goto (pc := 29) dX11_letters_29 (tgt := 4) rfl ?_
      refine jo_lv (lv' := [(0, .ref (adr w 306)), (1, .int x0), (2, .int i5), (3, .int (i2 + 1))]) [1, 2, 3, 0] rfl ?_
      exact jo_leaf (by rfl) (hF4_2 (i5, i2 + 1))
    · refine jo_icmp_ne (pc := 19) dX11_letters_19 (tgt := 26) rfl ?_ ?_
      · refine jo_lv (lv' := [(0, .ref (adr w 306)), (1, .int x0), (3, .int i2), (2, .int i1)]) [0, 1, 3, 2] rfl ?_
        exact jo_leaf (by rfl) (h26_5 i1)
      · refine jo_iload_n (pc := 22) 2 rfl dX11_letters_22 rfl ?_
        refine jo_iconst (pc := 23) dX11_letters_23 (ic_i_1) ?_
        refine jo_iadd (pc := 24) dX11_letters_24 ?_
        refine jo_bd ?_
        refine jo_istore_n (pc := 25) (lv' := [(2, .int (i1 + 1)), (0, .ref (adr w 306)), (1, .int x0), (3, .int i2)]) dX11_letters_25 rfl (ltb rfl) rfl ?_
        generalize (i1 + 1) = v6
        refine jo_lv (lv' := [(0, .ref (adr w 306)), (1, .int x0), (3, .int i2), (2, .int v6)]) [1, 2, 3, 0] rfl ?_
        exact jo_leaf (by rfl) (h26_5 v6)
theorem c_X11_letters {w : Wd} (hw : WOK w) (hN : wn w = NT) {σ : Mem} {x0 : Int32} : ∀ r, f_X11_letters σ x0 = some r → MC w mu_X11_letters (vI r) [.ref (adr w 306), .int x0] σ σ := mc_ofP ok_X11_letters rfl (Nat.le_of_ble_eq_true rfl) (t_X11_letters hw hN)
abbrev mu_X11_isAlikeBy : MD := (yX11_isAlikeBy, cX11_isAlikeBy, 7, some .boolean, 3)
theorem ok_X11_isAlikeBy : MOK mu_X11_isAlikeBy 3 := ⟨gw_1486, gw_171, (by decide +kernel : plainFor yX11_isAlikeBy = true), ⟨(by decide +kernel : yX11_isAlikeBy.cls ≠ "java/lang/invoke/MethodHandle"), (by decide +kernel : yX11_isAlikeBy.cls ≠ "java/lang/invoke/VarHandle"), (by decide +kernel : (parseMethodDescriptor yX11_isAlikeBy.desc).map (fun d => d.parameters.length) = some 3)⟩, Nat.le_of_ble_eq_true rfl⟩
noncomputable def j_X11_isAlikeBy_108 (i2 : Int32) (σ11 : Mem) : Option ((Mem × Int32) ⊕ (Bool × Mem)) :=
  some (Sum.inl (σ11, i2 + 1))
noncomputable def j_X11_isAlikeBy_102 (i13 : Int32) (σ15 : Mem) : Option ((Mem × Int32) ⊕ (Mem ⊕ ((Mem × Int32) ⊕ (Bool × Mem)))) :=
  some (Sum.inl (σ15, i13 + 1))
noncomputable def l_X11_isAlikeBy_49 (i2 : Int32) (b9 : Bool) (σ12 : Mem) (i13 : Int32) : Option ((Mem × Int32) ⊕ (Mem ⊕ ((Mem × Int32) ⊕ (Bool × Mem)))) :=
  (f_X11_n σ12).bind (fun (v14 : Int32) => if v14 ≤ i13 then (some (Sum.inr (Sum.inl σ12))) else (if b9 then (if i2 = 0 then ((f_X11_letters σ12 i13).bind (fun (v18 : Int32) => pI σ12 310 i13 v18 (fun (σ19 : Mem) => some (Sum.inl σ19)))) else (gI σ12 310 i13 (fun (v16 : Int32) => (f_X11_letters σ12 i13).bind (fun (v17 : Int32) => if v16 = v17 then (some (Sum.inl σ12)) else (some (Sum.inr (Sum.inr (Sum.inr (Sum.inr (false, σ12))))))))) : Option (Mem ⊕ ((Mem × Int32) ⊕ (Mem ⊕ ((Mem × Int32) ⊕ (Bool × Mem)))))).bind (Sum.elim (fun (z15 : Mem) => j_X11_isAlikeBy_102 i13 z15) some) else some (Sum.inr (Sum.inl σ12))))
noncomputable def l_X11_isAlikeBy_3 (x0 : Int32) (x1 : Int32) (x2 : Int32) (σ1 : Mem) (i2 : Int32) : Option ((Mem × Int32) ⊕ (Bool × Mem)) :=
  if 2 ≤ i2 then (some (Sum.inr (true, σ1))) else (pF σ1 306 6 0 (fun (σ3 : Mem) => pF σ3 306 7 0 (fun (σ4 : Mem) => (f_X11_writes σ4 x0).bind (fun (σ5 : Mem) => (f_X11_writes σ5 x1).bind (fun (σ6 : Mem) => (f_X11_writes σ6 x2).bind (fun (σ7 : Mem) => (f_X11_exchanges σ7 i2).bind (fun (σ8 : Mem) => bq (f_X11_collects σ8) (fun (b9 : Bool) (σ10 : Mem) => (loopO (fun (z13 : (Mem × Int32)) => l_X11_isAlikeBy_49 i2 b9 z13.1 z13.2) (σ10, 0) : Option (Mem ⊕ ((Mem × Int32) ⊕ (Bool × Mem)))).bind (Sum.elim (fun (z11 : Mem) => j_X11_isAlikeBy_108 i2 z11) some)))))))))
noncomputable def f_X11_isAlikeBy (σ : Mem) (x0 : Int32) (x1 : Int32) (x2 : Int32) : Option (Bool × Mem) :=
  loopO (fun (z2 : (Mem × Int32)) => l_X11_isAlikeBy_3 x0 x1 x2 z2.1 z2.2) (σ, 0)
theorem t_X11_isAlikeBy {w : Wd} (hw : WOK w) (hN : wn w = NT) {σ : Mem} {x0 : Int32} {x1 : Int32} {x2 : Int32} : JO w mu_X11_isAlikeBy vB σ [(0, .ref (adr w 306)), (1, .int x0), (2, .int x1), (3, .int x2)] [] 0 (f_X11_isAlikeBy σ x0 x1 x2) some := by
  unfold f_X11_isAlikeBy
  refine jo_iconst (pc := 0) dX11_isAlikeBy_0 (ic_i_0) ?_
  refine jo_istore (pc := 1) (lv' := [(4, .int 0), (0, .ref (adr w 306)), (1, .int x0), (2, .int x1), (3, .int x2)]) dX11_isAlikeBy_1 (ltb rfl) rfl ?_
  refine jo_lv (lv' := [(0, .ref (adr w 306)), (1, .int x0), (2, .int x1), (3, .int x2), (4, .int 0)]) [1, 2, 3, 4, 0] rfl ?_
  refine jo_loop (X := (Bool × Mem)) (fun (z2 : (Mem × Int32)) => z2.1) (fun (z2 : (Mem × Int32)) => [(0, .ref (adr w 306)), (1, .int x0), (2, .int x1), (3, .int x2), (4, .int z2.2)]) (body := (fun (z2 : (Mem × Int32)) => l_X11_isAlikeBy_3 x0 x1 x2 z2.1 z2.2)) (fun F3_2 hF3_2 s => ?_) (σ, 0)
  obtain ⟨σ1, i2⟩ := s
  show JO w mu_X11_isAlikeBy vB σ1 [(0, .ref (adr w 306)), (1, .int x0), (2, .int x1), (3, .int x2), (4, .int i2)] [] 3 (l_X11_isAlikeBy_3 x0 x1 x2 σ1 i2) _
  unfold l_X11_isAlikeBy_3
  refine jo_iload (pc := 3) 4 rfl dX11_isAlikeBy_3 ?_
  refine jo_iconst (pc := 5) dX11_isAlikeBy_5 (ic_i_2) ?_
  refine jo_icmp_ge (pc := 6) dX11_isAlikeBy_6 (tgt := 114) rfl ?_ ?_
  · refine jo_iconst (pc := 114) dX11_isAlikeBy_114 (ic_i_1) ?_
    exact jo_breturn (pc := 115) (b := true) rfl rfl dX11_isAlikeBy_115
  · refine jo_aload_n (pc := 9) 0 rfl dX11_isAlikeBy_9 rfl ?_
    refine jo_iconst (pc := 10) dX11_isAlikeBy_10 (ic_i_0) ?_
    refine jo_putf (pc := 11) ok_11_6 okp_11_6 (ik_306 hw hN) gw_1299 dX11_isAlikeBy_11 (fun σ3 => ?_)
    refine jo_aload_n (pc := 14) 0 rfl dX11_isAlikeBy_14 rfl ?_
    refine jo_iconst (pc := 15) dX11_isAlikeBy_15 (ic_i_0) ?_
    refine jo_putf (pc := 16) ok_11_7 okp_11_7 (ik_306 hw hN) gw_1300 dX11_isAlikeBy_16 (fun σ4 => ?_)
    refine jo_aload_n (pc := 19) 0 rfl dX11_isAlikeBy_19 rfl ?_
    refine jo_iload_n (pc := 20) 1 rfl dX11_isAlikeBy_20 rfl ?_
    refine jo_cV_V_i (pc := 21) (μ' := mu_X11_writes) (fx := f_X11_writes σ4 x0) (As := [.int x0]) (c_X11_writes hw hN) (ok_X11_writes) (ltb rfl) (all3 gw_1487 gw_1489 gw_77) (ik_306 hw hN) (by decide) (q := (RX11, TX11, 39)) rfl rfl rfl rfl (Nat.le_of_ble_eq_true rfl) dX11_isAlikeBy_21 (fun σ5 => ?_)
    refine jo_aload_n (pc := 24) 0 rfl dX11_isAlikeBy_24 rfl ?_
    refine jo_iload_n (pc := 25) 2 rfl dX11_isAlikeBy_25 rfl ?_
    refine jo_cV_V_i (pc := 26) (μ' := mu_X11_writes) (fx := f_X11_writes σ5 x1) (As := [.int x1]) (c_X11_writes hw hN) (ok_X11_writes) (ltb rfl) (all3 gw_1487 gw_1489 gw_77) (ik_306 hw hN) (by decide) (q := (RX11, TX11, 39)) rfl rfl rfl rfl (Nat.le_of_ble_eq_true rfl) dX11_isAlikeBy_26 (fun σ6 => ?_)
    refine jo_aload_n (pc := 29) 0 rfl dX11_isAlikeBy_29 rfl ?_
    refine jo_iload_n (pc := 30) 3 rfl dX11_isAlikeBy_30 rfl ?_
    refine jo_cV_V_i (pc := 31) (μ' := mu_X11_writes) (fx := f_X11_writes σ6 x2) (As := [.int x2]) (c_X11_writes hw hN) (ok_X11_writes) (ltb rfl) (all3 gw_1487 gw_1489 gw_77) (ik_306 hw hN) (by decide) (q := (RX11, TX11, 39)) rfl rfl rfl rfl (Nat.le_of_ble_eq_true rfl) dX11_isAlikeBy_31 (fun σ7 => ?_)
    refine jo_aload_n (pc := 34) 0 rfl dX11_isAlikeBy_34 rfl ?_
    refine jo_iload (pc := 35) 4 rfl dX11_isAlikeBy_35 ?_
    refine jo_cV_V_i (pc := 37) (μ' := mu_X11_exchanges) (fx := f_X11_exchanges σ7 i2) (As := [.int i2]) (c_X11_exchanges hw hN) (ok_X11_exchanges) (ltb rfl) (all3 gw_1491 gw_1493 gw_78) (ik_306 hw hN) (by decide) (q := (RX11, TX11, 39)) rfl rfl rfl rfl (Nat.le_of_ble_eq_true rfl) dX11_isAlikeBy_37 (fun σ8 => ?_)
    refine jo_aload_n (pc := 40) 0 rfl dX11_isAlikeBy_40 rfl ?_
    refine jo_cV_Z_i (pc := 41) (μ' := mu_X11_collects) (fx := f_X11_collects σ8) (As := []) (c_X11_collects hw hN) (ok_X11_collects) (ltb rfl) (all3 gw_1499 gw_1501 gw_80) (ik_306 hw hN) (by decide) (q := (RX11, TX11, 39)) rfl rfl rfl rfl (Nat.le_of_ble_eq_true rfl) dX11_isAlikeBy_41 (fun b9 σ10 => ?_)
    refine jo_istore (pc := 44) (lv' := [(5, .int (b2i b9)), (0, .ref (adr w 306)), (1, .int x0), (2, .int x1), (3, .int x2), (4, .int i2)]) dX11_isAlikeBy_44 (ltb rfl) rfl ?_
    refine jo_iconst (pc := 46) dX11_isAlikeBy_46 (ic_i_0) ?_
    refine jo_istore (pc := 47) (lv' := [(6, .int 0), (5, .int (b2i b9)), (0, .ref (adr w 306)), (1, .int x0), (2, .int x1), (3, .int x2), (4, .int i2)]) dX11_isAlikeBy_47 (ltb rfl) rfl ?_
    refine jo_joinS (S := Mem) (fun (z11 : Mem) => z11) (fun (z11 : Mem) => [(0, .ref (adr w 306)), (1, .int x0), (2, .int x1), (3, .int x2), (4, .int i2)]) (fun (z11 : Mem) => []) 108 ?_ (fun h108_11 => ?_)
    · intro σ11
      show JO w mu_X11_isAlikeBy vB σ11 [(0, .ref (adr w 306)), (1, .int x0), (2, .int x1), (3, .int x2), (4, .int i2)] [] 108 (j_X11_isAlikeBy_108 i2 σ11) _
      unfold j_X11_isAlikeBy_108
      refine jo_iinc (pc := 108) (lv' := [(4, .int (i2 + 1)), (0, .ref (adr w 306)), (1, .int x0), (2, .int x1), (3, .int x2)]) 4 rfl dX11_isAlikeBy_108 (congrArg (fun z => i2 + z) (ic_i_1)) (ltb rfl) rfl ?_
      refine jo_goto (pc := 111) dX11_isAlikeBy_111 (tgt := 3) rfl ?_
      refine jo_lv (lv' := [(0, .ref (adr w 306)), (1, .int x0), (2, .int x1), (3, .int x2), (4, .int (i2 + 1))]) [1, 2, 3, 4, 0] rfl ?_
      exact jo_leaf (by rfl) (hF3_2 (σ11, i2 + 1))
    · refine jo_lv (lv' := [(5, .int (b2i b9)), (0, .ref (adr w 306)), (1, .int x0), (2, .int x1), (3, .int x2), (4, .int i2), (6, .int 0)]) [1, 2, 3, 4, 5, 6, 0] rfl ?_
      refine jo_loop (X := Mem ⊕ ((Mem × Int32) ⊕ (Bool × Mem))) (fun (z13 : (Mem × Int32)) => z13.1) (fun (z13 : (Mem × Int32)) => [(5, .int (b2i b9)), (0, .ref (adr w 306)), (1, .int x0), (2, .int x1), (3, .int x2), (4, .int i2), (6, .int z13.2)]) (body := (fun (z13 : (Mem × Int32)) => l_X11_isAlikeBy_49 i2 b9 z13.1 z13.2)) (fun F49_13 hF49_13 s => ?_) (σ10, 0)
      obtain ⟨σ12, i13⟩ := s
      show JO w mu_X11_isAlikeBy vB σ12 [(5, .int (b2i b9)), (0, .ref (adr w 306)), (1, .int x0), (2, .int x1), (3, .int x2), (4, .int i2), (6, .int i13)] [] 49 (l_X11_isAlikeBy_49 i2 b9 σ12 i13) _
      unfold l_X11_isAlikeBy_49
      refine jo_iload (pc := 49) 6 rfl dX11_isAlikeBy_49 ?_
      refine jo_aload_n (pc := 51) 1 rfl dX11_isAlikeBy_51 rfl ?_
      refine jo_cV_I_p (pc := 52) (μ' := mu_X11_n) (fx := f_X11_n σ12) (As := []) (c_X11_n hw hN) (ok_X11_n) (ltb rfl) (all3 gw_1441 gw_1443 gw_68) (ik_306 hw hN) (by decide) (q := (RX11, TX11, 39)) rfl rfl rfl rfl (Nat.le_of_ble_eq_true rfl) dX11_isAlikeBy_52 (fun v14 => ?_)
      refine jo_icmp_ge (pc := 55) dX11_isAlikeBy_55 (tgt := 108) rfl ?_ ?_
      · refine jo_lv (lv' := [(0, .ref (adr w 306)), (1, .int x0), (2, .int x1), (3, .int x2), (4, .int i2)]) [1, 2, 3, 4, 5] rfl ?_
        exact jo_leaf (by rfl) (h108_11 σ12)
      · refine jo_iload (pc := 58) 0 rfl dX11_isAlikeBy_58 ?_
        refine jo_ifz_eq (pc := 60) dX11_isAlikeBy_60 (tgt := 108) rfl ?_ ?_
        · refine jo_lv (lv' := [(0, .ref (adr w 306)), (1, .int x0), (2, .int x1), (3, .int x2), (4, .int i2)]) [1, 2, 3, 4, 5] rfl ?_
          exact jo_leaf (by rfl) (h108_11 σ12)
        · refine jo_iload (pc := 63) 5 rfl dX11_isAlikeBy_63 ?_
          refine jo_joinS (S := Mem) (fun (z15 : Mem) => z15) (fun (z15 : Mem) => [(5, .int (b2i b9)), (0, .ref (adr w 306)), (1, .int x0), (2, .int x1), (3, .int x2), (4, .int i2), (6, .int i13)]) (fun (z15 : Mem) => []) 102 ?_ (fun h102_15 => ?_)
          · intro σ15
            show JO w mu_X11_isAlikeBy vB σ15 [(5, .int (b2i b9)), (0, .ref (adr w 306)), (1, .int x0), (2, .int x1), (3, .int x2), (4, .int i2), (6, .int i13)] [] 102 (j_X11_isAlikeBy_102 i13 σ15) _
            unfold j_X11_isAlikeBy_102
            refine jo_iinc (pc := 102) (lv' := [(6, .int (i13 + 1)), (5, .int (b2i b9)), (0, .ref (adr w 306)), (1, .int x0), (2, .int x1), (3, .int x2), (4, .int i2)]) 6 rfl dX11_isAlikeBy_102 (congrArg (fun z => i13 + z) (ic_i_1)) (ltb rfl) rfl ?_
            refine jo_goto (pc := 105) dX11_isAlikeBy_105 (tgt := 49) rfl ?_
            refine jo_lv (lv' := [(5, .int (b2i b9)), (0, .ref (adr w 306)), (1, .int x0), (2, .int x1), (3, .int x2), (4, .int i2), (6, .int (i13 + 1))]) [1, 2, 3, 4, 5, 6, 0] rfl ?_
            exact jo_leaf (by rfl) (hF49_13 (σ15, i13 + 1))
          · refine jo_if_ne (pc := 65) dX11_isAlikeBy_65 (tgt := 84) rfl ?_ ?_
            · refine jo_aload_n (pc := 84) 1 rfl dX11_isAlikeBy_84 rfl ?_
              refine jo_getrE (pc := 85) ok_11_8 (ik_306 hw hN) rf_306_8 gw_1301 dX11_isAlikeBy_85 ?_
              refine jo_iload (pc := 88) 6 rfl dX11_isAlikeBy_88 ?_
              refine jo_iald (pc := 90) (ik_310 hw hN) dX11_isAlikeBy_90 (fun v16 => ?_)
              refine jo_aload_n (pc := 91) 1 rfl dX11_isAlikeBy_91 rfl ?_
              refine jo_iload (pc := 92) 6 rfl dX11_isAlikeBy_92 ?_
              refine jo_cV_I_p (pc := 94) (μ' := mu_X11_letters) (fx := f_X11_letters σ12 i13) (As := [.int i13]) (c_X11_letters hw hN) (ok_X11_letters) (ltb rfl) (all3 gw_1503 gw_1505 gw_81) (ik_306 hw hN) (by decide) (q := (RX11, TX11, 39)) rfl rfl rfl rfl (Nat.le_of_ble_eq_true rfl) dX11_isAlikeBy_94 (fun v17 => ?_)
              refine jo_icmp_eq (pc := 97) dX11_isAlikeBy_97 (tgt := 102) rfl ?_ ?_
              · exact jo_leaf (by rfl) (h102_15 σ12)
              · refine jo_iconst (pc := 100) dX11_isAlikeBy_100 (ic_i_0) ?_
                exact jo_breturn (pc := 101) (b := false) rfl rfl dX11_isAlikeBy_101
            · refine jo_aload_n (pc := 68) 1 rfl dX11_isAlikeBy_68 rfl ?_
              refine jo_getrE (pc := 69) ok_11_8 (ik_306 hw hN) rf_306_8 gw_1301 dX11_isAlikeBy_69 ?_
              refine jo_iload (pc := 72) 6 rfl dX11_isAlikeBy_72 ?_
              refine jo_aload_n (pc := 74) 1 rfl dX11_isAlikeBy_74 rfl ?_
              refine jo_iload (pc := 75) 6 rfl dX11_isAlikeBy_75 ?_
              refine jo_cV_I_p (pc := 77) (μ' := mu_X11_letters) (fx := f_X11_letters σ12 i13) (As := [.int i13]) (c_X11_letters hw hN) (ok_X11_letters) (ltb rfl) (all3 gw_1503 gw_1505 gw_81) (ik_306 hw hN) (by decide) (q := (RX11, TX11, 39)) rfl rfl rfl rfl (Nat.le_of_ble_eq_true rfl) dX11_isAlikeBy_77 (fun v18 => ?_)
              refine jo_iast (pc := 80) (ik_310 hw hN) dX11_isAlikeBy_80 (fun σ19 => ?_)
              refine jo_goto (pc := 81) dX11_isAlikeBy_81 (tgt := 102) rfl ?_
              exact jo_leaf (by rfl) (h102_15 σ19)
theorem c_X11_isAlikeBy {w : Wd} (hw : WOK w) (hN : wn w = NT) {σ : Mem} {x0 : Int32} {x1 : Int32} {x2 : Int32} : ∀ r σ', f_X11_isAlikeBy σ x0 x1 x2 = some (r, σ') → MC w mu_X11_isAlikeBy (vB r) [.ref (adr w 306), .int x0, .int x1, .int x2] σ σ' := mc_of ok_X11_isAlikeBy rfl (Nat.le_of_ble_eq_true rfl) (t_X11_isAlikeBy hw hN)
abbrev mu_X11_puts : MD := (yX11_puts, cX11_puts, 5, none, 0)
theorem ok_X11_puts : MOK mu_X11_puts 3 := ⟨gw_1522, gw_171, (by decide +kernel : plainFor yX11_puts = true), ⟨(by decide +kernel : yX11_puts.cls ≠ "java/lang/invoke/MethodHandle"), (by decide +kernel : yX11_puts.cls ≠ "java/lang/invoke/VarHandle"), (by decide +kernel : (parseMethodDescriptor yX11_puts.desc).map (fun d => d.parameters.length) = some 3)⟩, Nat.le_of_ble_eq_true rfl⟩
noncomputable def f_X11_puts (σ : Mem) (x0 : Int32) (x1 : Int32) (x2 : Int64) : Option Mem :=
  pL σ 313 ((6 * x0) + x1) x2 (fun (σ1 : Mem) => some σ1)
theorem t_X11_puts {w : Wd} (hw : WOK w) (hN : wn w = NT) {σ : Mem} {x0 : Int32} {x1 : Int32} {x2 : Int64} : JO w mu_X11_puts vV σ [(0, .ref (adr w 306)), (1, .int x0), (2, .int x1), (3, .long x2)] [] 0 (f_X11_puts σ x0 x1 x2) (fun z => some ((), z)) := by
  unfold f_X11_puts
  refine jo_aload_n (pc := 0) 0 rfl dX11_puts_0 rfl ?_
  refine jo_getrE (pc := 1) ok_11_13 (ik_306 hw hN) rf_306_13 gw_1306 dX11_puts_1 ?_
  refine jo_bipush (pc := 4) dX11_puts_4 (ic_b_6) ?_
  refine jo_iload_n (pc := 6) 1 rfl dX11_puts_6 rfl ?_
  refine jo_imul (pc := 7) dX11_puts_7 ?_
  refine jo_iload_n (pc := 8) 2 rfl dX11_puts_8 rfl ?_
  refine jo_iadd (pc := 9) dX11_puts_9 ?_
  refine jo_lload_n (pc := 10) 3 rfl dX11_puts_10 rfl ?_
  refine jo_last (pc := 11) (ik_313 hw hN) dX11_puts_11 (fun σ1 => ?_)
  exact jo_return (pc := 12) rfl rfl dX11_puts_12
theorem c_X11_puts {w : Wd} (hw : WOK w) (hN : wn w = NT) {σ : Mem} {x0 : Int32} {x1 : Int32} {x2 : Int64} : ∀ σ', f_X11_puts σ x0 x1 x2 = some σ' → MC w mu_X11_puts none [.ref (adr w 306), .int x0, .int x1, .long x2] σ σ' := mc_ofV ok_X11_puts rfl (Nat.le_of_ble_eq_true rfl) (t_X11_puts hw hN)
abbrev mu_X11_of : MD := (yX11_of, cX11_of, 3, some .long, 0)
theorem ok_X11_of : MOK mu_X11_of 2 := ⟨gw_1530, gw_171, (by decide +kernel : plainFor yX11_of = true), ⟨(by decide +kernel : yX11_of.cls ≠ "java/lang/invoke/MethodHandle"), (by decide +kernel : yX11_of.cls ≠ "java/lang/invoke/VarHandle"), (by decide +kernel : (parseMethodDescriptor yX11_of.desc).map (fun d => d.parameters.length) = some 2)⟩, Nat.le_of_ble_eq_true rfl⟩
noncomputable def f_X11_of (σ : Mem) (x0 : Int32) (x1 : Int32) : Option Int64 :=
  gL σ 313 ((6 * x0) + x1) (fun (v1 : Int64) => some v1)
theorem t_X11_of {w : Wd} (hw : WOK w) (hN : wn w = NT) {σ : Mem} {x0 : Int32} {x1 : Int32} : JO w mu_X11_of vL σ [(0, .ref (adr w 306)), (1, .int x0), (2, .int x1)] [] 0 (f_X11_of σ x0 x1) (fun z => some (z, σ)) := by
  unfold f_X11_of
  refine jo_aload_n (pc := 0) 0 rfl dX11_of_0 rfl ?_
  refine jo_getrE (pc := 1) ok_11_13 (ik_306 hw hN) rf_306_13 gw_1306 dX11_of_1 ?_
  refine jo_bipush (pc := 4) dX11_of_4 (ic_b_6) ?_
  refine jo_iload_n (pc := 6) 1 rfl dX11_of_6 rfl ?_
  refine jo_imul (pc := 7) dX11_of_7 ?_
  refine jo_iload_n (pc := 8) 2 rfl dX11_of_8 rfl ?_
  refine jo_iadd (pc := 9) dX11_of_9 ?_
  refine jo_lald (pc := 10) (ik_313 hw hN) dX11_of_10 (fun v1 => ?_)
  exact jo_lreturn (pc := 11) rfl rfl dX11_of_11
theorem c_X11_of {w : Wd} (hw : WOK w) (hN : wn w = NT) {σ : Mem} {x0 : Int32} {x1 : Int32} : ∀ r, f_X11_of σ x0 x1 = some r → MC w mu_X11_of (vL r) [.ref (adr w 306), .int x0, .int x1] σ σ := mc_ofP ok_X11_of rfl (Nat.le_of_ble_eq_true rfl) (t_X11_of hw hN)
abbrev mu_X11_passesTwo : MD := (yX11_passesTwo, cX11_passesTwo, 7, none, 1)
theorem ok_X11_passesTwo : MOK mu_X11_passesTwo 4 := ⟨gw_1538, gw_171, (by decide +kernel : plainFor yX11_passesTwo = true), ⟨(by decide +kernel : yX11_passesTwo.cls ≠ "java/lang/invoke/MethodHandle"), (by decide +kernel : yX11_passesTwo.cls ≠ "java/lang/invoke/VarHandle"), (by decide +kernel : (parseMethodDescriptor yX11_passesTwo.desc).map (fun d => d.parameters.length) = some 4)⟩, Nat.le_of_ble_eq_true rfl⟩
noncomputable def l_X11_passesTwo_5 (x0 : Int32) (x1 : Int32) (x2 : Int32) (x3 : Int64) (σ2 : Mem) (i3 : Int32) : Option ((Mem × Int32) ⊕ Mem) :=
  (f_X11_n σ2).bind (fun (v4 : Int32) => if v4 ≤ i3 then (some (Sum.inr σ2)) else ((f_X11_of σ2 x0 i3).bind (fun (v5 : Int64) => (f_X11_tail σ2 x1 x2 i3).bind (fun (v6 : Int32) => (f_X11_puts σ2 x0 i3 (v5 + ((Int32.toInt64 v6) * x3))).bind (fun (σ7 : Mem) => some (Sum.inl (σ7, i3 + 1)))))))
noncomputable def f_X11_passesTwo (σ : Mem) (x0 : Int32) (x1 : Int32) (x2 : Int32) (x3 : Int64) : Option Mem :=
  bd (x1 + 1) (fun (v1 : Int32) => loopO (fun (z3 : (Mem × Int32)) => l_X11_passesTwo_5 x0 x1 x2 x3 z3.1 z3.2) (σ, v1))
theorem t_X11_passesTwo {w : Wd} (hw : WOK w) (hN : wn w = NT) {σ : Mem} {x0 : Int32} {x1 : Int32} {x2 : Int32} {x3 : Int64} : JO w mu_X11_passesTwo vV σ [(0, .ref (adr w 306)), (1, .int x0), (2, .int x1), (3, .int x2), (4, .long x3)] [] 0 (f_X11_passesTwo σ x0 x1 x2 x3) (fun z => some ((), z)) := by
  unfold f_X11_passesTwo
  refine jo_iload_n (pc := 0) 2 rfl dX11_passesTwo_0 rfl ?_
  refine jo_iconst (pc := 1) dX11_passesTwo_1 (ic_i_1) ?_
  refine jo_iadd (pc := 2) dX11_passesTwo_2 ?_
  refine jo_bd ?_
  refine jo_istore (pc := 3) (lv' := [(6, .int (x1 + 1)), (0, .ref (adr w 306)), (1, .int x0), (2, .int x1), (3, .int x2), (4, .long x3)]) dX11_passesTwo_3 (ltb rfl) rfl ?_
  generalize (x1 + 1) = v1
  refine jo_lv (lv' := [(0, .ref (adr w 306)), (1, .int x0), (2, .int x1), (3, .int x2), (4, .long x3), (6, .int v1)]) [1, 2, 3, 4, 5, 0] rfl ?_
  refine jo_loop (X := Mem) (fun (z3 : (Mem × Int32)) => z3.1) (fun (z3 : (Mem × Int32)) => [(0, .ref (adr w 306)), (1, .int x0), (2, .int x1), (3, .int x2), (4, .long x3), (6, .int z3.2)]) (body := (fun (z3 : (Mem × Int32)) => l_X11_passesTwo_5 x0 x1 x2 x3 z3.1 z3.2)) (fun F5_3 hF5_3 s => ?_) (σ, v1)
  obtain ⟨σ2, i3⟩ := s
  show JO w mu_X11_passesTwo vV σ2 [(0, .ref (adr w 306)), (1, .int x0), (2, .int x1), (3, .int x2), (4, .long x3), (6, .int i3)] [] 5 (l_X11_passesTwo_5 x0 x1 x2 x3 σ2 i3) _
  unfold l_X11_passesTwo_5
  refine jo_iload (pc := 5) 5 rfl dX11_passesTwo_5 ?_
  refine jo_aload_n (pc := 7) 0 rfl dX11_passesTwo_7 rfl ?_
  refine jo_cV_I_p (pc := 8) (μ' := mu_X11_n) (fx := f_X11_n σ2) (As := []) (c_X11_n hw hN) (ok_X11_n) (ltb rfl) (all3 gw_1441 gw_1443 gw_68) (ik_306 hw hN) (by decide) (q := (RX11, TX11, 39)) rfl rfl rfl rfl (Nat.le_of_ble_eq_true rfl) dX11_passesTwo_8 (fun v4 => ?_)
  refine jo_icmp_ge (pc := 11) dX11_passesTwo_11 (tgt := 47) rfl ?_ ?_
  · exact jo_return (pc := 47) rfl rfl dX11_passesTwo_47
  · refine jo_aload_n (pc := 14) 0 rfl dX11_passesTwo_14 rfl ?_
    refine jo_iload_n (pc := 15) 1 rfl dX11_passesTwo_15 rfl ?_
    refine jo_iload (pc := 16) 5 rfl dX11_passesTwo_16 ?_
    refine jo_aload_n (pc := 18) 0 rfl dX11_passesTwo_18 rfl ?_
    refine jo_iload_n (pc := 19) 1 rfl dX11_passesTwo_19 rfl ?_
    refine jo_iload (pc := 20) 5 rfl dX11_passesTwo_20 ?_
    refine jo_cV_J_p (pc := 22) (μ' := mu_X11_of) (fx := f_X11_of σ2 x0 i3) (As := [.int x0, .int i3]) (c_X11_of hw hN) (ok_X11_of) (ltb rfl) (all3 gw_1527 gw_1529 gw_87) (ik_306 hw hN) (by decide) (q := (RX11, TX11, 39)) rfl rfl rfl rfl (Nat.le_of_ble_eq_true rfl) dX11_passesTwo_22 (fun v5 => ?_)
    refine jo_aload_n (pc := 25) 0 rfl dX11_passesTwo_25 rfl ?_
    refine jo_iload_n (pc := 26) 2 rfl dX11_passesTwo_26 rfl ?_
    refine jo_iload_n (pc := 27) 3 rfl dX11_passesTwo_27 rfl ?_
    refine jo_iload (pc := 28) 5 rfl dX11_passesTwo_28 ?_
    refine jo_cV_I_p (pc := 30) (μ' := mu_X11_tail) (fx := f_X11_tail σ2 x1 x2 i3) (As := [.int x1, .int x2, .int i3]) (c_X11_tail hw hN) (ok_X11_tail) (ltb rfl) (all3 gw_1495 gw_1497 gw_79) (ik_306 hw hN) (by decide) (q := (RX11, TX11, 39)) rfl rfl rfl rfl (Nat.le_of_ble_eq_true rfl) dX11_passesTwo_30 (fun v6 => ?_)
    refine jo_i2l (pc := 33) dX11_passesTwo_33 ?_
    refine jo_lload (pc := 34) 4 rfl dX11_passesTwo_34 ?_
    refine jo_lmul (pc := 36) dX11_passesTwo_36 ?_
    refine jo_ladd (pc := 37) dX11_passesTwo_37 ?_
    refine jo_cV_V_i (pc := 38) (μ' := mu_X11_puts) (fx := f_X11_puts σ2 x0 i3 (v5 + ((Int32.toInt64 v6) * x3))) (As := [.int x0, .int i3, .long (v5 + ((Int32.toInt64 v6) * x3))]) (c_X11_puts hw hN) (ok_X11_puts) (ltb rfl) (all3 gw_1519 gw_1521 gw_85) (ik_306 hw hN) (by decide) (q := (RX11, TX11, 39)) rfl rfl rfl rfl (Nat.le_of_ble_eq_true rfl) dX11_passesTwo_38 (fun σ7 => ?_)
    refine jo_iinc (pc := 41) (lv' := [(6, .int (i3 + 1)), (0, .ref (adr w 306)), (1, .int x0), (2, .int x1), (3, .int x2), (4, .long x3)]) 5 rfl dX11_passesTwo_41 (congrArg (fun z => i3 + z) (ic_i_1)) (ltb rfl) rfl ?_
    refine jo_goto (pc := 44) dX11_passesTwo_44 (tgt := 5) rfl ?_
    refine jo_lv (lv' := [(0, .ref (adr w 306)), (1, .int x0), (2, .int x1), (3, .int x2), (4, .long x3), (6, .int (i3 + 1))]) [1, 2, 3, 4, 5, 0] rfl ?_
    exact jo_leaf (by rfl) (hF5_3 (σ7, i3 + 1))
theorem c_X11_passesTwo {w : Wd} (hw : WOK w) (hN : wn w = NT) {σ : Mem} {x0 : Int32} {x1 : Int32} {x2 : Int32} {x3 : Int64} : ∀ σ', f_X11_passesTwo σ x0 x1 x2 x3 = some σ' → MC w mu_X11_passesTwo none [.ref (adr w 306), .int x0, .int x1, .int x2, .long x3] σ σ' := mc_ofV ok_X11_passesTwo rfl (Nat.le_of_ble_eq_true rfl) (t_X11_passesTwo hw hN)
abbrev mu_X11_two : MD := (yX11_two, cX11_two, 3, some .long, 0)
theorem ok_X11_two : MOK mu_X11_two 1 := ⟨gw_1546, gw_171, (by decide +kernel : plainFor yX11_two = true), ⟨(by decide +kernel : yX11_two.cls ≠ "java/lang/invoke/MethodHandle"), (by decide +kernel : yX11_two.cls ≠ "java/lang/invoke/VarHandle"), (by decide +kernel : (parseMethodDescriptor yX11_two.desc).map (fun d => d.parameters.length) = some 1)⟩, Nat.le_of_ble_eq_true rfl⟩
noncomputable def f_X11_two (σ : Mem) (x0 : Int64) : Option Int64 :=
  nzL 2 (some ((x0 * (x0 - 1)) / 2))
theorem t_X11_two {w : Wd} (hw : WOK w) (hN : wn w = NT) {σ : Mem} {x0 : Int64} : JO w mu_X11_two vL σ [(0, .ref (adr w 306)), (1, .long x0)] [] 0 (f_X11_two σ x0) (fun z => some (z, σ)) := by
  unfold f_X11_two
  refine jo_lload_n (pc := 0) 1 rfl dX11_two_0 rfl ?_
  refine jo_lload_n (pc := 1) 1 rfl dX11_two_1 rfl ?_
  refine jo_lconst (pc := 2) dX11_two_2 (ic_l_1) ?_
  refine jo_lsub (pc := 3) dX11_two_3 ?_
  refine jo_lmul (pc := 4) dX11_two_4 ?_
  refine jo_ldc2 (pc := 5) dX11_two_5 gw_1547 ?_
  refine jo_ldiv (pc := 8) dX11_two_8 ?_
  exact jo_lreturn (pc := 9) rfl rfl dX11_two_9
theorem c_X11_two {w : Wd} (hw : WOK w) (hN : wn w = NT) {σ : Mem} {x0 : Int64} : ∀ r, f_X11_two σ x0 = some r → MC w mu_X11_two (vL r) [.ref (adr w 306), .long x0] σ σ := mc_ofP ok_X11_two rfl (Nat.le_of_ble_eq_true rfl) (t_X11_two hw hN)
abbrev mu_X11_passesOne : MD := (yX11_passesOne, cX11_passesOne, 12, none, 1)
theorem ok_X11_passesOne : MOK mu_X11_passesOne 4 := ⟨gw_1542, gw_171, (by decide +kernel : plainFor yX11_passesOne = true), ⟨(by decide +kernel : yX11_passesOne.cls ≠ "java/lang/invoke/MethodHandle"), (by decide +kernel : yX11_passesOne.cls ≠ "java/lang/invoke/VarHandle"), (by decide +kernel : (parseMethodDescriptor yX11_passesOne.desc).map (fun d => d.parameters.length) = some 4)⟩, Nat.le_of_ble_eq_true rfl⟩
noncomputable def j_X11_passesOne_232 (i4 : Int32) (σ7 : Mem) : Option ((Mem × Int32) ⊕ Mem) :=
  some (Sum.inl (σ7, i4 + 1))
noncomputable def j_X11_passesOne_226 (i13 : Int32) (σ22 : Mem) : Option ((Mem × Int32) ⊕ Mem) :=
  some (Sum.inl (σ22, i13 + 1))
noncomputable def l_X11_passesOne_157 (x0 : Int32) (x3 : Int64) (v1 : Int64) (i4 : Int32) (v6 : Int32) (i13 : Int32) (σ23 : Mem) (i24 : Int32) : Option ((Mem × Int32) ⊕ Mem) :=
  (f_X11_n σ23).bind (fun (v25 : Int32) => if v25 ≤ i24 then (some (Sum.inr σ23)) else ((f_X11_weight σ23 i24).bind (fun (v26 : Int32) => if v26 = 1 then (gL σ23 314 i13 (fun (v27 : Int64) => (f_X11_tail σ23 i4 i24 i13).bind (fun (v28 : Int32) => (f_X11_of σ23 x0 i24).bind (fun (v29 : Int64) => pL σ23 314 i13 (v27 + (((((Int32.toInt64 v6) * v1) * x3) * (Int32.toInt64 v28)) * v29)) (fun (σ30 : Mem) => some (Sum.inl (σ30, i24 + 1))))))) else (some (Sum.inr σ23)))))
noncomputable def l_X11_passesOne_83 (x0 : Int32) (x1 : Int32) (x2 : Int32) (x3 : Int64) (v1 : Int64) (i4 : Int32) (v6 : Int32) (σ12 : Mem) (i13 : Int32) : Option ((Mem × Int32) ⊕ Mem) :=
  (f_X11_n σ12).bind (fun (v14 : Int32) => if v14 ≤ i13 then (some (Sum.inr σ12)) else (gL σ12 314 i13 (fun (v15 : Int64) => (f_X11_tail σ12 i4 x2 i13).bind (fun (v16 : Int32) => (f_X11_two σ12 x3).bind (fun (v17 : Int64) => (f_X11_tail σ12 i4 x1 i13).bind (fun (v18 : Int32) => (f_X11_two σ12 v1).bind (fun (v19 : Int64) => pL σ12 314 i13 (v15 + ((Int32.toInt64 v6) * ((((Int32.toInt64 v16) * v1) * v17) + (((Int32.toInt64 v18) * x3) * v19)))) (fun (σ20 : Mem) => bd (x1 + 1) (fun (v21 : Int32) => (loopO (fun (z24 : (Mem × Int32)) => l_X11_passesOne_157 x0 x3 v1 i4 v6 i13 z24.1 z24.2) (σ20, v21) : Option Mem).bind (fun (z22 : Mem) => j_X11_passesOne_226 i13 z22))))))))))
noncomputable def l_X11_passesOne_13 (x0 : Int32) (x1 : Int32) (x2 : Int32) (x3 : Int64) (v1 : Int64) (σ3 : Mem) (i4 : Int32) : Option ((Mem × Int32) ⊕ Mem) :=
  (f_X11_n σ3).bind (fun (v5 : Int32) => if v5 ≤ i4 then (some (Sum.inr σ3)) else ((f_X11_tail σ3 x1 x2 i4).bind (fun (v6 : Int32) => (if v6 = 0 then (some σ3) else (gL σ3 314 i4 (fun (v8 : Int64) => pL σ3 314 i4 (v8 + (((Int32.toInt64 v6) * v1) * x3)) (fun (σ9 : Mem) => (f_X11_weight σ9 i4).bind (fun (v10 : Int32) => if v10 ≤ 2 then (bd (i4 + 1) (fun (v11 : Int32) => loopO (fun (z13 : (Mem × Int32)) => l_X11_passesOne_83 x0 x1 x2 x3 v1 i4 v6 z13.1 z13.2) (σ9, v11))) else (some σ9))))) : Option Mem).bind (fun (z7 : Mem) => j_X11_passesOne_232 i4 z7))))
noncomputable def f_X11_passesOne (σ : Mem) (x0 : Int32) (x1 : Int32) (x2 : Int32) (x3 : Int64) : Option Mem :=
  (f_X11_of σ x0 x1).bind (fun (v1 : Int64) => bd (x1 + 1) (fun (v2 : Int32) => loopO (fun (z4 : (Mem × Int32)) => l_X11_passesOne_13 x0 x1 x2 x3 v1 z4.1 z4.2) (σ, v2)))
theorem t_X11_passesOne {w : Wd} (hw : WOK w) (hN : wn w = NT) {σ : Mem} {x0 : Int32} {x1 : Int32} {x2 : Int32} {x3 : Int64} : JO w mu_X11_passesOne vV σ [(0, .ref (adr w 306)), (1, .int x0), (2, .int x1), (3, .int x2), (4, .long x3)] [] 0 (f_X11_passesOne σ x0 x1 x2 x3) (fun z => some ((), z)) := by
  unfold f_X11_passesOne
  refine jo_aload_n (pc := 0) 0 rfl dX11_passesOne_0 rfl ?_
  refine jo_iload_n (pc := 1) 1 rfl dX11_passesOne_1 rfl ?_
  refine jo_iload_n (pc := 2) 2 rfl dX11_passesOne_2 rfl ?_
  refine jo_cV_J_p (pc := 3) (μ' := mu_X11_of) (fx := f_X11_of σ x0 x1) (As := [.int x0, .int x1]) (c_X11_of hw hN) (ok_X11_of) (ltb rfl) (all3 gw_1527 gw_1529 gw_87) (ik_306 hw hN) (by decide) (q := (RX11, TX11, 39)) rfl rfl rfl rfl (Nat.le_of_ble_eq_true rfl) dX11_passesOne_3 (fun v1 => ?_)
  refine jo_lstore (pc := 6) (lv' := [(6, .long v1), (0, .ref (adr w 306)), (1, .int x0), (2, .int x1), (3, .int x2), (4, .long x3)]) dX11_passesOne_6 (ltb rfl) rfl ?_
  refine jo_iload_n (pc := 8) 3 rfl dX11_passesOne_8 rfl ?_
  refine jo_iconst (pc := 9) dX11_passesOne_9 (ic_i_1) ?_
  refine jo_iadd (pc := 10) dX11_passesOne_10 ?_
  refine jo_bd ?_
  refine jo_istore (pc := 11) (lv' := [(8, .int (x1 + 1)), (6, .long v1), (0, .ref (adr w 306)), (1, .int x0), (2, .int x1), (3, .int x2), (4, .long x3)]) dX11_passesOne_11 (ltb rfl) rfl ?_
  generalize (x1 + 1) = v2
  refine jo_lv (lv' := [(6, .long v1), (0, .ref (adr w 306)), (1, .int x0), (2, .int x1), (3, .int x2), (4, .long x3), (8, .int v2)]) [1, 2, 3, 4, 5, 6, 0] rfl ?_
  refine jo_loop (X := Mem) (fun (z4 : (Mem × Int32)) => z4.1) (fun (z4 : (Mem × Int32)) => [(6, .long v1), (0, .ref (adr w 306)), (1, .int x0), (2, .int x1), (3, .int x2), (4, .long x3), (8, .int z4.2)]) (body := (fun (z4 : (Mem × Int32)) => l_X11_passesOne_13 x0 x1 x2 x3 v1 z4.1 z4.2)) (fun F13_4 hF13_4 s => ?_) (σ, v2)
  obtain ⟨σ3, i4⟩ := s
  show JO w mu_X11_passesOne vV σ3 [(6, .long v1), (0, .ref (adr w 306)), (1, .int x0), (2, .int x1), (3, .int x2), (4, .long x3), (8, .int i4)] [] 13 (l_X11_passesOne_13 x0 x1 x2 x3 v1 σ3 i4) _
  unfold l_X11_passesOne_13
  refine jo_iload (pc := 13) 6 rfl dX11_passesOne_13 ?_
  refine jo_aload_n (pc := 15) 1 rfl dX11_passesOne_15 rfl ?_
  refine jo_cV_I_p (pc := 16) (μ' := mu_X11_n) (fx := f_X11_n σ3) (As := []) (c_X11_n hw hN) (ok_X11_n) (ltb rfl) (all3 gw_1441 gw_1443 gw_68) (ik_306 hw hN) (by decide) (q := (RX11, TX11, 39)) rfl rfl rfl rfl (Nat.le_of_ble_eq_true rfl) dX11_passesOne_16 (fun v5 => ?_)
  refine jo_icmp_ge (pc := 19) dX11_passesOne_19 (tgt := 238) rfl ?_ ?_
  · exact jo_return (pc := 238) rfl rfl dX11_passesOne_238
  · refine jo_aload_n (pc := 22) 1 rfl dX11_passesOne_22 rfl ?_
    refine jo_iload_n (pc := 23) 3 rfl dX11_passesOne_23 rfl ?_
    refine jo_iload_n (pc := 24) 4 rfl dX11_passesOne_24 rfl ?_
    refine jo_iload (pc := 25) 6 rfl dX11_passesOne_25 ?_
    refine jo_cV_I_p (pc := 27) (μ' := mu_X11_tail) (fx := f_X11_tail σ3 x1 x2 i4) (As := [.int x1, .int x2, .int i4]) (c_X11_tail hw hN) (ok_X11_tail) (ltb rfl) (all3 gw_1495 gw_1497 gw_79) (ik_306 hw hN) (by decide) (q := (RX11, TX11, 39)) rfl rfl rfl rfl (Nat.le_of_ble_eq_true rfl) dX11_passesOne_27 (fun v6 => ?_)
    refine jo_istore (pc := 30) (lv' := [(9, .int v6), (6, .long v1), (0, .ref (adr w 306)), (1, .int x0), (2, .int x1), (3, .int x2), (4, .long x3), (8, .int i4)]) dX11_passesOne_30 (ltb rfl) rfl ?_
    refine jo_iload (pc := 32) 0 rfl dX11_passesOne_32 ?_
    refine jo_join1 (S := Mem) (fun (z7 : Mem) => z7) (fun (z7 : Mem) => [(6, .long v1), (0, .ref (adr w 306)), (1, .int x0), (2, .int x1), (3, .int x2), (4, .long x3), (8, .int i4)]) (fun (z7 : Mem) => []) 232 ?_ (fun h232_7 => ?_)
    · intro σ7
      show JO w mu_X11_passesOne vV σ7 [(6, .long v1), (0, .ref (adr w 306)), (1, .int x0), (2, .int x1), (3, .int x2), (4, .long x3), (8, .int i4)] [] 232 (j_X11_passesOne_232 i4 σ7) _
      unfold j_X11_passesOne_232
      refine jo_iinc (pc := 232) (lv' := [(8, .int (i4 + 1)), (6, .long v1), (0, .ref (adr w 306)), (1, .int x0), (2, .int x1), (3, .int x2), (4, .long x3)]) 6 rfl dX11_passesOne_232 (congrArg (fun z => i4 + z) (ic_i_1)) (ltb rfl) rfl ?_
      refine jo_goto (pc := 235) dX11_passesOne_235 (tgt := 13) rfl ?_
      refine jo_lv (lv' := [(6, .long v1), (0, .ref (adr w 306)), (1, .int x0), (2, .int x1), (3, .int x2), (4, .long x3), (8, .int (i4 + 1))]) [1, 2, 3, 4, 5, 6, 0] rfl ?_
      exact jo_leaf (by rfl) (hF13_4 (σ7, i4 + 1))
    · refine jo_if_ne (pc := 34) dX11_passesOne_34 (tgt := 40) rfl ?_ ?_
      · refine jo_aload_n (pc := 40) 2 rfl dX11_passesOne_40 rfl ?_
        refine jo_getrE (pc := 41) ok_11_14 (ik_306 hw hN) rf_306_14 gw_1307 dX11_passesOne_41 ?_
        refine jo_iload (pc := 44) 7 rfl dX11_passesOne_44 ?_
        refine jo_aload_n (pc := 46) 2 rfl dX11_passesOne_46 rfl ?_
        refine jo_getrE (pc := 47) ok_11_14 (ik_306 hw hN) rf_306_14 gw_1307 dX11_passesOne_47 ?_
        refine jo_iload (pc := 50) 7 rfl dX11_passesOne_50 ?_
        refine jo_lald (pc := 52) (ik_314 hw hN) dX11_passesOne_52 (fun v8 => ?_)
        refine jo_iload (pc := 53) 0 rfl dX11_passesOne_53 ?_
        refine jo_i2l (pc := 55) dX11_passesOne_55 ?_
        refine jo_lload (pc := 56) 1 rfl dX11_passesOne_56 ?_
        refine jo_lmul (pc := 58) dX11_passesOne_58 ?_
        refine jo_lload (pc := 59) 6 rfl dX11_passesOne_59 ?_
        refine jo_lmul (pc := 61) dX11_passesOne_61 ?_
        refine jo_ladd (pc := 62) dX11_passesOne_62 ?_
        refine jo_last (pc := 63) (ik_314 hw hN) dX11_passesOne_63 (fun σ9 => ?_)
        refine jo_aload_n (pc := 64) 2 rfl dX11_passesOne_64 rfl ?_
        refine jo_iload (pc := 65) 7 rfl dX11_passesOne_65 ?_
        refine jo_cV_I_p (pc := 67) (μ' := mu_X11_weight) (fx := f_X11_weight σ9 i4) (As := [.int i4]) (c_X11_weight hw hN) (ok_X11_weight) (ltb rfl) (all3 gw_1446 gw_1448 gw_69) (ik_306 hw hN) (by decide) (q := (RX11, TX11, 39)) rfl rfl rfl rfl (Nat.le_of_ble_eq_true rfl) dX11_passesOne_67 (fun v10 => ?_)
        refine jo_iconst (pc := 70) dX11_passesOne_70 (ic_i_2) ?_
        refine jo_icmp_le (pc := 71) dX11_passesOne_71 (tgt := 77) rfl ?_ ?_
        · refine jo_iload (pc := 77) 7 rfl dX11_passesOne_77 ?_
          refine jo_iconst (pc := 79) dX11_passesOne_79 (ic_i_1) ?_
          refine jo_iadd (pc := 80) dX11_passesOne_80 ?_
          refine jo_bd ?_
          refine jo_istore (pc := 81) (lv' := [(10, .int (i4 + 1)), (9, .int v6), (6, .long v1), (0, .ref (adr w 306)), (1, .int x0), (2, .int x1), (3, .int x2), (4, .long x3), (8, .int i4)]) dX11_passesOne_81 (ltb rfl) rfl ?_
          generalize (i4 + 1) = v11
          refine jo_lv (lv' := [(9, .int v6), (6, .long v1), (0, .ref (adr w 306)), (1, .int x0), (2, .int x1), (3, .int x2), (4, .long x3), (8, .int i4), (10, .int v11)]) [1, 2, 3, 4, 5, 6, 7, 8, 0] rfl ?_
          refine jo_loop (X := Mem) (fun (z13 : (Mem × Int32)) => z13.1) (fun (z13 : (Mem × Int32)) => [(9, .int v6), (6, .long v1), (0, .ref (adr w 306)), (1, .int x0), (2, .int x1), (3, .int x2), (4, .long x3), (8, .int i4), (10, .int z13.2)]) (body := (fun (z13 : (Mem × Int32)) => l_X11_passesOne_83 x0 x1 x2 x3 v1 i4 v6 z13.1 z13.2)) (fun F83_13 hF83_13 s => ?_) (σ9, v11)
          obtain ⟨σ12, i13⟩ := s
          show JO w mu_X11_passesOne vV σ12 [(9, .int v6), (6, .long v1), (0, .ref (adr w 306)), (1, .int x0), (2, .int x1), (3, .int x2), (4, .long x3), (8, .int i4), (10, .int i13)] [] 83 (l_X11_passesOne_83 x0 x1 x2 x3 v1 i4 v6 σ12 i13) _
          unfold l_X11_passesOne_83
          refine jo_iload (pc := 83) 8 rfl dX11_passesOne_83 ?_
          refine jo_aload_n (pc := 85) 2 rfl dX11_passesOne_85 rfl ?_
          refine jo_cV_I_p (pc := 86) (μ' := mu_X11_n) (fx := f_X11_n σ12) (As := []) (c_X11_n hw hN) (ok_X11_n) (ltb rfl) (all3 gw_1441 gw_1443 gw_68) (ik_306 hw hN) (by decide) (q := (RX11, TX11, 39)) rfl rfl rfl rfl (Nat.le_of_ble_eq_true rfl) dX11_passesOne_86 (fun v14 => ?_)
          refine jo_icmp_ge (pc := 89) dX11_passesOne_89 (tgt := 232) rfl ?_ ?_
          · refine jo_lv (lv' := [(6, .long v1), (0, .ref (adr w 306)), (1, .int x0), (2, .int x1), (3, .int x2), (4, .long x3), (8, .int i4)]) [1, 2, 3, 4, 5, 6, 7] rfl ?_
            exact jo_leaf (by rfl) (h232_7 σ12)
          · refine jo_aload_n (pc := 92) 2 rfl dX11_passesOne_92 rfl ?_
            refine jo_getrE (pc := 93) ok_11_14 (ik_306 hw hN) rf_306_14 gw_1307 dX11_passesOne_93 ?_
            refine jo_iload (pc := 96) 8 rfl dX11_passesOne_96 ?_
            refine jo_aload_n (pc := 98) 2 rfl dX11_passesOne_98 rfl ?_
            refine jo_getrE (pc := 99) ok_11_14 (ik_306 hw hN) rf_306_14 gw_1307 dX11_passesOne_99 ?_
            refine jo_iload (pc := 102) 8 rfl dX11_passesOne_102 ?_
            refine jo_lald (pc := 104) (ik_314 hw hN) dX11_passesOne_104 (fun v15 => ?_)
            refine jo_iload (pc := 105) 0 rfl dX11_passesOne_105 ?_
            refine jo_i2l (pc := 107) dX11_passesOne_107 ?_
            refine jo_aload_n (pc := 108) 2 rfl dX11_passesOne_108 rfl ?_
            refine jo_iload (pc := 109) 7 rfl dX11_passesOne_109 ?_
            refine jo_iload_n (pc := 111) 5 rfl dX11_passesOne_111 rfl ?_
            refine jo_iload (pc := 112) 8 rfl dX11_passesOne_112 ?_
            refine jo_cV_I_p (pc := 114) (μ' := mu_X11_tail) (fx := f_X11_tail σ12 i4 x2 i13) (As := [.int i4, .int x2, .int i13]) (c_X11_tail hw hN) (ok_X11_tail) (ltb rfl) (all3 gw_1495 gw_1497 gw_79) (ik_306 hw hN) (by decide) (q := (RX11, TX11, 39)) rfl rfl rfl rfl (Nat.le_of_ble_eq_true rfl) dX11_passesOne_114 (fun v16 => ?_)
            refine jo_i2l (pc := 117) dX11_passesOne_117 ?_
            refine jo_lload (pc := 118) 1 rfl dX11_passesOne_118 ?_
            refine jo_lmul (pc := 120) dX11_passesOne_120 ?_
            refine jo_aload_n (pc := 121) 2 rfl dX11_passesOne_121 rfl ?_
            refine jo_lload (pc := 122) 6 rfl dX11_passesOne_122 ?_
            refine jo_cV_J_p (pc := 124) (μ' := mu_X11_two) (fx := f_X11_two σ12 x3) (As := [.long x3]) (c_X11_two hw hN) (ok_X11_two) (ltb rfl) (all3 gw_1543 gw_1545 gw_91) (ik_306 hw hN) (by decide) (q := (RX11, TX11, 39)) rfl rfl rfl rfl (Nat.le_of_ble_eq_true rfl) dX11_passesOne_124 (fun v17 => ?_)
            refine jo_lmul (pc := 127) dX11_passesOne_127 ?_
            refine jo_aload_n (pc := 128) 2 rfl dX11_passesOne_128 rfl ?_
            refine jo_iload (pc := 129) 7 rfl dX11_passesOne_129 ?_
            refine jo_iload_n (pc := 131) 4 rfl dX11_passesOne_131 rfl ?_
            refine jo_iload (pc := 132) 8 rfl dX11_passesOne_132 ?_
            refine jo_cV_I_p (pc := 134) (μ' := mu_X11_tail) (fx := f_X11_tail σ12 i4 x1 i13) (As := [.int i4, .int x1, .int i13]) (c_X11_tail hw hN) (ok_X11_tail) (ltb rfl) (all3 gw_1495 gw_1497 gw_79) (ik_306 hw hN) (by decide) (q := (RX11, TX11, 39)) rfl rfl rfl rfl (Nat.le_of_ble_eq_true rfl) dX11_passesOne_134 (fun v18 => ?_)
            refine jo_i2l (pc := 137) dX11_passesOne_137 ?_
            refine jo_lload (pc := 138) 6 rfl dX11_passesOne_138 ?_
            refine jo_lmul (pc := 140) dX11_passesOne_140 ?_
            refine jo_aload_n (pc := 141) 2 rfl dX11_passesOne_141 rfl ?_
            refine jo_lload (pc := 142) 1 rfl dX11_passesOne_142 ?_
            refine jo_cV_J_pW (pc := 144) (μ' := mu_X11_two) (fx := f_X11_two σ12 v1) (As := [.long v1]) (c_X11_two hw hN) (ok_X11_two) (ltb rfl) (all3 gw_1543 gw_1545 gw_91) (ik_306 hw hN) (by decide) (q := (RX11, TX11, 39)) rfl rfl rfl rfl (Nat.le_of_ble_eq_true rfl) dX11_passesOne_144 (fun v19 => ?_)
            refine jo_lmul (pc := 147) dX11_passesOne_147 ?_
            refine jo_ladd (pc := 148) dX11_passesOne_148 ?_
            refine jo_lmul (pc := 149) dX11_passesOne_149 ?_
            refine jo_ladd (pc := 150) dX11_passesOne_150 ?_
            refine jo_last (pc := 151) (ik_314 hw hN) dX11_passesOne_151 (fun σ20 => ?_)
            refine jo_iload_n (pc := 152) 4 rfl dX11_passesOne_152 rfl ?_
            refine jo_iconst (pc := 153) dX11_passesOne_153 (ic_i_1) ?_
            refine jo_iadd (pc := 154) dX11_passesOne_154 ?_
            refine jo_bd ?_
            refine jo_istore (pc := 155) (lv' := [(11, .int (x1 + 1)), (9, .int v6), (6, .long v1), (0, .ref (adr w 306)), (1, .int x0), (2, .int x1), (3, .int x2), (4, .long x3), (8, .int i4), (10, .int i13)]) dX11_passesOne_155 (ltb rfl) rfl ?_
            generalize (x1 + 1) = v21
            refine jo_join1 (S := Mem) (fun (z22 : Mem) => z22) (fun (z22 : Mem) => [(9, .int v6), (6, .long v1), (0, .ref (adr w 306)), (1, .int x0), (2, .int x1), (3, .int x2), (4, .long x3), (8, .int i4), (10, .int i13)]) (fun (z22 : Mem) => []) 226 ?_ (fun h226_22 => ?_)
            · intro σ22
              show JO w mu_X11_passesOne vV σ22 [(9, .int v6), (6, .long v1), (0, .ref (adr w 306)), (1, .int x0), (2, .int x1), (3, .int x2), (4, .long x3), (8, .int i4), (10, .int i13)] [] 226 (j_X11_passesOne_226 i13 σ22) _
              unfold j_X11_passesOne_226
              refine jo_iinc (pc := 226) (lv' := [(10, .int (i13 + 1)), (9, .int v6), (6, .long v1), (0, .ref (adr w 306)), (1, .int x0), (2, .int x1), (3, .int x2), (4, .long x3), (8, .int i4)]) 8 rfl dX11_passesOne_226 (congrArg (fun z => i13 + z) (ic_i_1)) (ltb rfl) rfl ?_
              refine jo_goto (pc := 229) dX11_passesOne_229 (tgt := 83) rfl ?_
              refine jo_lv (lv' := [(9, .int v6), (6, .long v1), (0, .ref (adr w 306)), (1, .int x0), (2, .int x1), (3, .int x2), (4, .long x3), (8, .int i4), (10, .int (i13 + 1))]) [1, 2, 3, 4, 5, 6, 7, 8, 0] rfl ?_
              exact jo_leaf (by rfl) (hF83_13 (σ22, i13 + 1))
            · refine jo_lv (lv' := [(9, .int v6), (6, .long v1), (0, .ref (adr w 306)), (1, .int x0), (2, .int x1), (3, .int x2), (4, .long x3), (8, .int i4), (10, .int i13), (11, .int v21)]) [1, 2, 3, 4, 5, 6, 7, 8, 9, 0] rfl ?_
              refine jo_loop (X := Mem) (fun (z24 : (Mem × Int32)) => z24.1) (fun (z24 : (Mem × Int32)) => [(9, .int v6), (6, .long v1), (0, .ref (adr w 306)), (1, .int x0), (2, .int x1), (3, .int x2), (4, .long x3), (8, .int i4), (10, .int i13), (11, .int z24.2)]) (body := (fun (z24 : (Mem × Int32)) => l_X11_passesOne_157 x0 x3 v1 i4 v6 i13 z24.1 z24.2)) (fun F157_24 hF157_24 s => ?_) (σ20, v21)
              obtain ⟨σ23, i24⟩ := s
              show JO w mu_X11_passesOne vV σ23 [(9, .int v6), (6, .long v1), (0, .ref (adr w 306)), (1, .int x0), (2, .int x1), (3, .int x2), (4, .long x3), (8, .int i4), (10, .int i13), (11, .int i24)] [] 157 (l_X11_passesOne_157 x0 x3 v1 i4 v6 i13 σ23 i24) _
              unfold l_X11_passesOne_157
              refine jo_iload (pc := 157) 9 rfl dX11_passesOne_157 ?_
              refine jo_aload_n (pc := 159) 2 rfl dX11_passesOne_159 rfl ?_
              refine jo_cV_I_p (pc := 160) (μ' := mu_X11_n) (fx := f_X11_n σ23) (As := []) (c_X11_n hw hN) (ok_X11_n) (ltb rfl) (all3 gw_1441 gw_1443 gw_68) (ik_306 hw hN) (by decide) (q := (RX11, TX11, 39)) rfl rfl rfl rfl (Nat.le_of_ble_eq_true rfl) dX11_passesOne_160 (fun v25 => ?_)
              refine jo_icmp_ge (pc := 163) dX11_passesOne_163 (tgt := 226) rfl ?_ ?_
              · refine jo_lv (lv' := [(9, .int v6), (6, .long v1), (0, .ref (adr w 306)), (1, .int x0), (2, .int x1), (3, .int x2), (4, .long x3), (8, .int i4), (10, .int i13)]) [0, 1, 2, 3, 4, 5, 6, 7, 8] rfl ?_
                exact jo_leaf (by rfl) (h226_22 σ23)
              · refine jo_aload_n (pc := 166) 2 rfl dX11_passesOne_166 rfl ?_
                refine jo_iload (pc := 167) 9 rfl dX11_passesOne_167 ?_
                refine jo_cV_I_p (pc := 169) (μ' := mu_X11_weight) (fx := f_X11_weight σ23 i24) (As := [.int i24]) (c_X11_weight hw hN) (ok_X11_weight) (ltb rfl) (all3 gw_1446 gw_1448 gw_69) (ik_306 hw hN) (by decide) (q := (RX11, TX11, 39)) rfl rfl rfl rfl (Nat.le_of_ble_eq_true rfl) dX11_passesOne_169 (fun v26 => ?_)
                refine jo_iconst (pc := 172) dX11_passesOne_172 (ic_i_1) ?_
                refine jo_icmp_ne (pc := 173) dX11_passesOne_173 (tgt := 226) rfl ?_ ?_
                · refine jo_lv (lv' := [(9, .int v6), (6, .long v1), (0, .ref (adr w 306)), (1, .int x0), (2, .int x1), (3, .int x2), (4, .long x3), (8, .int i4), (10, .int i13)]) [0, 1, 2, 3, 4, 5, 6, 7, 8] rfl ?_
                  exact jo_leaf (by rfl) (h226_22 σ23)
                · refine jo_aload_n (pc := 176) 2 rfl dX11_passesOne_176 rfl ?_
                  refine jo_getrE (pc := 177) ok_11_14 (ik_306 hw hN) rf_306_14 gw_1307 dX11_passesOne_177 ?_
                  refine jo_iload (pc := 180) 8 rfl dX11_passesOne_180 ?_
                  refine jo_aload_n (pc := 182) 2 rfl dX11_passesOne_182 rfl ?_
                  refine jo_getrE (pc := 183) ok_11_14 (ik_306 hw hN) rf_306_14 gw_1307 dX11_passesOne_183 ?_
                  refine jo_iload (pc := 186) 8 rfl dX11_passesOne_186 ?_
                  refine jo_lald (pc := 188) (ik_314 hw hN) dX11_passesOne_188 (fun v27 => ?_)
                  refine jo_iload (pc := 189) 0 rfl dX11_passesOne_189 ?_
                  refine jo_i2l (pc := 191) dX11_passesOne_191 ?_
                  refine jo_lload (pc := 192) 1 rfl dX11_passesOne_192 ?_
                  refine jo_lmul (pc := 194) dX11_passesOne_194 ?_
                  refine jo_lload (pc := 195) 6 rfl dX11_passesOne_195 ?_
                  refine jo_lmul (pc := 197) dX11_passesOne_197 ?_
                  refine jo_aload_n (pc := 198) 2 rfl dX11_passesOne_198 rfl ?_
                  refine jo_iload (pc := 199) 7 rfl dX11_passesOne_199 ?_
                  refine jo_iload (pc := 201) 9 rfl dX11_passesOne_201 ?_
                  refine jo_iload (pc := 203) 8 rfl dX11_passesOne_203 ?_
                  refine jo_cV_I_p (pc := 205) (μ' := mu_X11_tail) (fx := f_X11_tail σ23 i4 i24 i13) (As := [.int i4, .int i24, .int i13]) (c_X11_tail hw hN) (ok_X11_tail) (ltb rfl) (all3 gw_1495 gw_1497 gw_79) (ik_306 hw hN) (by decide) (q := (RX11, TX11, 39)) rfl rfl rfl rfl (Nat.le_of_ble_eq_true rfl) dX11_passesOne_205 (fun v28 => ?_)
                  refine jo_i2l (pc := 208) dX11_passesOne_208 ?_
                  refine jo_lmul (pc := 209) dX11_passesOne_209 ?_
                  refine jo_aload_n (pc := 210) 2 rfl dX11_passesOne_210 rfl ?_
                  refine jo_iload_n (pc := 211) 3 rfl dX11_passesOne_211 rfl ?_
                  refine jo_iload (pc := 212) 9 rfl dX11_passesOne_212 ?_
                  refine jo_cV_J_p (pc := 214) (μ' := mu_X11_of) (fx := f_X11_of σ23 x0 i24) (As := [.int x0, .int i24]) (c_X11_of hw hN) (ok_X11_of) (ltb rfl) (all3 gw_1527 gw_1529 gw_87) (ik_306 hw hN) (by decide) (q := (RX11, TX11, 39)) rfl rfl rfl rfl (Nat.le_of_ble_eq_true rfl) dX11_passesOne_214 (fun v29 => ?_)
                  refine jo_lmul (pc := 217) dX11_passesOne_217 ?_
                  refine jo_ladd (pc := 218) dX11_passesOne_218 ?_
                  refine jo_last (pc := 219) (ik_314 hw hN) dX11_passesOne_219 (fun σ30 => ?_)
                  refine jo_iinc (pc := 220) (lv' := [(11, .int (i24 + 1)), (9, .int v6), (6, .long v1), (0, .ref (adr w 306)), (1, .int x0), (2, .int x1), (3, .int x2), (4, .long x3), (8, .int i4), (10, .int i13)]) 9 rfl dX11_passesOne_220 (congrArg (fun z => i24 + z) (ic_i_1)) (ltb rfl) rfl ?_
                  refine jo_goto (pc := 223) dX11_passesOne_223 (tgt := 157) rfl ?_
                  refine jo_lv (lv' := [(9, .int v6), (6, .long v1), (0, .ref (adr w 306)), (1, .int x0), (2, .int x1), (3, .int x2), (4, .long x3), (8, .int i4), (10, .int i13), (11, .int (i24 + 1))]) [1, 2, 3, 4, 5, 6, 7, 8, 9, 0] rfl ?_
                  exact jo_leaf (by rfl) (hF157_24 (σ30, i24 + 1))
        · refine jo_goto (pc := 74) dX11_passesOne_74 (tgt := 232) rfl ?_
          refine jo_lv (lv' := [(6, .long v1), (0, .ref (adr w 306)), (1, .int x0), (2, .int x1), (3, .int x2), (4, .long x3), (8, .int i4)]) [1, 2, 3, 4, 5, 6, 7] rfl ?_
          exact jo_leaf (by rfl) (h232_7 σ9)
      · refine jo_goto (pc := 37) dX11_passesOne_37 (tgt := 232) rfl ?_
        refine jo_lv (lv' := [(6, .long v1), (0, .ref (adr w 306)), (1, .int x0), (2, .int x1), (3, .int x2), (4, .long x3), (8, .int i4)]) [1, 2, 3, 4, 5, 6, 7] rfl ?_
        exact jo_leaf (by rfl) (h232_7 σ3)
theorem c_X11_passesOne {w : Wd} (hw : WOK w) (hN : wn w = NT) {σ : Mem} {x0 : Int32} {x1 : Int32} {x2 : Int32} {x3 : Int64} : ∀ σ', f_X11_passesOne σ x0 x1 x2 x3 = some σ' → MC w mu_X11_passesOne none [.ref (adr w 306), .int x0, .int x1, .int x2, .long x3] σ σ' := mc_ofV ok_X11_passesOne rfl (Nat.le_of_ble_eq_true rfl) (t_X11_passesOne hw hN)
end
