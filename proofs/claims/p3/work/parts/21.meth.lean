abbrev mu_X11_inverse : MD := (yX11_inverse, cX11_inverse, 4, none, 4)
theorem ok_X11_inverse : MOK mu_X11_inverse 2 := ⟨gw_1586, gw_171, (by decide +kernel : plainFor yX11_inverse = true), ⟨(by decide +kernel : yX11_inverse.cls ≠ "java/lang/invoke/MethodHandle"), (by decide +kernel : yX11_inverse.cls ≠ "java/lang/invoke/VarHandle"), (by decide +kernel : (parseMethodDescriptor yX11_inverse.desc).map (fun d => d.parameters.length) = some 2)⟩, Nat.le_of_ble_eq_true rfl⟩
noncomputable def l_X11_inverse_7 (x0 : Int32) (x1 : Int32) (σ2 : Mem) (i3 : Int32) : Option ((Mem × Int32) ⊕ Mem) :=
  (f_X11_n σ2).bind (fun (v4 : Int32) => if v4 ≤ i3 then (some (Sum.inr σ2)) else ((f_X11_copies σ2 x0 (x1 + 1)).bind (fun (σ5 : Mem) => (f_X11_times σ5 (x1 + 1) x1).bind (fun (σ6 : Mem) => (f_X11_of σ6 (x1 + 1) i3).bind (fun (v7 : Int64) => (f_X11_puts σ6 x1 i3 (-v7)).bind (fun (σ8 : Mem) => some (Sum.inl (σ8, i3 + 1))))))))
noncomputable def f_X11_inverse (σ : Mem) (x0 : Int32) (x1 : Int32) : Option Mem :=
  (f_X11_ones σ x1).bind (fun (σ1 : Mem) => loopO (fun (z3 : (Mem × Int32)) => l_X11_inverse_7 x0 x1 z3.1 z3.2) (σ1, 0))
theorem t_X11_inverse {w : Wd} (hw : WOK w) (hN : wn w = NT) {σ : Mem} {x0 : Int32} {x1 : Int32} : JO w mu_X11_inverse vV σ [(0, .ref (adr w 306)), (1, .int x0), (2, .int x1)] [] 0 (f_X11_inverse σ x0 x1) (fun z => some ((), z)) := by
  unfold f_X11_inverse
  refine jo_aload_n (pc := 0) 0 rfl dX11_inverse_0 rfl ?_
  refine jo_iload_n (pc := 1) 2 rfl dX11_inverse_1 rfl ?_
  refine jo_cV_V_i (pc := 2) (μ' := mu_X11_ones) (fx := f_X11_ones σ x1) (As := [.int x1]) (c_X11_ones hw hN) (ok_X11_ones) (ltb rfl) (all3 gw_1587 gw_1589 gw_99) (ik_306 hw hN) (by decide) (q := (RX11, TX11, 39)) rfl rfl rfl rfl (Nat.le_of_ble_eq_true rfl) dX11_inverse_2 (fun σ1 => ?_)
  refine jo_iconst (pc := 5) dX11_inverse_5 (ic_i_0) ?_
  refine jo_istore_n (pc := 6) (lv' := [(3, .int 0), (0, .ref (adr w 306)), (1, .int x0), (2, .int x1)]) dX11_inverse_6 rfl (ltb rfl) rfl ?_
  refine jo_lv (lv' := [(0, .ref (adr w 306)), (1, .int x0), (2, .int x1), (3, .int 0)]) [1, 2, 3, 0] rfl ?_
  refine jo_loop (X := Mem) (fun (z3 : (Mem × Int32)) => z3.1) (fun (z3 : (Mem × Int32)) => [(0, .ref (adr w 306)), (1, .int x0), (2, .int x1), (3, .int z3.2)]) (body := (fun (z3 : (Mem × Int32)) => l_X11_inverse_7 x0 x1 z3.1 z3.2)) (fun F7_3 hF7_3 s => ?_) (σ1, 0)
  obtain ⟨σ2, i3⟩ := s
  show JO w mu_X11_inverse vV σ2 [(0, .ref (adr w 306)), (1, .int x0), (2, .int x1), (3, .int i3)] [] 7 (l_X11_inverse_7 x0 x1 σ2 i3) _
  unfold l_X11_inverse_7
  refine jo_iload_n (pc := 7) 3 rfl dX11_inverse_7 rfl ?_
  refine jo_aload_n (pc := 8) 0 rfl dX11_inverse_8 rfl ?_
  refine jo_cV_I_p (pc := 9) (μ' := mu_X11_n) (fx := f_X11_n σ2) (As := []) (c_X11_n hw hN) (ok_X11_n) (ltb rfl) (all3 gw_1441 gw_1443 gw_68) (ik_306 hw hN) (by decide) (q := (RX11, TX11, 39)) rfl rfl rfl rfl (Nat.le_of_ble_eq_true rfl) dX11_inverse_9 (fun v4 => ?_)
  refine jo_icmp_ge (pc := 12) dX11_inverse_12 (tgt := 52) rfl ?_ ?_
  · exact jo_return (pc := 52) rfl rfl dX11_inverse_52
  · refine jo_aload_n (pc := 15) 0 rfl dX11_inverse_15 rfl ?_
    refine jo_iload_n (pc := 16) 1 rfl dX11_inverse_16 rfl ?_
    refine jo_iload_n (pc := 17) 2 rfl dX11_inverse_17 rfl ?_
    refine jo_iconst (pc := 18) dX11_inverse_18 (ic_i_1) ?_
    refine jo_iadd (pc := 19) dX11_inverse_19 ?_
    refine jo_cV_V_i (pc := 20) (μ' := mu_X11_copies) (fx := f_X11_copies σ2 x0 (x1 + 1)) (As := [.int x0, .int (x1 + 1)]) (c_X11_copies hw hN) (ok_X11_copies) (ltb rfl) (all3 gw_1591 gw_1593 gw_100) (ik_306 hw hN) (by decide) (q := (RX11, TX11, 39)) rfl rfl rfl rfl (Nat.le_of_ble_eq_true rfl) dX11_inverse_20 (fun σ5 => ?_)
    refine jo_aload_n (pc := 23) 0 rfl dX11_inverse_23 rfl ?_
    refine jo_iload_n (pc := 24) 2 rfl dX11_inverse_24 rfl ?_
    refine jo_iconst (pc := 25) dX11_inverse_25 (ic_i_1) ?_
    refine jo_iadd (pc := 26) dX11_inverse_26 ?_
    refine jo_iload_n (pc := 27) 2 rfl dX11_inverse_27 rfl ?_
    refine jo_cV_V_i (pc := 28) (μ' := mu_X11_times) (fx := f_X11_times σ5 (x1 + 1) x1) (As := [.int (x1 + 1), .int x1]) (c_X11_times hw hN) (ok_X11_times) (ltb rfl) (all3 gw_1523 gw_1525 gw_86) (ik_306 hw hN) (by decide) (q := (RX11, TX11, 39)) rfl rfl rfl rfl (Nat.le_of_ble_eq_true rfl) dX11_inverse_28 (fun σ6 => ?_)
    refine jo_aload_n (pc := 31) 0 rfl dX11_inverse_31 rfl ?_
    refine jo_iload_n (pc := 32) 2 rfl dX11_inverse_32 rfl ?_
    refine jo_iload_n (pc := 33) 3 rfl dX11_inverse_33 rfl ?_
    refine jo_aload_n (pc := 34) 0 rfl dX11_inverse_34 rfl ?_
    refine jo_iload_n (pc := 35) 2 rfl dX11_inverse_35 rfl ?_
    refine jo_iconst (pc := 36) dX11_inverse_36 (ic_i_1) ?_
    refine jo_iadd (pc := 37) dX11_inverse_37 ?_
    refine jo_iload_n (pc := 38) 3 rfl dX11_inverse_38 rfl ?_
    refine jo_cV_J_p (pc := 39) (μ' := mu_X11_of) (fx := f_X11_of σ6 (x1 + 1) i3) (As := [.int (x1 + 1), .int i3]) (c_X11_of hw hN) (ok_X11_of) (ltb rfl) (all3 gw_1527 gw_1529 gw_87) (ik_306 hw hN) (by decide) (q := (RX11, TX11, 39)) rfl rfl rfl rfl (Nat.le_of_ble_eq_true rfl) dX11_inverse_39 (fun v7 => ?_)
    refine jo_lneg (pc := 42) dX11_inverse_42 ?_
    refine jo_cV_V_i (pc := 43) (μ' := mu_X11_puts) (fx := f_X11_puts σ6 x1 i3 (-v7)) (As := [.int x1, .int i3, .long (-v7)]) (c_X11_puts hw hN) (ok_X11_puts) (ltb rfl) (all3 gw_1519 gw_1521 gw_85) (ik_306 hw hN) (by decide) (q := (RX11, TX11, 39)) rfl rfl rfl rfl (Nat.le_of_ble_eq_true rfl) dX11_inverse_43 (fun σ8 => ?_)
    refine jo_iinc (pc := 46) (lv' := [(3, .int (i3 + 1)), (0, .ref (adr w 306)), (1, .int x0), (2, .int x1)]) 3 rfl dX11_inverse_46 (congrArg (fun z => i3 + z) (ic_i_1)) (ltb rfl) rfl ?_
    refine jo_goto (pc := 49) dX11_inverse_49 (tgt := 7) rfl ?_
    refine jo_lv (lv' := [(0, .ref (adr w 306)), (1, .int x0), (2, .int x1), (3, .int (i3 + 1))]) [1, 2, 3, 0] rfl ?_
    exact jo_leaf (by rfl) (hF7_3 (σ8, i3 + 1))
theorem c_X11_inverse {w : Wd} (hw : WOK w) (hN : wn w = NT) {σ : Mem} {x0 : Int32} {x1 : Int32} : ∀ σ', f_X11_inverse σ x0 x1 = some σ' → MC w mu_X11_inverse none [.ref (adr w 306), .int x0, .int x1] σ σ' := mc_ofV ok_X11_inverse rfl (Nat.le_of_ble_eq_true rfl) (t_X11_inverse hw hN)
abbrev mu_X11_raises : MD := (yX11_raises, cX11_raises, 5, none, 5)
theorem ok_X11_raises : MOK mu_X11_raises 3 := ⟨gw_1604, gw_171, (by decide +kernel : plainFor yX11_raises = true), ⟨(by decide +kernel : yX11_raises.cls ≠ "java/lang/invoke/MethodHandle"), (by decide +kernel : yX11_raises.cls ≠ "java/lang/invoke/VarHandle"), (by decide +kernel : (parseMethodDescriptor yX11_raises.desc).map (fun d => d.parameters.length) = some 3)⟩, Nat.le_of_ble_eq_true rfl⟩
noncomputable def l_X11_raises_40 (x1 : Int32) (σ4 : Mem) (i5 : Int32) : Option ((Mem × Int32) ⊕ Mem) :=
  if i5 ≤ 0 then (some (Sum.inr σ4)) else ((f_X11_times σ4 x1 (x1 + 2)).bind (fun (σ6 : Mem) => some (Sum.inl (σ6, i5 + (-1)))))
noncomputable def j_X11_raises_38 (x1 : Int32) (σ2 : Mem) (i3 : Int32) : Option Mem :=
  loopO (fun (z5 : (Mem × Int32)) => l_X11_raises_40 x1 z5.1 z5.2) (σ2, i3)
noncomputable def j_X11_raises_23 (x1 : Int32) (x2 : Int32) (σ1 : Mem) : Option Mem :=
  (f_X11_ones σ1 x1).bind (fun (σ2 : Mem) => (if 0 ≤ x2 then (some x2) else (some (-x2)) : Option Int32).bind (fun (z3 : Int32) => j_X11_raises_38 x1 σ2 z3))
noncomputable def f_X11_raises (σ : Mem) (x0 : Int32) (x1 : Int32) (x2 : Int32) : Option Mem :=
  (if 0 ≤ x2 then ((f_X11_copies σ x0 (x1 + 2)).bind (fun (σ7 : Mem) => some σ7)) else ((f_X11_inverse σ x0 (x1 + 2)).bind (fun (σ8 : Mem) => some σ8)) : Option Mem).bind (fun (z1 : Mem) => j_X11_raises_23 x1 x2 z1)
theorem t_X11_raises {w : Wd} (hw : WOK w) (hN : wn w = NT) {σ : Mem} {x0 : Int32} {x1 : Int32} {x2 : Int32} : JO w mu_X11_raises vV σ [(0, .ref (adr w 306)), (1, .int x0), (2, .int x1), (3, .int x2)] [] 0 (f_X11_raises σ x0 x1 x2) (fun z => some ((), z)) := by
  unfold f_X11_raises
  refine jo_iload_n (pc := 0) 3 rfl dX11_raises_0 rfl ?_
  refine jo_join1 (S := Mem) (fun (z1 : Mem) => z1) (fun (z1 : Mem) => [(0, .ref (adr w 306)), (2, .int x1), (3, .int x2)]) (fun (z1 : Mem) => []) 23 ?_ (fun h23_1 => ?_)
  · intro σ1
    show JO w mu_X11_raises vV σ1 [(0, .ref (adr w 306)), (2, .int x1), (3, .int x2)] [] 23 (j_X11_raises_23 x1 x2 σ1) _
    unfold j_X11_raises_23
    refine jo_aload_n (pc := 23) 0 rfl dX11_raises_23 rfl ?_
    refine jo_iload_n (pc := 24) 1 rfl dX11_raises_24 rfl ?_
    refine jo_cV_V_i (pc := 25) (μ' := mu_X11_ones) (fx := f_X11_ones σ1 x1) (As := [.int x1]) (c_X11_ones hw hN) (ok_X11_ones) (ltb rfl) (all3 gw_1587 gw_1589 gw_99) (ik_306 hw hN) (by decide) (q := (RX11, TX11, 39)) rfl rfl rfl rfl (Nat.le_of_ble_eq_true rfl) dX11_raises_25 (fun σ2 => ?_)
    refine jo_iload_n (pc := 28) 2 rfl dX11_raises_28 rfl ?_
    refine jo_join1 (S := Int32) (fun (z3 : Int32) => σ2) (fun (z3 : Int32) => [(0, .ref (adr w 306)), (2, .int x1)]) (fun (z3 : Int32) => [.int z3]) 38 ?_ (fun h38_3 => ?_)
    · intro i3
      show JO w mu_X11_raises vV σ2 [(0, .ref (adr w 306)), (2, .int x1)] [.int i3] 38 (j_X11_raises_38 x1 σ2 i3) _
      unfold j_X11_raises_38
      refine jo_istore (pc := 38) (lv' := [(4, .int i3), (0, .ref (adr w 306)), (2, .int x1)]) dX11_raises_38 (ltb rfl) rfl ?_
      refine jo_lv (lv' := [(0, .ref (adr w 306)), (2, .int x1), (4, .int i3)]) [1, 2, 0] rfl ?_
      refine jo_loop (X := Mem) (fun (z5 : (Mem × Int32)) => z5.1) (fun (z5 : (Mem × Int32)) => [(0, .ref (adr w 306)), (2, .int x1), (4, .int z5.2)]) (body := (fun (z5 : (Mem × Int32)) => l_X11_raises_40 x1 z5.1 z5.2)) (fun F40_5 hF40_5 s => ?_) (σ2, i3)
      obtain ⟨σ4, i5⟩ := s
      show JO w mu_X11_raises vV σ4 [(0, .ref (adr w 306)), (2, .int x1), (4, .int i5)] [] 40 (l_X11_raises_40 x1 σ4 i5) _
      unfold l_X11_raises_40
      refine jo_iload (pc := 40) 2 rfl dX11_raises_40 ?_
      refine jo_if_le (pc := 42) dX11_raises_42 (tgt := 59) rfl ?_ ?_
      · exact jo_return (pc := 59) rfl rfl dX11_raises_59
      · refine jo_aload_n (pc := 45) 0 rfl dX11_raises_45 rfl ?_
        refine jo_iload_n (pc := 46) 1 rfl dX11_raises_46 rfl ?_
        refine jo_iload_n (pc := 47) 1 rfl dX11_raises_47 rfl ?_
        refine jo_iconst (pc := 48) dX11_raises_48 (ic_i_2) ?_
        refine jo_iadd (pc := 49) dX11_raises_49 ?_
        refine jo_cV_V_i (pc := 50) (μ' := mu_X11_times) (fx := f_X11_times σ4 x1 (x1 + 2)) (As := [.int x1, .int (x1 + 2)]) (c_X11_times hw hN) (ok_X11_times) (ltb rfl) (all3 gw_1523 gw_1525 gw_86) (ik_306 hw hN) (by decide) (q := (RX11, TX11, 39)) rfl rfl rfl rfl (Nat.le_of_ble_eq_true rfl) dX11_raises_50 (fun σ6 => ?_)
        refine jo_iinc (pc := 53) (lv' := [(4, .int (i5 + (-1))), (0, .ref (adr w 306)), (2, .int x1)]) 2 rfl dX11_raises_53 (congrArg (fun z => i5 + z) (ic_i_m1)) (ltb rfl) rfl ?_
        refine jo_goto (pc := 56) dX11_raises_56 (tgt := 40) rfl ?_
        refine jo_lv (lv' := [(0, .ref (adr w 306)), (2, .int x1), (4, .int (i5 + (-1)))]) [1, 2, 0] rfl ?_
        exact jo_leaf (by rfl) (hF40_5 (σ6, i5 + (-1)))
    · refine jo_if_ge (pc := 29) dX11_raises_29 (tgt := 37) rfl ?_ ?_
      · refine jo_iload_n (pc := 37) 2 rfl dX11_raises_37 rfl ?_
        refine jo_lv (lv' := [(0, .ref (adr w 306)), (2, .int x1)]) [0, 1] rfl ?_
        exact jo_leaf (by rfl) (h38_3 x2)
      · refine jo_iload_n (pc := 32) 2 rfl dX11_raises_32 rfl ?_
        refine jo_ineg (pc := 33) dX11_raises_33 ?_
        refine jo_goto (pc := 34) dX11_raises_34 (tgt := 38) rfl ?_
        refine jo_lv (lv' := [(0, .ref (adr w 306)), (2, .int x1)]) [0, 1] rfl ?_
        exact jo_leaf (by rfl) (h38_3 (-x2))
  · refine jo_if_ge (pc := 1) dX11_raises_1 (tgt := 15) rfl ?_ ?_
    · refine jo_aload_n (pc := 15) 0 rfl dX11_raises_15 rfl ?_
      refine jo_iload_n (pc := 16) 1 rfl dX11_raises_16 rfl ?_
      refine jo_iload_n (pc := 17) 2 rfl dX11_raises_17 rfl ?_
      refine jo_iconst (pc := 18) dX11_raises_18 (ic_i_2) ?_
      refine jo_iadd (pc := 19) dX11_raises_19 ?_
      refine jo_cV_V_i (pc := 20) (μ' := mu_X11_copies) (fx := f_X11_copies σ x0 (x1 + 2)) (As := [.int x0, .int (x1 + 2)]) (c_X11_copies hw hN) (ok_X11_copies) (ltb rfl) (all3 gw_1591 gw_1593 gw_100) (ik_306 hw hN) (by decide) (q := (RX11, TX11, 39)) rfl rfl rfl rfl (Nat.le_of_ble_eq_true rfl) dX11_raises_20 (fun σ7 => ?_)
      refine jo_lv (lv' := [(0, .ref (adr w 306)), (2, .int x1), (3, .int x2)]) [0, 2, 3] rfl ?_
      exact jo_leaf (by rfl) (h23_1 σ7)
    · refine jo_aload_n (pc := 4) 0 rfl dX11_raises_4 rfl ?_
      refine jo_iload_n (pc := 5) 1 rfl dX11_raises_5 rfl ?_
      refine jo_iload_n (pc := 6) 2 rfl dX11_raises_6 rfl ?_
      refine jo_iconst (pc := 7) dX11_raises_7 (ic_i_2) ?_
      refine jo_iadd (pc := 8) dX11_raises_8 ?_
      refine jo_cV_V_i (pc := 9) (μ' := mu_X11_inverse) (fx := f_X11_inverse σ x0 (x1 + 2)) (As := [.int x0, .int (x1 + 2)]) (c_X11_inverse hw hN) (ok_X11_inverse) (ltb rfl) (all3 gw_1583 gw_1585 gw_98) (ik_306 hw hN) (by decide) (q := (RX11, TX11, 39)) rfl rfl rfl rfl (Nat.le_of_ble_eq_true rfl) dX11_raises_9 (fun σ8 => ?_)
      refine jo_goto (pc := 12) dX11_raises_12 (tgt := 23) rfl ?_
      refine jo_lv (lv' := [(0, .ref (adr w 306)), (2, .int x1), (3, .int x2)]) [0, 2, 3] rfl ?_
      exact jo_leaf (by rfl) (h23_1 σ8)
theorem c_X11_raises {w : Wd} (hw : WOK w) (hN : wn w = NT) {σ : Mem} {x0 : Int32} {x1 : Int32} {x2 : Int32} : ∀ σ', f_X11_raises σ x0 x1 x2 = some σ' → MC w mu_X11_raises none [.ref (adr w 306), .int x0, .int x1, .int x2] σ σ' := mc_ofV ok_X11_raises rfl (Nat.le_of_ble_eq_true rfl) (t_X11_raises hw hN)
abbrev mu_X11_commutator : MD := (yX11_commutator, cX11_commutator, 4, none, 5)
theorem ok_X11_commutator : MOK mu_X11_commutator 3 := ⟨gw_1612, gw_171, (by decide +kernel : plainFor yX11_commutator = true), ⟨(by decide +kernel : yX11_commutator.cls ≠ "java/lang/invoke/MethodHandle"), (by decide +kernel : yX11_commutator.cls ≠ "java/lang/invoke/VarHandle"), (by decide +kernel : (parseMethodDescriptor yX11_commutator.desc).map (fun d => d.parameters.length) = some 3)⟩, Nat.le_of_ble_eq_true rfl⟩
noncomputable def f_X11_commutator (σ : Mem) (x0 : Int32) (x1 : Int32) (x2 : Int32) : Option Mem :=
  (f_X11_inverse σ x0 x2).bind (fun (σ1 : Mem) => (f_X11_inverse σ1 x1 (x2 + 1)).bind (fun (σ2 : Mem) => (f_X11_times σ2 x2 (x2 + 1)).bind (fun (σ3 : Mem) => (f_X11_times σ3 x2 x0).bind (fun (σ4 : Mem) => (f_X11_times σ4 x2 x1).bind (fun (σ5 : Mem) => some σ5)))))
theorem t_X11_commutator {w : Wd} (hw : WOK w) (hN : wn w = NT) {σ : Mem} {x0 : Int32} {x1 : Int32} {x2 : Int32} : JO w mu_X11_commutator vV σ [(0, .ref (adr w 306)), (1, .int x0), (2, .int x1), (3, .int x2)] [] 0 (f_X11_commutator σ x0 x1 x2) (fun z => some ((), z)) := by
  unfold f_X11_commutator
  refine jo_aload_n (pc := 0) 0 rfl dX11_commutator_0 rfl ?_
  refine jo_iload_n (pc := 1) 1 rfl dX11_commutator_1 rfl ?_
  refine jo_iload_n (pc := 2) 3 rfl dX11_commutator_2 rfl ?_
  refine jo_cV_V_i (pc := 3) (μ' := mu_X11_inverse) (fx := f_X11_inverse σ x0 x2) (As := [.int x0, .int x2]) (c_X11_inverse hw hN) (ok_X11_inverse) (ltb rfl) (all3 gw_1583 gw_1585 gw_98) (ik_306 hw hN) (by decide) (q := (RX11, TX11, 39)) rfl rfl rfl rfl (Nat.le_of_ble_eq_true rfl) dX11_commutator_3 (fun σ1 => ?_)
  refine jo_aload_n (pc := 6) 0 rfl dX11_commutator_6 rfl ?_
  refine jo_iload_n (pc := 7) 2 rfl dX11_commutator_7 rfl ?_
  refine jo_iload_n (pc := 8) 3 rfl dX11_commutator_8 rfl ?_
  refine jo_iconst (pc := 9) dX11_commutator_9 (ic_i_1) ?_
  refine jo_iadd (pc := 10) dX11_commutator_10 ?_
  refine jo_cV_V_i (pc := 11) (μ' := mu_X11_inverse) (fx := f_X11_inverse σ1 x1 (x2 + 1)) (As := [.int x1, .int (x2 + 1)]) (c_X11_inverse hw hN) (ok_X11_inverse) (ltb rfl) (all3 gw_1583 gw_1585 gw_98) (ik_306 hw hN) (by decide) (q := (RX11, TX11, 39)) rfl rfl rfl rfl (Nat.le_of_ble_eq_true rfl) dX11_commutator_11 (fun σ2 => ?_)
  refine jo_aload_n (pc := 14) 0 rfl dX11_commutator_14 rfl ?_
  refine jo_iload_n (pc := 15) 3 rfl dX11_commutator_15 rfl ?_
  refine jo_iload_n (pc := 16) 3 rfl dX11_commutator_16 rfl ?_
  refine jo_iconst (pc := 17) dX11_commutator_17 (ic_i_1) ?_
  refine jo_iadd (pc := 18) dX11_commutator_18 ?_
  refine jo_cV_V_i (pc := 19) (μ' := mu_X11_times) (fx := f_X11_times σ2 x2 (x2 + 1)) (As := [.int x2, .int (x2 + 1)]) (c_X11_times hw hN) (ok_X11_times) (ltb rfl) (all3 gw_1523 gw_1525 gw_86) (ik_306 hw hN) (by decide) (q := (RX11, TX11, 39)) rfl rfl rfl rfl (Nat.le_of_ble_eq_true rfl) dX11_commutator_19 (fun σ3 => ?_)
  refine jo_aload_n (pc := 22) 0 rfl dX11_commutator_22 rfl ?_
  refine jo_iload_n (pc := 23) 3 rfl dX11_commutator_23 rfl ?_
  refine jo_iload_n (pc := 24) 1 rfl dX11_commutator_24 rfl ?_
  refine jo_cV_V_i (pc := 25) (μ' := mu_X11_times) (fx := f_X11_times σ3 x2 x0) (As := [.int x2, .int x0]) (c_X11_times hw hN) (ok_X11_times) (ltb rfl) (all3 gw_1523 gw_1525 gw_86) (ik_306 hw hN) (by decide) (q := (RX11, TX11, 39)) rfl rfl rfl rfl (Nat.le_of_ble_eq_true rfl) dX11_commutator_25 (fun σ4 => ?_)
  refine jo_aload_n (pc := 28) 0 rfl dX11_commutator_28 rfl ?_
  refine jo_iload_n (pc := 29) 3 rfl dX11_commutator_29 rfl ?_
  refine jo_iload_n (pc := 30) 2 rfl dX11_commutator_30 rfl ?_
  refine jo_cV_V_i (pc := 31) (μ' := mu_X11_times) (fx := f_X11_times σ4 x2 x1) (As := [.int x2, .int x1]) (c_X11_times hw hN) (ok_X11_times) (ltb rfl) (all3 gw_1523 gw_1525 gw_86) (ik_306 hw hN) (by decide) (q := (RX11, TX11, 39)) rfl rfl rfl rfl (Nat.le_of_ble_eq_true rfl) dX11_commutator_31 (fun σ5 => ?_)
  exact jo_return (pc := 34) rfl rfl dX11_commutator_34
theorem c_X11_commutator {w : Wd} (hw : WOK w) (hN : wn w = NT) {σ : Mem} {x0 : Int32} {x1 : Int32} {x2 : Int32} : ∀ σ', f_X11_commutator σ x0 x1 x2 = some σ' → MC w mu_X11_commutator none [.ref (adr w 306), .int x0, .int x1, .int x2] σ σ' := mc_ofV ok_X11_commutator rfl (Nat.le_of_ble_eq_true rfl) (t_X11_commutator hw hN)
abbrev mu_X11_conjugates : MD := (yX11_conjugates, cX11_conjugates, 4, none, 5)
theorem ok_X11_conjugates : MOK mu_X11_conjugates 3 := ⟨gw_1620, gw_171, (by decide +kernel : plainFor yX11_conjugates = true), ⟨(by decide +kernel : yX11_conjugates.cls ≠ "java/lang/invoke/MethodHandle"), (by decide +kernel : yX11_conjugates.cls ≠ "java/lang/invoke/VarHandle"), (by decide +kernel : (parseMethodDescriptor yX11_conjugates.desc).map (fun d => d.parameters.length) = some 3)⟩, Nat.le_of_ble_eq_true rfl⟩
noncomputable def f_X11_conjugates (σ : Mem) (x0 : Int32) (x1 : Int32) (x2 : Int32) : Option Mem :=
  (f_X11_inverse σ x1 x2).bind (fun (σ1 : Mem) => (f_X11_times σ1 x2 x0).bind (fun (σ2 : Mem) => (f_X11_times σ2 x2 x1).bind (fun (σ3 : Mem) => some σ3)))
theorem t_X11_conjugates {w : Wd} (hw : WOK w) (hN : wn w = NT) {σ : Mem} {x0 : Int32} {x1 : Int32} {x2 : Int32} : JO w mu_X11_conjugates vV σ [(0, .ref (adr w 306)), (1, .int x0), (2, .int x1), (3, .int x2)] [] 0 (f_X11_conjugates σ x0 x1 x2) (fun z => some ((), z)) := by
  unfold f_X11_conjugates
  refine jo_aload_n (pc := 0) 0 rfl dX11_conjugates_0 rfl ?_
  refine jo_iload_n (pc := 1) 2 rfl dX11_conjugates_1 rfl ?_
  refine jo_iload_n (pc := 2) 3 rfl dX11_conjugates_2 rfl ?_
  refine jo_cV_V_i (pc := 3) (μ' := mu_X11_inverse) (fx := f_X11_inverse σ x1 x2) (As := [.int x1, .int x2]) (c_X11_inverse hw hN) (ok_X11_inverse) (ltb rfl) (all3 gw_1583 gw_1585 gw_98) (ik_306 hw hN) (by decide) (q := (RX11, TX11, 39)) rfl rfl rfl rfl (Nat.le_of_ble_eq_true rfl) dX11_conjugates_3 (fun σ1 => ?_)
  refine jo_aload_n (pc := 6) 0 rfl dX11_conjugates_6 rfl ?_
  refine jo_iload_n (pc := 7) 3 rfl dX11_conjugates_7 rfl ?_
  refine jo_iload_n (pc := 8) 1 rfl dX11_conjugates_8 rfl ?_
  refine jo_cV_V_i (pc := 9) (μ' := mu_X11_times) (fx := f_X11_times σ1 x2 x0) (As := [.int x2, .int x0]) (c_X11_times hw hN) (ok_X11_times) (ltb rfl) (all3 gw_1523 gw_1525 gw_86) (ik_306 hw hN) (by decide) (q := (RX11, TX11, 39)) rfl rfl rfl rfl (Nat.le_of_ble_eq_true rfl) dX11_conjugates_9 (fun σ2 => ?_)
  refine jo_aload_n (pc := 12) 0 rfl dX11_conjugates_12 rfl ?_
  refine jo_iload_n (pc := 13) 3 rfl dX11_conjugates_13 rfl ?_
  refine jo_iload_n (pc := 14) 2 rfl dX11_conjugates_14 rfl ?_
  refine jo_cV_V_i (pc := 15) (μ' := mu_X11_times) (fx := f_X11_times σ2 x2 x1) (As := [.int x2, .int x1]) (c_X11_times hw hN) (ok_X11_times) (ltb rfl) (all3 gw_1523 gw_1525 gw_86) (ik_306 hw hN) (by decide) (q := (RX11, TX11, 39)) rfl rfl rfl rfl (Nat.le_of_ble_eq_true rfl) dX11_conjugates_15 (fun σ3 => ?_)
  exact jo_return (pc := 18) rfl rfl dX11_conjugates_18
theorem c_X11_conjugates {w : Wd} (hw : WOK w) (hN : wn w = NT) {σ : Mem} {x0 : Int32} {x1 : Int32} {x2 : Int32} : ∀ σ', f_X11_conjugates σ x0 x1 x2 = some σ' → MC w mu_X11_conjugates none [.ref (adr w 306), .int x0, .int x1, .int x2] σ σ' := mc_ofV ok_X11_conjugates rfl (Nat.le_of_ble_eq_true rfl) (t_X11_conjugates hw hN)
abbrev mu_X11_isElement : MD := (yX11_isElement, cX11_isElement, 3, some .boolean, 1)
theorem ok_X11_isElement : MOK mu_X11_isElement 1 := ⟨gw_1574, gw_171, (by decide +kernel : plainFor yX11_isElement = true), ⟨(by decide +kernel : yX11_isElement.cls ≠ "java/lang/invoke/MethodHandle"), (by decide +kernel : yX11_isElement.cls ≠ "java/lang/invoke/VarHandle"), (by decide +kernel : (parseMethodDescriptor yX11_isElement.desc).map (fun d => d.parameters.length) = some 1)⟩, Nat.le_of_ble_eq_true rfl⟩
noncomputable def l_X11_isElement_2 (σ : Mem) (x0 : Int32) (i1 : Int32) : Option (Int32 ⊕ Bool) :=
  (f_X11_n σ).bind (fun (v2 : Int32) => if v2 ≤ i1 then (some (Sum.inr true)) else ((f_X11_of σ x0 i1).bind (fun (v3 : Int64) => (f_X11_isIn σ v3 (-999) 999).bind (fun (b4 : Bool) => if b4 then some (Sum.inl (i1 + 1)) else some (Sum.inr false)))))
noncomputable def f_X11_isElement (σ : Mem) (x0 : Int32) : Option Bool :=
  loopO (fun (z1 : Int32) => l_X11_isElement_2 σ x0 z1) 0
theorem t_X11_isElement {w : Wd} (hw : WOK w) (hN : wn w = NT) {σ : Mem} {x0 : Int32} : JO w mu_X11_isElement vB σ [(0, .ref (adr w 306)), (1, .int x0)] [] 0 (f_X11_isElement σ x0) (fun z => some (z, σ)) := by
  unfold f_X11_isElement
  refine jo_iconst (pc := 0) dX11_isElement_0 (ic_i_0) ?_
  refine jo_istore_n (pc := 1) (lv' := [(2, .int 0), (0, .ref (adr w 306)), (1, .int x0)]) dX11_isElement_1 rfl (ltb rfl) rfl ?_
  refine jo_lv (lv' := [(0, .ref (adr w 306)), (1, .int x0), (2, .int 0)]) [1, 2, 0] rfl ?_
  refine jo_loop (X := Bool) (fun (z1 : Int32) => σ) (fun (z1 : Int32) => [(0, .ref (adr w 306)), (1, .int x0), (2, .int z1)]) (body := (fun (z1 : Int32) => l_X11_isElement_2 σ x0 z1)) (fun F2_1 hF2_1 s => ?_) 0
  revert s; intro i1
  show JO w mu_X11_isElement vB σ [(0, .ref (adr w 306)), (1, .int x0), (2, .int i1)] [] 2 (l_X11_isElement_2 σ x0 i1) _
  unfold l_X11_isElement_2
  refine jo_iload_n (pc := 2) 2 rfl dX11_isElement_2 rfl ?_
  refine jo_aload_n (pc := 3) 0 rfl dX11_isElement_3 rfl ?_
  refine jo_cV_I_p (pc := 4) (μ' := mu_X11_n) (fx := f_X11_n σ) (As := []) (c_X11_n hw hN) (ok_X11_n) (ltb rfl) (all3 gw_1441 gw_1443 gw_68) (ik_306 hw hN) (by decide) (q := (RX11, TX11, 39)) rfl rfl rfl rfl (Nat.le_of_ble_eq_true rfl) dX11_isElement_4 (fun v2 => ?_)
  refine jo_icmp_ge (pc := 7) dX11_isElement_7 (tgt := 37) rfl ?_ ?_
  · refine jo_iconst (pc := 37) dX11_isElement_37 (ic_i_1) ?_
    exact jo_breturn (pc := 38) (b := true) rfl rfl dX11_isElement_38
  · refine jo_aload_n (pc := 10) 0 rfl dX11_isElement_10 rfl ?_
    refine jo_aload_n (pc := 11) 0 rfl dX11_isElement_11 rfl ?_
    refine jo_iload_n (pc := 12) 1 rfl dX11_isElement_12 rfl ?_
    refine jo_iload_n (pc := 13) 2 rfl dX11_isElement_13 rfl ?_
    refine jo_cV_J_p (pc := 14) (μ' := mu_X11_of) (fx := f_X11_of σ x0 i1) (As := [.int x0, .int i1]) (c_X11_of hw hN) (ok_X11_of) (ltb rfl) (all3 gw_1527 gw_1529 gw_87) (ik_306 hw hN) (by decide) (q := (RX11, TX11, 39)) rfl rfl rfl rfl (Nat.le_of_ble_eq_true rfl) dX11_isElement_14 (fun v3 => ?_)
    refine jo_ldc2 (pc := 17) dX11_isElement_17 gw_1557 ?_
    refine jo_ldc2 (pc := 20) dX11_isElement_20 gw_1558 ?_
    refine jo_cV_Z_p (pc := 23) (μ' := mu_X11_isIn) (fx := f_X11_isIn σ v3 (-999) 999) (As := [.long v3, .long (-999), .long 999]) (c_X11_isIn hw hN) (ok_X11_isIn) (ltb rfl) (all3 gw_1420 gw_1422 gw_64) (ik_306 hw hN) (by decide) (q := (RX11, TX11, 39)) rfl rfl rfl rfl (Nat.le_of_ble_eq_true rfl) dX11_isElement_23 (fun b4 => ?_)
    refine jo_ifz_ne (pc := 26) dX11_isElement_26 (tgt := 31) rfl ?_ ?_
    · refine jo_iinc (pc := 31) (lv' := [(2, .int (i1 + 1)), (0, .ref (adr w 306)), (1, .int x0)]) 2 rfl dX11_isElement_31 (congrArg (fun z => i1 + z) (ic_i_1)) (ltb rfl) rfl ?_
      refine jo_goto (pc := 34) dX11_isElement_34 (tgt := 2) rfl ?_
      refine jo_lv (lv' := [(0, .ref (adr w 306)), (1, .int x0), (2, .int (i1 + 1))]) [1, 2, 0] rfl ?_
      exact jo_leaf (by rfl) (hF2_1 (i1 + 1))
    · refine jo_iconst (pc := 29) dX11_isElement_29 (ic_i_0) ?_
      exact jo_breturn (pc := 30) (b := false) rfl rfl dX11_isElement_30
theorem c_X11_isElement {w : Wd} (hw : WOK w) (hN : wn w = NT) {σ : Mem} {x0 : Int32} : ∀ r, f_X11_isElement σ x0 = some r → MC w mu_X11_isElement (vB r) [.ref (adr w 306), .int x0] σ σ := mc_ofP ok_X11_isElement rfl (Nat.le_of_ble_eq_true rfl) (t_X11_isElement hw hN)
abbrev mu_X11_isOne : MD := (yX11_isOne, cX11_isOne, 3, some .boolean, 1)
theorem ok_X11_isOne : MOK mu_X11_isOne 1 := ⟨gw_1753, gw_171, (by decide +kernel : plainFor yX11_isOne = true), ⟨(by decide +kernel : yX11_isOne.cls ≠ "java/lang/invoke/MethodHandle"), (by decide +kernel : yX11_isOne.cls ≠ "java/lang/invoke/VarHandle"), (by decide +kernel : (parseMethodDescriptor yX11_isOne.desc).map (fun d => d.parameters.length) = some 1)⟩, Nat.le_of_ble_eq_true rfl⟩
noncomputable def l_X11_isOne_2 (σ : Mem) (x0 : Int32) (i1 : Int32) : Option (Int32 ⊕ Bool) :=
  (f_X11_n σ).bind (fun (v2 : Int32) => if v2 ≤ i1 then (some (Sum.inr true)) else ((f_X11_of σ x0 i1).bind (fun (v3 : Int64) => if v3 = 0 then (some (Sum.inl (i1 + 1))) else (some (Sum.inr false)))))
noncomputable def f_X11_isOne (σ : Mem) (x0 : Int32) : Option Bool :=
  loopO (fun (z1 : Int32) => l_X11_isOne_2 σ x0 z1) 0
theorem t_X11_isOne {w : Wd} (hw : WOK w) (hN : wn w = NT) {σ : Mem} {x0 : Int32} : JO w mu_X11_isOne vB σ [(0, .ref (adr w 306)), (1, .int x0)] [] 0 (f_X11_isOne σ x0) (fun z => some (z, σ)) := by
  unfold f_X11_isOne
  refine jo_iconst (pc := 0) dX11_isOne_0 (ic_i_0) ?_
  refine jo_istore_n (pc := 1) (lv' := [(2, .int 0), (0, .ref (adr w 306)), (1, .int x0)]) dX11_isOne_1 rfl (ltb rfl) rfl ?_
  refine jo_lv (lv' := [(0, .ref (adr w 306)), (1, .int x0), (2, .int 0)]) [1, 2, 0] rfl ?_
  refine jo_loop (X := Bool) (fun (z1 : Int32) => σ) (fun (z1 : Int32) => [(0, .ref (adr w 306)), (1, .int x0), (2, .int z1)]) (body := (fun (z1 : Int32) => l_X11_isOne_2 σ x0 z1)) (fun F2_1 hF2_1 s => ?_) 0
  revert s; intro i1
  show JO w mu_X11_isOne vB σ [(0, .ref (adr w 306)), (1, .int x0), (2, .int i1)] [] 2 (l_X11_isOne_2 σ x0 i1) _
  unfold l_X11_isOne_2
  refine jo_iload_n (pc := 2) 2 rfl dX11_isOne_2 rfl ?_
  refine jo_aload_n (pc := 3) 0 rfl dX11_isOne_3 rfl ?_
  refine jo_cV_I_p (pc := 4) (μ' := mu_X11_n) (fx := f_X11_n σ) (As := []) (c_X11_n hw hN) (ok_X11_n) (ltb rfl) (all3 gw_1441 gw_1443 gw_68) (ik_306 hw hN) (by decide) (q := (RX11, TX11, 39)) rfl rfl rfl rfl (Nat.le_of_ble_eq_true rfl) dX11_isOne_4 (fun v2 => ?_)
  refine jo_icmp_ge (pc := 7) dX11_isOne_7 (tgt := 29) rfl ?_ ?_
  · refine jo_iconst (pc := 29) dX11_isOne_29 (ic_i_1) ?_
    exact jo_breturn (pc := 30) (b := true) rfl rfl dX11_isOne_30
  · refine jo_aload_n (pc := 10) 0 rfl dX11_isOne_10 rfl ?_
    refine jo_iload_n (pc := 11) 1 rfl dX11_isOne_11 rfl ?_
    refine jo_iload_n (pc := 12) 2 rfl dX11_isOne_12 rfl ?_
    refine jo_cV_J_p (pc := 13) (μ' := mu_X11_of) (fx := f_X11_of σ x0 i1) (As := [.int x0, .int i1]) (c_X11_of hw hN) (ok_X11_of) (ltb rfl) (all3 gw_1527 gw_1529 gw_87) (ik_306 hw hN) (by decide) (q := (RX11, TX11, 39)) rfl rfl rfl rfl (Nat.le_of_ble_eq_true rfl) dX11_isOne_13 (fun v3 => ?_)
    refine jo_lconst (pc := 16) dX11_isOne_16 (ic_l_0) ?_
    refine jo_lcmp_eq (pc := 17) dX11_isOne_17 dX11_isOne_18 (tgt := 23) rfl ?_ ?_
    · refine jo_iinc (pc := 23) (lv' := [(2, .int (i1 + 1)), (0, .ref (adr w 306)), (1, .int x0)]) 2 rfl dX11_isOne_23 (congrArg (fun z => i1 + z) (ic_i_1)) (ltb rfl) rfl ?_
      refine jo_goto (pc := 26) dX11_isOne_26 (tgt := 2) rfl ?_
      refine jo_lv (lv' := [(0, .ref (adr w 306)), (1, .int x0), (2, .int (i1 + 1))]) [1, 2, 0] rfl ?_
      exact jo_leaf (by rfl) (hF2_1 (i1 + 1))
    · refine jo_iconst (pc := 21) dX11_isOne_21 (ic_i_0) ?_
      exact jo_breturn (pc := 22) (b := false) rfl rfl dX11_isOne_22
theorem c_X11_isOne {w : Wd} (hw : WOK w) (hN : wn w = NT) {σ : Mem} {x0 : Int32} : ∀ r, f_X11_isOne σ x0 = some r → MC w mu_X11_isOne (vB r) [.ref (adr w 306), .int x0] σ σ := mc_ofP ok_X11_isOne rfl (Nat.le_of_ble_eq_true rfl) (t_X11_isOne hw hN)
abbrev mu_X11_areSame : MD := (yX11_areSame, cX11_areSame, 4, some .boolean, 1)
theorem ok_X11_areSame : MOK mu_X11_areSame 2 := ⟨gw_1644, gw_171, (by decide +kernel : plainFor yX11_areSame = true), ⟨(by decide +kernel : yX11_areSame.cls ≠ "java/lang/invoke/MethodHandle"), (by decide +kernel : yX11_areSame.cls ≠ "java/lang/invoke/VarHandle"), (by decide +kernel : (parseMethodDescriptor yX11_areSame.desc).map (fun d => d.parameters.length) = some 2)⟩, Nat.le_of_ble_eq_true rfl⟩
noncomputable def l_X11_areSame_2 (σ : Mem) (x0 : Int32) (x1 : Int32) (i1 : Int32) : Option (Int32 ⊕ Bool) :=
  (f_X11_n σ).bind (fun (v2 : Int32) => if v2 ≤ i1 then (some (Sum.inr true)) else ((f_X11_of σ x0 i1).bind (fun (v3 : Int64) => (f_X11_of σ x1 i1).bind (fun (v4 : Int64) => if v3 = v4 then (some (Sum.inl (i1 + 1))) else (some (Sum.inr false))))))
noncomputable def f_X11_areSame (σ : Mem) (x0 : Int32) (x1 : Int32) : Option Bool :=
  loopO (fun (z1 : Int32) => l_X11_areSame_2 σ x0 x1 z1) 0
theorem t_X11_areSame {w : Wd} (hw : WOK w) (hN : wn w = NT) {σ : Mem} {x0 : Int32} {x1 : Int32} : JO w mu_X11_areSame vB σ [(0, .ref (adr w 306)), (1, .int x0), (2, .int x1)] [] 0 (f_X11_areSame σ x0 x1) (fun z => some (z, σ)) := by
  unfold f_X11_areSame
  refine jo_iconst (pc := 0) dX11_areSame_0 (ic_i_0) ?_
  refine jo_istore_n (pc := 1) (lv' := [(3, .int 0), (0, .ref (adr w 306)), (1, .int x0), (2, .int x1)]) dX11_areSame_1 rfl (ltb rfl) rfl ?_
  refine jo_lv (lv' := [(0, .ref (adr w 306)), (1, .int x0), (2, .int x1), (3, .int 0)]) [1, 2, 3, 0] rfl ?_
  refine jo_loop (X := Bool) (fun (z1 : Int32) => σ) (fun (z1 : Int32) => [(0, .ref (adr w 306)), (1, .int x0), (2, .int x1), (3, .int z1)]) (body := (fun (z1 : Int32) => l_X11_areSame_2 σ x0 x1 z1)) (fun F2_1 hF2_1 s => ?_) 0
  revert s; intro i1
  show JO w mu_X11_areSame vB σ [(0, .ref (adr w 306)), (1, .int x0), (2, .int x1), (3, .int i1)] [] 2 (l_X11_areSame_2 σ x0 x1 i1) _
  unfold l_X11_areSame_2
  refine jo_iload_n (pc := 2) 3 rfl dX11_areSame_2 rfl ?_
  refine jo_aload_n (pc := 3) 0 rfl dX11_areSame_3 rfl ?_
  refine jo_cV_I_p (pc := 4) (μ' := mu_X11_n) (fx := f_X11_n σ) (As := []) (c_X11_n hw hN) (ok_X11_n) (ltb rfl) (all3 gw_1441 gw_1443 gw_68) (ik_306 hw hN) (by decide) (q := (RX11, TX11, 39)) rfl rfl rfl rfl (Nat.le_of_ble_eq_true rfl) dX11_areSame_4 (fun v2 => ?_)
  refine jo_icmp_ge (pc := 7) dX11_areSame_7 (tgt := 34) rfl ?_ ?_
  · refine jo_iconst (pc := 34) dX11_areSame_34 (ic_i_1) ?_
    exact jo_breturn (pc := 35) (b := true) rfl rfl dX11_areSame_35
  · refine jo_aload_n (pc := 10) 0 rfl dX11_areSame_10 rfl ?_
    refine jo_iload_n (pc := 11) 1 rfl dX11_areSame_11 rfl ?_
    refine jo_iload_n (pc := 12) 3 rfl dX11_areSame_12 rfl ?_
    refine jo_cV_J_p (pc := 13) (μ' := mu_X11_of) (fx := f_X11_of σ x0 i1) (As := [.int x0, .int i1]) (c_X11_of hw hN) (ok_X11_of) (ltb rfl) (all3 gw_1527 gw_1529 gw_87) (ik_306 hw hN) (by decide) (q := (RX11, TX11, 39)) rfl rfl rfl rfl (Nat.le_of_ble_eq_true rfl) dX11_areSame_13 (fun v3 => ?_)
    refine jo_aload_n (pc := 16) 0 rfl dX11_areSame_16 rfl ?_
    refine jo_iload_n (pc := 17) 2 rfl dX11_areSame_17 rfl ?_
    refine jo_iload_n (pc := 18) 3 rfl dX11_areSame_18 rfl ?_
    refine jo_cV_J_p (pc := 19) (μ' := mu_X11_of) (fx := f_X11_of σ x1 i1) (As := [.int x1, .int i1]) (c_X11_of hw hN) (ok_X11_of) (ltb rfl) (all3 gw_1527 gw_1529 gw_87) (ik_306 hw hN) (by decide) (q := (RX11, TX11, 39)) rfl rfl rfl rfl (Nat.le_of_ble_eq_true rfl) dX11_areSame_19 (fun v4 => ?_)
    refine jo_lcmp_eq (pc := 22) dX11_areSame_22 dX11_areSame_23 (tgt := 28) rfl ?_ ?_
    · refine jo_iinc (pc := 28) (lv' := [(3, .int (i1 + 1)), (0, .ref (adr w 306)), (1, .int x0), (2, .int x1)]) 3 rfl dX11_areSame_28 (congrArg (fun z => i1 + z) (ic_i_1)) (ltb rfl) rfl ?_
      refine jo_goto (pc := 31) dX11_areSame_31 (tgt := 2) rfl ?_
      refine jo_lv (lv' := [(0, .ref (adr w 306)), (1, .int x0), (2, .int x1), (3, .int (i1 + 1))]) [1, 2, 3, 0] rfl ?_
      exact jo_leaf (by rfl) (hF2_1 (i1 + 1))
    · refine jo_iconst (pc := 26) dX11_areSame_26 (ic_i_0) ?_
      exact jo_breturn (pc := 27) (b := false) rfl rfl dX11_areSame_27
theorem c_X11_areSame {w : Wd} (hw : WOK w) (hN : wn w = NT) {σ : Mem} {x0 : Int32} {x1 : Int32} : ∀ r, f_X11_areSame σ x0 x1 = some r → MC w mu_X11_areSame (vB r) [.ref (adr w 306), .int x0, .int x1] σ σ := mc_ofP ok_X11_areSame rfl (Nat.le_of_ble_eq_true rfl) (t_X11_areSame hw hN)
abbrev mu_X11_isRegister : MD := (yX11_isRegister, cX11_isRegister, 2, some .boolean, 1)
theorem ok_X11_isRegister : MOK mu_X11_isRegister 1 := ⟨gw_1473, gw_171, (by decide +kernel : plainFor yX11_isRegister = true), ⟨(by decide +kernel : yX11_isRegister.cls ≠ "java/lang/invoke/MethodHandle"), (by decide +kernel : yX11_isRegister.cls ≠ "java/lang/invoke/VarHandle"), (by decide +kernel : (parseMethodDescriptor yX11_isRegister.desc).map (fun d => d.parameters.length) = some 1)⟩, Nat.le_of_ble_eq_true rfl⟩
noncomputable def f_X11_isRegister (σ : Mem) (x0 : Int32) : Option Bool :=
  (f_X11_isIn σ (Int32.toInt64 x0) 0 9).bind (fun (b1 : Bool) => some b1)
theorem t_X11_isRegister {w : Wd} (hw : WOK w) (hN : wn w = NT) {σ : Mem} {x0 : Int32} : JO w mu_X11_isRegister vB σ [(0, .ref (adr w 306)), (1, .int x0)] [] 0 (f_X11_isRegister σ x0) (fun z => some (z, σ)) := by
  unfold f_X11_isRegister
  refine jo_aload_n (pc := 0) 0 rfl dX11_isRegister_0 rfl ?_
  refine jo_iload_n (pc := 1) 1 rfl dX11_isRegister_1 rfl ?_
  refine jo_i2l (pc := 2) dX11_isRegister_2 ?_
  refine jo_lconst (pc := 3) dX11_isRegister_3 (ic_l_0) ?_
  refine jo_ldc2 (pc := 4) dX11_isRegister_4 gw_1474 ?_
  refine jo_cV_Z_p (pc := 7) (μ' := mu_X11_isIn) (fx := f_X11_isIn σ (Int32.toInt64 x0) 0 9) (As := [.long (Int32.toInt64 x0), .long 0, .long 9]) (c_X11_isIn hw hN) (ok_X11_isIn) (ltb rfl) (all3 gw_1420 gw_1422 gw_64) (ik_306 hw hN) (by decide) (q := (RX11, TX11, 39)) rfl rfl rfl rfl (Nat.le_of_ble_eq_true rfl) dX11_isRegister_7 (fun b1 => ?_)
  exact jo_breturn (pc := 10) (b := b1) rfl rfl dX11_isRegister_10
theorem c_X11_isRegister {w : Wd} (hw : WOK w) (hN : wn w = NT) {σ : Mem} {x0 : Int32} : ∀ r, f_X11_isRegister σ x0 = some r → MC w mu_X11_isRegister (vB r) [.ref (adr w 306), .int x0] σ σ := mc_ofP ok_X11_isRegister rfl (Nat.le_of_ble_eq_true rfl) (t_X11_isRegister hw hN)
abbrev mu_X11_gives : MD := (yX11_gives, cX11_gives, 4, some .boolean, 2)
theorem ok_X11_gives : MOK mu_X11_gives 2 := ⟨gw_1570, gw_171, (by decide +kernel : plainFor yX11_gives = true), ⟨(by decide +kernel : yX11_gives.cls ≠ "java/lang/invoke/MethodHandle"), (by decide +kernel : yX11_gives.cls ≠ "java/lang/invoke/VarHandle"), (by decide +kernel : (parseMethodDescriptor yX11_gives.desc).map (fun d => d.parameters.length) = some 2)⟩, Nat.le_of_ble_eq_true rfl⟩
noncomputable def j_X11_gives_65 (x0 : Int32) (σ3 : Mem) (i4 : Int32) (i6 : Int32) : Option ((Mem × Int32) ⊕ (Bool × Mem)) :=
  pI σ3 307 ((223 + (6 * x0)) + i4) i6 (fun (σ7 : Mem) => some (Sum.inl (σ7, i4 + 1)))
noncomputable def l_X11_gives_26 (x0 : Int32) (x1 : Int32) (σ3 : Mem) (i4 : Int32) : Option ((Mem × Int32) ⊕ (Bool × Mem)) :=
  if 6 ≤ i4 then (some (Sum.inr (true, σ3))) else ((f_X11_n σ3).bind (fun (v5 : Int32) => (if v5 ≤ i4 then (some 0) else ((f_X11_of σ3 x1 i4).bind (fun (v8 : Int64) => some (Int64.toInt32 v8))) : Option Int32).bind (fun (z6 : Int32) => j_X11_gives_65 x0 σ3 i4 z6)))
noncomputable def f_X11_gives (σ : Mem) (x0 : Int32) (x1 : Int32) : Option (Bool × Mem) :=
  (f_X11_isElement σ x1).bind (fun (b1 : Bool) => if b1 then (f_X11_keepsAct σ).bind (fun (σ2 : Mem) => loopO (fun (z4 : (Mem × Int32)) => l_X11_gives_26 x0 x1 z4.1 z4.2) (σ2, 0)) else gF σ 306 4 (fun (v9 : Int32) => pF σ 306 4 (v9 + 1) (fun (σ10 : Mem) => some (false, σ10))))
theorem t_X11_gives {w : Wd} (hw : WOK w) (hN : wn w = NT) {σ : Mem} {x0 : Int32} {x1 : Int32} : JO w mu_X11_gives vB σ [(0, .ref (adr w 306)), (1, .int x0), (2, .int x1)] [] 0 (f_X11_gives σ x0 x1) some := by
  unfold f_X11_gives
  refine jo_aload_n (pc := 0) 0 rfl dX11_gives_0 rfl ?_
  refine jo_iload_n (pc := 1) 2 rfl dX11_gives_1 rfl ?_
  refine jo_cV_Z_p (pc := 2) (μ' := mu_X11_isElement) (fx := f_X11_isElement σ x1) (As := [.int x1]) (c_X11_isElement hw hN) (ok_X11_isElement) (ltb rfl) (all3 gw_1571 gw_1573 gw_97) (ik_306 hw hN) (by decide) (q := (RX11, TX11, 39)) rfl rfl rfl rfl (Nat.le_of_ble_eq_true rfl) dX11_gives_2 (fun b1 => ?_)
  refine jo_ifz_ne (pc := 5) dX11_gives_5 (tgt := 20) rfl ?_ ?_
  · refine jo_aload_n (pc := 20) 0 rfl dX11_gives_20 rfl ?_
    refine jo_cV_V_i (pc := 21) (μ' := mu_X11_keepsAct) (fx := f_X11_keepsAct σ) (As := []) (c_X11_keepsAct hw hN) (ok_X11_keepsAct) (ltb rfl) (all3 gw_1429 gw_1431 gw_66) (ik_306 hw hN) (by decide) (q := (RX11, TX11, 39)) rfl rfl rfl rfl (Nat.le_of_ble_eq_true rfl) dX11_gives_21 (fun σ2 => ?_)
    refine jo_iconst (pc := 24) dX11_gives_24 (ic_i_0) ?_
    refine jo_istore_n (pc := 25) (lv' := [(3, .int 0), (0, .ref (adr w 306)), (1, .int x0), (2, .int x1)]) dX11_gives_25 rfl (ltb rfl) rfl ?_
    refine jo_lv (lv' := [(0, .ref (adr w 306)), (1, .int x0), (2, .int x1), (3, .int 0)]) [1, 2, 3, 0] rfl ?_
    refine jo_loop (X := (Bool × Mem)) (fun (z4 : (Mem × Int32)) => z4.1) (fun (z4 : (Mem × Int32)) => [(0, .ref (adr w 306)), (1, .int x0), (2, .int x1), (3, .int z4.2)]) (body := (fun (z4 : (Mem × Int32)) => l_X11_gives_26 x0 x1 z4.1 z4.2)) (fun F26_4 hF26_4 s => ?_) (σ2, 0)
    obtain ⟨σ3, i4⟩ := s
    show JO w mu_X11_gives vB σ3 [(0, .ref (adr w 306)), (1, .int x0), (2, .int x1), (3, .int i4)] [] 26 (l_X11_gives_26 x0 x1 σ3 i4) _
    unfold l_X11_gives_26
    refine jo_iload_n (pc := 26) 3 rfl dX11_gives_26 rfl ?_
    refine jo_bipush (pc := 27) dX11_gives_27 (ic_b_6) ?_
    refine jo_icmp_ge (pc := 29) dX11_gives_29 (tgt := 72) rfl ?_ ?_
    · refine jo_iconst (pc := 72) dX11_gives_72 (ic_i_1) ?_
      exact jo_breturn (pc := 73) (b := true) rfl rfl dX11_gives_73
    · refine jo_aload_n (pc := 32) 0 rfl dX11_gives_32 rfl ?_
      refine jo_getrE (pc := 33) ok_11_1 (ik_306 hw hN) rf_306_1 gw_1294 dX11_gives_33 ?_
      refine jo_sipush (pc := 36) dX11_gives_36 (ic_s_223) ?_
      refine jo_bipush (pc := 39) dX11_gives_39 (ic_b_6) ?_
      refine jo_iload_n (pc := 41) 1 rfl dX11_gives_41 rfl ?_
      refine jo_imul (pc := 42) dX11_gives_42 ?_
      refine jo_iadd (pc := 43) dX11_gives_43 ?_
      refine jo_iload_n (pc := 44) 3 rfl dX11_gives_44 rfl ?_
      refine jo_iadd (pc := 45) dX11_gives_45 ?_
      refine jo_iload_n (pc := 46) 3 rfl dX11_gives_46 rfl ?_
      refine jo_aload_n (pc := 47) 0 rfl dX11_gives_47 rfl ?_
      refine jo_cV_I_p (pc := 48) (μ' := mu_X11_n) (fx := f_X11_n σ3) (As := []) (c_X11_n hw hN) (ok_X11_n) (ltb rfl) (all3 gw_1441 gw_1443 gw_68) (ik_306 hw hN) (by decide) (q := (RX11, TX11, 39)) rfl rfl rfl rfl (Nat.le_of_ble_eq_true rfl) dX11_gives_48 (fun v5 => ?_)
      refine jo_join1 (S := Int32) (fun (z6 : Int32) => σ3) (fun (z6 : Int32) => [(0, .ref (adr w 306)), (1, .int x0), (2, .int x1), (3, .int i4)]) (fun (z6 : Int32) => [.int z6, .int ((223 + (6 * x0)) + i4), .ref (adr w 307)]) 65 ?_ (fun h65_6 => ?_)
      · intro i6
        show JO w mu_X11_gives vB σ3 [(0, .ref (adr w 306)), (1, .int x0), (2, .int x1), (3, .int i4)] [.int i6, .int ((223 + (6 * x0)) + i4), .ref (adr w 307)] 65 (j_X11_gives_65 x0 σ3 i4 i6) _
        unfold j_X11_gives_65
        refine jo_iast (pc := 65) (ik_307 hw hN) dX11_gives_65 (fun σ7 => ?_)
        refine jo_iinc (pc := 66) (lv' := [(3, .int (i4 + 1)), (0, .ref (adr w 306)), (1, .int x0), (2, .int x1)]) 3 rfl dX11_gives_66 (congrArg (fun z => i4 + z) (ic_i_1)) (ltb rfl) rfl ?_
        refine jo_goto (pc := 69) dX11_gives_69 (tgt := 26) rfl ?_
        refine jo_lv (lv' := [(0, .ref (adr w 306)), (1, .int x0), (2, .int x1), (3, .int (i4 + 1))]) [1, 2, 3, 0] rfl ?_
        exact jo_leaf (by rfl) (hF26_4 (σ7, i4 + 1))
      · refine jo_icmp_ge (pc := 51) dX11_gives_51 (tgt := 64) rfl ?_ ?_
        · refine jo_iconst (pc := 64) dX11_gives_64 (ic_i_0) ?_
          exact jo_leaf (by rfl) (h65_6 0)
        · refine jo_aload_n (pc := 54) 0 rfl dX11_gives_54 rfl ?_
          refine jo_iload_n (pc := 55) 2 rfl dX11_gives_55 rfl ?_
          refine jo_iload_n (pc := 56) 3 rfl dX11_gives_56 rfl ?_
          refine jo_cV_J_p (pc := 57) (μ' := mu_X11_of) (fx := f_X11_of σ3 x1 i4) (As := [.int x1, .int i4]) (c_X11_of hw hN) (ok_X11_of) (ltb rfl) (all3 gw_1527 gw_1529 gw_87) (ik_306 hw hN) (by decide) (q := (RX11, TX11, 39)) rfl rfl rfl rfl (Nat.le_of_ble_eq_true rfl) dX11_gives_57 (fun v8 => ?_)
          refine jo_l2i (pc := 60) dX11_gives_60 ?_
          refine jo_goto (pc := 61) dX11_gives_61 (tgt := 65) rfl ?_
          exact jo_leaf (by rfl) (h65_6 (Int64.toInt32 v8))
  · refine jo_aload_n (pc := 8) 0 rfl dX11_gives_8 rfl ?_
    refine jo_aload_n (pc := 9) 0 rfl dX11_gives_9 rfl ?_
    refine jo_getf (pc := 10) ok_11_4 (ik_306 hw hN) gw_1297 dX11_gives_10 (fun v9 => ?_)
    refine jo_iconst (pc := 13) dX11_gives_13 (ic_i_1) ?_
    refine jo_iadd (pc := 14) dX11_gives_14 ?_
    refine jo_putf (pc := 15) ok_11_4 okp_11_4 (ik_306 hw hN) gw_1297 dX11_gives_15 (fun σ10 => ?_)
    refine jo_iconst (pc := 18) dX11_gives_18 (ic_i_0) ?_
    exact jo_breturn (pc := 19) (b := false) rfl rfl dX11_gives_19
theorem c_X11_gives {w : Wd} (hw : WOK w) (hN : wn w = NT) {σ : Mem} {x0 : Int32} {x1 : Int32} : ∀ r σ', f_X11_gives σ x0 x1 = some (r, σ') → MC w mu_X11_gives (vB r) [.ref (adr w 306), .int x0, .int x1] σ σ' := mc_of ok_X11_gives rfl (Nat.le_of_ble_eq_true rfl) (t_X11_gives hw hN)
abbrev mu_X11_can : MD := (yX11_can, cX11_can, 4, some .boolean, 37)
theorem ok_X11_can : MOK mu_X11_can 3 := ⟨gw_1469, gw_171, (by decide +kernel : plainFor yX11_can = true), ⟨(by decide +kernel : yX11_can.cls ≠ "java/lang/invoke/MethodHandle"), (by decide +kernel : yX11_can.cls ≠ "java/lang/invoke/VarHandle"), (by decide +kernel : (parseMethodDescriptor yX11_can.desc).map (fun d => d.parameters.length) = some 3)⟩, Nat.le_of_ble_eq_true rfl⟩
noncomputable def j_X11_can_40 (σ3 : Mem) : Option (Bool × Mem) :=
  some (false, σ3)
noncomputable def f_X11_can (σ : Mem) (x0 : Int32) (x1 : Int32) (x2 : Int32) : Option (Bool × Mem) :=
  pF σ 306 0 0 (fun (σ1 : Mem) => (f_X11_isRegister σ1 x0).bind (fun (b2 : Bool) => (if b2 then (f_X11_isRegister σ1 x1).bind (fun (b4 : Bool) => if b4 then (f_X11_isRegister σ1 x2).bind (fun (b5 : Bool) => if b5 then bq (f_X11_isConsistent σ1) (fun (b6 : Bool) (σ7 : Mem) => if b6 then some (Sum.inr (true, σ7)) else some (Sum.inl σ7)) else some (Sum.inl σ1)) else some (Sum.inl σ1)) else some (Sum.inl σ1) : Option (Mem ⊕ (Bool × Mem))).bind (Sum.elim (fun (z3 : Mem) => j_X11_can_40 z3) some)))
theorem t_X11_can {w : Wd} (hw : WOK w) (hN : wn w = NT) {σ : Mem} {x0 : Int32} {x1 : Int32} {x2 : Int32} : JO w mu_X11_can vB σ [(0, .ref (adr w 306)), (1, .int x0), (2, .int x1), (3, .int x2)] [] 0 (f_X11_can σ x0 x1 x2) some := by
  unfold f_X11_can
  refine jo_aload_n (pc := 0) 0 rfl dX11_can_0 rfl ?_
  refine jo_iconst (pc := 1) dX11_can_1 (ic_i_0) ?_
  refine jo_putf (pc := 2) ok_11_0 okp_11_0 (ik_306 hw hN) gw_1293 dX11_can_2 (fun σ1 => ?_)
  refine jo_aload_n (pc := 5) 0 rfl dX11_can_5 rfl ?_
  refine jo_iload_n (pc := 6) 1 rfl dX11_can_6 rfl ?_
  refine jo_cV_Z_p (pc := 7) (μ' := mu_X11_isRegister) (fx := f_X11_isRegister σ1 x0) (As := [.int x0]) (c_X11_isRegister hw hN) (ok_X11_isRegister) (ltb rfl) (all3 gw_1470 gw_1472 gw_73) (ik_306 hw hN) (by decide) (q := (RX11, TX11, 39)) rfl rfl rfl rfl (Nat.le_of_ble_eq_true rfl) dX11_can_7 (fun b2 => ?_)
  refine jo_joinS (S := Mem) (fun (z3 : Mem) => z3) (fun (z3 : Mem) => []) (fun (z3 : Mem) => []) 40 ?_ (fun h40_3 => ?_)
  · intro σ3
    show JO w mu_X11_can vB σ3 [] [] 40 (j_X11_can_40 σ3) _
    unfold j_X11_can_40
    refine jo_iconst (pc := 40) dX11_can_40 (ic_i_0) ?_
    exact jo_breturn (pc := 41) (b := false) rfl rfl dX11_can_41
  · refine jo_ifz_eq (pc := 10) dX11_can_10 (tgt := 40) rfl ?_ ?_
    · refine jo_lv (lv' := []) [] rfl ?_
      exact jo_leaf (by rfl) (h40_3 σ1)
    · refine jo_aload_n (pc := 13) 0 rfl dX11_can_13 rfl ?_
      refine jo_iload_n (pc := 14) 2 rfl dX11_can_14 rfl ?_
      refine jo_cV_Z_p (pc := 15) (μ' := mu_X11_isRegister) (fx := f_X11_isRegister σ1 x1) (As := [.int x1]) (c_X11_isRegister hw hN) (ok_X11_isRegister) (ltb rfl) (all3 gw_1470 gw_1472 gw_73) (ik_306 hw hN) (by decide) (q := (RX11, TX11, 39)) rfl rfl rfl rfl (Nat.le_of_ble_eq_true rfl) dX11_can_15 (fun b4 => ?_)
      refine jo_ifz_eq (pc := 18) dX11_can_18 (tgt := 40) rfl ?_ ?_
      · refine jo_lv (lv' := []) [] rfl ?_
        exact jo_leaf (by rfl) (h40_3 σ1)
      · refine jo_aload_n (pc := 21) 0 rfl dX11_can_21 rfl ?_
        refine jo_iload_n (pc := 22) 3 rfl dX11_can_22 rfl ?_
        refine jo_cV_Z_p (pc := 23) (μ' := mu_X11_isRegister) (fx := f_X11_isRegister σ1 x2) (As := [.int x2]) (c_X11_isRegister hw hN) (ok_X11_isRegister) (ltb rfl) (all3 gw_1470 gw_1472 gw_73) (ik_306 hw hN) (by decide) (q := (RX11, TX11, 39)) rfl rfl rfl rfl (Nat.le_of_ble_eq_true rfl) dX11_can_23 (fun b5 => ?_)
        refine jo_ifz_eq (pc := 26) dX11_can_26 (tgt := 40) rfl ?_ ?_
        · refine jo_lv (lv' := []) [] rfl ?_
          exact jo_leaf (by rfl) (h40_3 σ1)
        · refine jo_aload_n (pc := 29) 0 rfl dX11_can_29 rfl ?_
          refine jo_cV_Z_i (pc := 30) (μ' := mu_X11_isConsistent) (fx := f_X11_isConsistent σ1) (As := []) (c_X11_isConsistent hw hN) (ok_X11_isConsistent) (ltb rfl) (all3 gw_1475 gw_1477 gw_74) (ik_306 hw hN) (by decide) (q := (RX11, TX11, 39)) rfl rfl rfl rfl (Nat.le_of_ble_eq_true rfl) dX11_can_30 (fun b6 σ7 => ?_)
          refine jo_ifz_eq (pc := 33) dX11_can_33 (tgt := 40) rfl ?_ ?_
          · refine jo_lv (lv' := []) [] rfl ?_
            exact jo_leaf (by rfl) (h40_3 σ7)
          · refine jo_iconst (pc := 36) dX11_can_36 (ic_i_1) ?_
            refine jo_goto (pc := 37) dX11_can_37 (tgt := 41) rfl ?_
            exact jo_breturn (pc := 41) (b := true) rfl rfl dX11_can_41
theorem c_X11_can {w : Wd} (hw : WOK w) (hN : wn w = NT) {σ : Mem} {x0 : Int32} {x1 : Int32} {x2 : Int32} : ∀ r σ', f_X11_can σ x0 x1 x2 = some (r, σ') → MC w mu_X11_can (vB r) [.ref (adr w 306), .int x0, .int x1, .int x2] σ σ' := mc_of ok_X11_can rfl (Nat.le_of_ble_eq_true rfl) (t_X11_can hw hN)
abbrev mu_X11_set : MD := (yX11_set, cX11_set, 4, some .boolean, 38)
theorem ok_X11_set : MOK mu_X11_set 3 := ⟨gw_1465, gw_171, (by decide +kernel : plainFor yX11_set = true), ⟨(by decide +kernel : yX11_set.cls ≠ "java/lang/invoke/MethodHandle"), (by decide +kernel : yX11_set.cls ≠ "java/lang/invoke/VarHandle"), (by decide +kernel : (parseMethodDescriptor yX11_set.desc).map (fun d => d.parameters.length) = some 3)⟩, Nat.le_of_ble_eq_true rfl⟩
noncomputable def f_X11_set (σ : Mem) (x0 : Int32) (x1 : Int32) (x2 : Int32) : Option (Bool × Mem) :=
  bq (f_X11_can σ x0 0 0) (fun (b1 : Bool) (σ2 : Mem) => if b1 then (f_X11_n σ2).bind (fun (v3 : Int32) => (f_X11_isIn σ2 (Int32.toInt64 x1) 1 (Int32.toInt64 v3)).bind (fun (b4 : Bool) => if b4 then (f_X11_isIn σ2 (Int32.toInt64 x2) (-999) 999).bind (fun (b5 : Bool) => if b5 then (f_X11_laysRegister σ2 0 x0).bind (fun (σ6 : Mem) => (f_X11_puts σ6 0 (x1 - 1) (Int32.toInt64 x2)).bind (fun (σ7 : Mem) => bq (f_X11_gives σ7 x0 0) (fun (b8 : Bool) (σ9 : Mem) => some (b8, σ9)))) else some (false, σ2)) else some (false, σ2))) else some (false, σ2))
theorem t_X11_set {w : Wd} (hw : WOK w) (hN : wn w = NT) {σ : Mem} {x0 : Int32} {x1 : Int32} {x2 : Int32} : JO w mu_X11_set vB σ [(0, .ref (adr w 306)), (1, .int x0), (2, .int x1), (3, .int x2)] [] 0 (f_X11_set σ x0 x1 x2) some := by
  unfold f_X11_set
  refine jo_aload_n (pc := 0) 0 rfl dX11_set_0 rfl ?_
  refine jo_iload_n (pc := 1) 1 rfl dX11_set_1 rfl ?_
  refine jo_iconst (pc := 2) dX11_set_2 (ic_i_0) ?_
  refine jo_iconst (pc := 3) dX11_set_3 (ic_i_0) ?_
  refine jo_cV_Z_i (pc := 4) (μ' := mu_X11_can) (fx := f_X11_can σ x0 0 0) (As := [.int x0, .int 0, .int 0]) (c_X11_can hw hN) (ok_X11_can) (ltb rfl) (all3 gw_1466 gw_1468 gw_72) (ik_306 hw hN) (by decide) (q := (RX11, TX11, 39)) rfl rfl rfl rfl (Nat.le_of_ble_eq_true rfl) dX11_set_4 (fun b1 σ2 => ?_)
  refine jo_ifz_eq (pc := 7) dX11_set_7 (tgt := 40) rfl ?_ ?_
  · refine jo_iconst (pc := 40) dX11_set_40 (ic_i_0) ?_
    exact jo_breturn (pc := 41) (b := false) rfl rfl dX11_set_41
  · refine jo_aload_n (pc := 10) 0 rfl dX11_set_10 rfl ?_
    refine jo_iload_n (pc := 11) 2 rfl dX11_set_11 rfl ?_
    refine jo_i2l (pc := 12) dX11_set_12 ?_
    refine jo_lconst (pc := 13) dX11_set_13 (ic_l_1) ?_
    refine jo_aload_n (pc := 14) 0 rfl dX11_set_14 rfl ?_
    refine jo_cV_I_p (pc := 15) (μ' := mu_X11_n) (fx := f_X11_n σ2) (As := []) (c_X11_n hw hN) (ok_X11_n) (ltb rfl) (all3 gw_1441 gw_1443 gw_68) (ik_306 hw hN) (by decide) (q := (RX11, TX11, 39)) rfl rfl rfl rfl (Nat.le_of_ble_eq_true rfl) dX11_set_15 (fun v3 => ?_)
    refine jo_i2l (pc := 18) dX11_set_18 ?_
    refine jo_cV_Z_p (pc := 19) (μ' := mu_X11_isIn) (fx := f_X11_isIn σ2 (Int32.toInt64 x1) 1 (Int32.toInt64 v3)) (As := [.long (Int32.toInt64 x1), .long 1, .long (Int32.toInt64 v3)]) (c_X11_isIn hw hN) (ok_X11_isIn) (ltb rfl) (all3 gw_1420 gw_1422 gw_64) (ik_306 hw hN) (by decide) (q := (RX11, TX11, 39)) rfl rfl rfl rfl (Nat.le_of_ble_eq_true rfl) dX11_set_19 (fun b4 => ?_)
    refine jo_ifz_eq (pc := 22) dX11_set_22 (tgt := 40) rfl ?_ ?_
    · refine jo_iconst (pc := 40) dX11_set_40 (ic_i_0) ?_
      exact jo_breturn (pc := 41) (b := false) rfl rfl dX11_set_41
    · refine jo_aload_n (pc := 25) 0 rfl dX11_set_25 rfl ?_
      refine jo_iload_n (pc := 26) 3 rfl dX11_set_26 rfl ?_
      refine jo_i2l (pc := 27) dX11_set_27 ?_
      refine jo_ldc2 (pc := 28) dX11_set_28 gw_1557 ?_
      refine jo_ldc2 (pc := 31) dX11_set_31 gw_1558 ?_
      refine jo_cV_Z_p (pc := 34) (μ' := mu_X11_isIn) (fx := f_X11_isIn σ2 (Int32.toInt64 x2) (-999) 999) (As := [.long (Int32.toInt64 x2), .long (-999), .long 999]) (c_X11_isIn hw hN) (ok_X11_isIn) (ltb rfl) (all3 gw_1420 gw_1422 gw_64) (ik_306 hw hN) (by decide) (q := (RX11, TX11, 39)) rfl rfl rfl rfl (Nat.le_of_ble_eq_true rfl) dX11_set_34 (fun b5 => ?_)
      refine jo_ifz_ne (pc := 37) dX11_set_37 (tgt := 42) rfl ?_ ?_
      · refine jo_aload_n (pc := 42) 0 rfl dX11_set_42 rfl ?_
        refine jo_iconst (pc := 43) dX11_set_43 (ic_i_0) ?_
        refine jo_iload_n (pc := 44) 1 rfl dX11_set_44 rfl ?_
        refine jo_cV_V_i (pc := 45) (μ' := mu_X11_laysRegister) (fx := f_X11_laysRegister σ2 0 x0) (As := [.int 0, .int x0]) (c_X11_laysRegister hw hN) (ok_X11_laysRegister) (ltb rfl) (all3 gw_1559 gw_1561 gw_94) (ik_306 hw hN) (by decide) (q := (RX11, TX11, 39)) rfl rfl rfl rfl (Nat.le_of_ble_eq_true rfl) dX11_set_45 (fun σ6 => ?_)
        refine jo_aload_n (pc := 48) 0 rfl dX11_set_48 rfl ?_
        refine jo_iconst (pc := 49) dX11_set_49 (ic_i_0) ?_
        refine jo_iload_n (pc := 50) 2 rfl dX11_set_50 rfl ?_
        refine jo_iconst (pc := 51) dX11_set_51 (ic_i_1) ?_
        refine jo_isub (pc := 52) dX11_set_52 ?_
        refine jo_iload_n (pc := 53) 3 rfl dX11_set_53 rfl ?_
        refine jo_i2l (pc := 54) dX11_set_54 ?_
        refine jo_cV_V_i (pc := 55) (μ' := mu_X11_puts) (fx := f_X11_puts σ6 0 (x1 - 1) (Int32.toInt64 x2)) (As := [.int 0, .int (x1 - 1), .long (Int32.toInt64 x2)]) (c_X11_puts hw hN) (ok_X11_puts) (ltb rfl) (all3 gw_1519 gw_1521 gw_85) (ik_306 hw hN) (by decide) (q := (RX11, TX11, 39)) rfl rfl rfl rfl (Nat.le_of_ble_eq_true rfl) dX11_set_55 (fun σ7 => ?_)
        refine jo_aload_n (pc := 58) 0 rfl dX11_set_58 rfl ?_
        refine jo_iload_n (pc := 59) 1 rfl dX11_set_59 rfl ?_
        refine jo_iconst (pc := 60) dX11_set_60 (ic_i_0) ?_
        refine jo_cV_Z_i (pc := 61) (μ' := mu_X11_gives) (fx := f_X11_gives σ7 x0 0) (As := [.int x0, .int 0]) (c_X11_gives hw hN) (ok_X11_gives) (ltb rfl) (all3 gw_1567 gw_1569 gw_96) (ik_306 hw hN) (by decide) (q := (RX11, TX11, 39)) rfl rfl rfl rfl (Nat.le_of_ble_eq_true rfl) dX11_set_61 (fun b8 σ9 => ?_)
        exact jo_breturn (pc := 64) (b := b8) rfl rfl dX11_set_64
      · refine jo_iconst (pc := 40) dX11_set_40 (ic_i_0) ?_
        exact jo_breturn (pc := 41) (b := false) rfl rfl dX11_set_41
theorem c_X11_set {w : Wd} (hw : WOK w) (hN : wn w = NT) {σ : Mem} {x0 : Int32} {x1 : Int32} {x2 : Int32} : ∀ r σ', f_X11_set σ x0 x1 x2 = some (r, σ') → MC w mu_X11_set (vB r) [.ref (adr w 306), .int x0, .int x1, .int x2] σ σ' := mc_of ok_X11_set rfl (Nat.le_of_ble_eq_true rfl) (t_X11_set hw hN)
abbrev mu_X11_multiply : MD := (yX11_multiply, cX11_multiply, 4, some .boolean, 38)
theorem ok_X11_multiply : MOK mu_X11_multiply 3 := ⟨gw_1578, gw_171, (by decide +kernel : plainFor yX11_multiply = true), ⟨(by decide +kernel : yX11_multiply.cls ≠ "java/lang/invoke/MethodHandle"), (by decide +kernel : yX11_multiply.cls ≠ "java/lang/invoke/VarHandle"), (by decide +kernel : (parseMethodDescriptor yX11_multiply.desc).map (fun d => d.parameters.length) = some 3)⟩, Nat.le_of_ble_eq_true rfl⟩
noncomputable def f_X11_multiply (σ : Mem) (x0 : Int32) (x1 : Int32) (x2 : Int32) : Option (Bool × Mem) :=
  bq (f_X11_can σ x0 x1 x2) (fun (b1 : Bool) (σ2 : Mem) => if b1 then (f_X11_laysRegister σ2 0 x1).bind (fun (σ3 : Mem) => (f_X11_laysRegister σ3 1 x2).bind (fun (σ4 : Mem) => (f_X11_times σ4 0 1).bind (fun (σ5 : Mem) => bq (f_X11_gives σ5 x0 0) (fun (b6 : Bool) (σ7 : Mem) => some (b6, σ7))))) else some (false, σ2))
theorem t_X11_multiply {w : Wd} (hw : WOK w) (hN : wn w = NT) {σ : Mem} {x0 : Int32} {x1 : Int32} {x2 : Int32} : JO w mu_X11_multiply vB σ [(0, .ref (adr w 306)), (1, .int x0), (2, .int x1), (3, .int x2)] [] 0 (f_X11_multiply σ x0 x1 x2) some := by
  unfold f_X11_multiply
  refine jo_aload_n (pc := 0) 0 rfl dX11_multiply_0 rfl ?_
  refine jo_iload_n (pc := 1) 1 rfl dX11_multiply_1 rfl ?_
  refine jo_iload_n (pc := 2) 2 rfl dX11_multiply_2 rfl ?_
  refine jo_iload_n (pc := 3) 3 rfl dX11_multiply_3 rfl ?_
  refine jo_cV_Z_i (pc := 4) (μ' := mu_X11_can) (fx := f_X11_can σ x0 x1 x2) (As := [.int x0, .int x1, .int x2]) (c_X11_can hw hN) (ok_X11_can) (ltb rfl) (all3 gw_1466 gw_1468 gw_72) (ik_306 hw hN) (by decide) (q := (RX11, TX11, 39)) rfl rfl rfl rfl (Nat.le_of_ble_eq_true rfl) dX11_multiply_4 (fun b1 σ2 => ?_)
  refine jo_ifz_ne (pc := 7) dX11_multiply_7 (tgt := 12) rfl ?_ ?_
  · refine jo_aload_n (pc := 12) 0 rfl dX11_multiply_12 rfl ?_
    refine jo_iconst (pc := 13) dX11_multiply_13 (ic_i_0) ?_
    refine jo_iload_n (pc := 14) 2 rfl dX11_multiply_14 rfl ?_
    refine jo_cV_V_i (pc := 15) (μ' := mu_X11_laysRegister) (fx := f_X11_laysRegister σ2 0 x1) (As := [.int 0, .int x1]) (c_X11_laysRegister hw hN) (ok_X11_laysRegister) (ltb rfl) (all3 gw_1559 gw_1561 gw_94) (ik_306 hw hN) (by decide) (q := (RX11, TX11, 39)) rfl rfl rfl rfl (Nat.le_of_ble_eq_true rfl) dX11_multiply_15 (fun σ3 => ?_)
    refine jo_aload_n (pc := 18) 0 rfl dX11_multiply_18 rfl ?_
    refine jo_iconst (pc := 19) dX11_multiply_19 (ic_i_1) ?_
    refine jo_iload_n (pc := 20) 3 rfl dX11_multiply_20 rfl ?_
    refine jo_cV_V_i (pc := 21) (μ' := mu_X11_laysRegister) (fx := f_X11_laysRegister σ3 1 x2) (As := [.int 1, .int x2]) (c_X11_laysRegister hw hN) (ok_X11_laysRegister) (ltb rfl) (all3 gw_1559 gw_1561 gw_94) (ik_306 hw hN) (by decide) (q := (RX11, TX11, 39)) rfl rfl rfl rfl (Nat.le_of_ble_eq_true rfl) dX11_multiply_21 (fun σ4 => ?_)
    refine jo_aload_n (pc := 24) 0 rfl dX11_multiply_24 rfl ?_
    refine jo_iconst (pc := 25) dX11_multiply_25 (ic_i_0) ?_
    refine jo_iconst (pc := 26) dX11_multiply_26 (ic_i_1) ?_
    refine jo_cV_V_i (pc := 27) (μ' := mu_X11_times) (fx := f_X11_times σ4 0 1) (As := [.int 0, .int 1]) (c_X11_times hw hN) (ok_X11_times) (ltb rfl) (all3 gw_1523 gw_1525 gw_86) (ik_306 hw hN) (by decide) (q := (RX11, TX11, 39)) rfl rfl rfl rfl (Nat.le_of_ble_eq_true rfl) dX11_multiply_27 (fun σ5 => ?_)
    refine jo_aload_n (pc := 30) 0 rfl dX11_multiply_30 rfl ?_
    refine jo_iload_n (pc := 31) 1 rfl dX11_multiply_31 rfl ?_
    refine jo_iconst (pc := 32) dX11_multiply_32 (ic_i_0) ?_
    refine jo_cV_Z_i (pc := 33) (μ' := mu_X11_gives) (fx := f_X11_gives σ5 x0 0) (As := [.int x0, .int 0]) (c_X11_gives hw hN) (ok_X11_gives) (ltb rfl) (all3 gw_1567 gw_1569 gw_96) (ik_306 hw hN) (by decide) (q := (RX11, TX11, 39)) rfl rfl rfl rfl (Nat.le_of_ble_eq_true rfl) dX11_multiply_33 (fun b6 σ7 => ?_)
    exact jo_breturn (pc := 36) (b := b6) rfl rfl dX11_multiply_36
  · refine jo_iconst (pc := 10) dX11_multiply_10 (ic_i_0) ?_
    exact jo_breturn (pc := 11) (b := false) rfl rfl dX11_multiply_11
theorem c_X11_multiply {w : Wd} (hw : WOK w) (hN : wn w = NT) {σ : Mem} {x0 : Int32} {x1 : Int32} {x2 : Int32} : ∀ r σ', f_X11_multiply σ x0 x1 x2 = some (r, σ') → MC w mu_X11_multiply (vB r) [.ref (adr w 306), .int x0, .int x1, .int x2] σ σ' := mc_of ok_X11_multiply rfl (Nat.le_of_ble_eq_true rfl) (t_X11_multiply hw hN)
abbrev mu_X11_invert : MD := (yX11_invert, cX11_invert, 3, some .boolean, 38)
theorem ok_X11_invert : MOK mu_X11_invert 2 := ⟨gw_1582, gw_171, (by decide +kernel : plainFor yX11_invert = true), ⟨(by decide +kernel : yX11_invert.cls ≠ "java/lang/invoke/MethodHandle"), (by decide +kernel : yX11_invert.cls ≠ "java/lang/invoke/VarHandle"), (by decide +kernel : (parseMethodDescriptor yX11_invert.desc).map (fun d => d.parameters.length) = some 2)⟩, Nat.le_of_ble_eq_true rfl⟩
noncomputable def f_X11_invert (σ : Mem) (x0 : Int32) (x1 : Int32) : Option (Bool × Mem) :=
  bq (f_X11_can σ x0 x1 x1) (fun (b1 : Bool) (σ2 : Mem) => if b1 then (f_X11_laysRegister σ2 0 x1).bind (fun (σ3 : Mem) => (f_X11_inverse σ3 0 1).bind (fun (σ4 : Mem) => bq (f_X11_gives σ4 x0 1) (fun (b5 : Bool) (σ6 : Mem) => some (b5, σ6)))) else some (false, σ2))
theorem t_X11_invert {w : Wd} (hw : WOK w) (hN : wn w = NT) {σ : Mem} {x0 : Int32} {x1 : Int32} : JO w mu_X11_invert vB σ [(0, .ref (adr w 306)), (1, .int x0), (2, .int x1)] [] 0 (f_X11_invert σ x0 x1) some := by
  unfold f_X11_invert
  refine jo_aload_n (pc := 0) 0 rfl dX11_invert_0 rfl ?_
  refine jo_iload_n (pc := 1) 1 rfl dX11_invert_1 rfl ?_
  refine jo_iload_n (pc := 2) 2 rfl dX11_invert_2 rfl ?_
  refine jo_iload_n (pc := 3) 2 rfl dX11_invert_3 rfl ?_
  refine jo_cV_Z_i (pc := 4) (μ' := mu_X11_can) (fx := f_X11_can σ x0 x1 x1) (As := [.int x0, .int x1, .int x1]) (c_X11_can hw hN) (ok_X11_can) (ltb rfl) (all3 gw_1466 gw_1468 gw_72) (ik_306 hw hN) (by decide) (q := (RX11, TX11, 39)) rfl rfl rfl rfl (Nat.le_of_ble_eq_true rfl) dX11_invert_4 (fun b1 σ2 => ?_)
  refine jo_ifz_ne (pc := 7) dX11_invert_7 (tgt := 12) rfl ?_ ?_
  · refine jo_aload_n (pc := 12) 0 rfl dX11_invert_12 rfl ?_
    refine jo_iconst (pc := 13) dX11_invert_13 (ic_i_0) ?_
    refine jo_iload_n (pc := 14) 2 rfl dX11_invert_14 rfl ?_
    refine jo_cV_V_i (pc := 15) (μ' := mu_X11_laysRegister) (fx := f_X11_laysRegister σ2 0 x1) (As := [.int 0, .int x1]) (c_X11_laysRegister hw hN) (ok_X11_laysRegister) (ltb rfl) (all3 gw_1559 gw_1561 gw_94) (ik_306 hw hN) (by decide) (q := (RX11, TX11, 39)) rfl rfl rfl rfl (Nat.le_of_ble_eq_true rfl) dX11_invert_15 (fun σ3 => ?_)
    refine jo_aload_n (pc := 18) 0 rfl dX11_invert_18 rfl ?_
    refine jo_iconst (pc := 19) dX11_invert_19 (ic_i_0) ?_
    refine jo_iconst (pc := 20) dX11_invert_20 (ic_i_1) ?_
    refine jo_cV_V_i (pc := 21) (μ' := mu_X11_inverse) (fx := f_X11_inverse σ3 0 1) (As := [.int 0, .int 1]) (c_X11_inverse hw hN) (ok_X11_inverse) (ltb rfl) (all3 gw_1583 gw_1585 gw_98) (ik_306 hw hN) (by decide) (q := (RX11, TX11, 39)) rfl rfl rfl rfl (Nat.le_of_ble_eq_true rfl) dX11_invert_21 (fun σ4 => ?_)
    refine jo_aload_n (pc := 24) 0 rfl dX11_invert_24 rfl ?_
    refine jo_iload_n (pc := 25) 1 rfl dX11_invert_25 rfl ?_
    refine jo_iconst (pc := 26) dX11_invert_26 (ic_i_1) ?_
    refine jo_cV_Z_i (pc := 27) (μ' := mu_X11_gives) (fx := f_X11_gives σ4 x0 1) (As := [.int x0, .int 1]) (c_X11_gives hw hN) (ok_X11_gives) (ltb rfl) (all3 gw_1567 gw_1569 gw_96) (ik_306 hw hN) (by decide) (q := (RX11, TX11, 39)) rfl rfl rfl rfl (Nat.le_of_ble_eq_true rfl) dX11_invert_27 (fun b5 σ6 => ?_)
    exact jo_breturn (pc := 30) (b := b5) rfl rfl dX11_invert_30
  · refine jo_iconst (pc := 10) dX11_invert_10 (ic_i_0) ?_
    exact jo_breturn (pc := 11) (b := false) rfl rfl dX11_invert_11
theorem c_X11_invert {w : Wd} (hw : WOK w) (hN : wn w = NT) {σ : Mem} {x0 : Int32} {x1 : Int32} : ∀ r σ', f_X11_invert σ x0 x1 = some (r, σ') → MC w mu_X11_invert (vB r) [.ref (adr w 306), .int x0, .int x1] σ σ' := mc_of ok_X11_invert rfl (Nat.le_of_ble_eq_true rfl) (t_X11_invert hw hN)
abbrev mu_X11_power : MD := (yX11_power, cX11_power, 4, some .boolean, 38)
theorem ok_X11_power : MOK mu_X11_power 3 := ⟨gw_1598, gw_171, (by decide +kernel : plainFor yX11_power = true), ⟨(by decide +kernel : yX11_power.cls ≠ "java/lang/invoke/MethodHandle"), (by decide +kernel : yX11_power.cls ≠ "java/lang/invoke/VarHandle"), (by decide +kernel : (parseMethodDescriptor yX11_power.desc).map (fun d => d.parameters.length) = some 3)⟩, Nat.le_of_ble_eq_true rfl⟩
noncomputable def f_X11_power (σ : Mem) (x0 : Int32) (x1 : Int32) (x2 : Int32) : Option (Bool × Mem) :=
  bq (f_X11_can σ x0 x1 x1) (fun (b1 : Bool) (σ2 : Mem) => if b1 then (f_X11_isIn σ2 (Int32.toInt64 x2) (-99) 99).bind (fun (b3 : Bool) => if b3 then (f_X11_laysRegister σ2 0 x1).bind (fun (σ4 : Mem) => (f_X11_raises σ4 0 1 x2).bind (fun (σ5 : Mem) => bq (f_X11_gives σ5 x0 1) (fun (b6 : Bool) (σ7 : Mem) => some (b6, σ7)))) else some (false, σ2)) else some (false, σ2))
theorem t_X11_power {w : Wd} (hw : WOK w) (hN : wn w = NT) {σ : Mem} {x0 : Int32} {x1 : Int32} {x2 : Int32} : JO w mu_X11_power vB σ [(0, .ref (adr w 306)), (1, .int x0), (2, .int x1), (3, .int x2)] [] 0 (f_X11_power σ x0 x1 x2) some := by
  unfold f_X11_power
  refine jo_aload_n (pc := 0) 0 rfl dX11_power_0 rfl ?_
  refine jo_iload_n (pc := 1) 1 rfl dX11_power_1 rfl ?_
  refine jo_iload_n (pc := 2) 2 rfl dX11_power_2 rfl ?_
  refine jo_iload_n (pc := 3) 2 rfl dX11_power_3 rfl ?_
  refine jo_cV_Z_i (pc := 4) (μ' := mu_X11_can) (fx := f_X11_can σ x0 x1 x1) (As := [.int x0, .int x1, .int x1]) (c_X11_can hw hN) (ok_X11_can) (ltb rfl) (all3 gw_1466 gw_1468 gw_72) (ik_306 hw hN) (by decide) (q := (RX11, TX11, 39)) rfl rfl rfl rfl (Nat.le_of_ble_eq_true rfl) dX11_power_4 (fun b1 σ2 => ?_)
  refine jo_ifz_eq (pc := 7) dX11_power_7 (tgt := 25) rfl ?_ ?_
  · refine jo_iconst (pc := 25) dX11_power_25 (ic_i_0) ?_
    exact jo_breturn (pc := 26) (b := false) rfl rfl dX11_power_26
  · refine jo_aload_n (pc := 10) 0 rfl dX11_power_10 rfl ?_
    refine jo_iload_n (pc := 11) 3 rfl dX11_power_11 rfl ?_
    refine jo_i2l (pc := 12) dX11_power_12 ?_
    refine jo_ldc2 (pc := 13) dX11_power_13 gw_1599 ?_
    refine jo_ldc2 (pc := 16) dX11_power_16 gw_1600 ?_
    refine jo_cV_Z_p (pc := 19) (μ' := mu_X11_isIn) (fx := f_X11_isIn σ2 (Int32.toInt64 x2) (-99) 99) (As := [.long (Int32.toInt64 x2), .long (-99), .long 99]) (c_X11_isIn hw hN) (ok_X11_isIn) (ltb rfl) (all3 gw_1420 gw_1422 gw_64) (ik_306 hw hN) (by decide) (q := (RX11, TX11, 39)) rfl rfl rfl rfl (Nat.le_of_ble_eq_true rfl) dX11_power_19 (fun b3 => ?_)
    refine jo_ifz_ne (pc := 22) dX11_power_22 (tgt := 27) rfl ?_ ?_
    · refine jo_aload_n (pc := 27) 0 rfl dX11_power_27 rfl ?_
      refine jo_iconst (pc := 28) dX11_power_28 (ic_i_0) ?_
      refine jo_iload_n (pc := 29) 2 rfl dX11_power_29 rfl ?_
      refine jo_cV_V_i (pc := 30) (μ' := mu_X11_laysRegister) (fx := f_X11_laysRegister σ2 0 x1) (As := [.int 0, .int x1]) (c_X11_laysRegister hw hN) (ok_X11_laysRegister) (ltb rfl) (all3 gw_1559 gw_1561 gw_94) (ik_306 hw hN) (by decide) (q := (RX11, TX11, 39)) rfl rfl rfl rfl (Nat.le_of_ble_eq_true rfl) dX11_power_30 (fun σ4 => ?_)
      refine jo_aload_n (pc := 33) 0 rfl dX11_power_33 rfl ?_
      refine jo_iconst (pc := 34) dX11_power_34 (ic_i_0) ?_
      refine jo_iconst (pc := 35) dX11_power_35 (ic_i_1) ?_
      refine jo_iload_n (pc := 36) 3 rfl dX11_power_36 rfl ?_
      refine jo_cV_V_i (pc := 37) (μ' := mu_X11_raises) (fx := f_X11_raises σ4 0 1 x2) (As := [.int 0, .int 1, .int x2]) (c_X11_raises hw hN) (ok_X11_raises) (ltb rfl) (all3 gw_1601 gw_1603 gw_101) (ik_306 hw hN) (by decide) (q := (RX11, TX11, 39)) rfl rfl rfl rfl (Nat.le_of_ble_eq_true rfl) dX11_power_37 (fun σ5 => ?_)
      refine jo_aload_n (pc := 40) 0 rfl dX11_power_40 rfl ?_
      refine jo_iload_n (pc := 41) 1 rfl dX11_power_41 rfl ?_
      refine jo_iconst (pc := 42) dX11_power_42 (ic_i_1) ?_
      refine jo_cV_Z_i (pc := 43) (μ' := mu_X11_gives) (fx := f_X11_gives σ5 x0 1) (As := [.int x0, .int 1]) (c_X11_gives hw hN) (ok_X11_gives) (ltb rfl) (all3 gw_1567 gw_1569 gw_96) (ik_306 hw hN) (by decide) (q := (RX11, TX11, 39)) rfl rfl rfl rfl (Nat.le_of_ble_eq_true rfl) dX11_power_43 (fun b6 σ7 => ?_)
      exact jo_breturn (pc := 46) (b := b6) rfl rfl dX11_power_46
    · refine jo_iconst (pc := 25) dX11_power_25 (ic_i_0) ?_
      exact jo_breturn (pc := 26) (b := false) rfl rfl dX11_power_26
theorem c_X11_power {w : Wd} (hw : WOK w) (hN : wn w = NT) {σ : Mem} {x0 : Int32} {x1 : Int32} {x2 : Int32} : ∀ r σ', f_X11_power σ x0 x1 x2 = some (r, σ') → MC w mu_X11_power (vB r) [.ref (adr w 306), .int x0, .int x1, .int x2] σ σ' := mc_of ok_X11_power rfl (Nat.le_of_ble_eq_true rfl) (t_X11_power hw hN)
abbrev mu_X11_commute : MD := (yX11_commute, cX11_commute, 4, some .boolean, 38)
theorem ok_X11_commute : MOK mu_X11_commute 3 := ⟨gw_1608, gw_171, (by decide +kernel : plainFor yX11_commute = true), ⟨(by decide +kernel : yX11_commute.cls ≠ "java/lang/invoke/MethodHandle"), (by decide +kernel : yX11_commute.cls ≠ "java/lang/invoke/VarHandle"), (by decide +kernel : (parseMethodDescriptor yX11_commute.desc).map (fun d => d.parameters.length) = some 3)⟩, Nat.le_of_ble_eq_true rfl⟩
noncomputable def f_X11_commute (σ : Mem) (x0 : Int32) (x1 : Int32) (x2 : Int32) : Option (Bool × Mem) :=
  bq (f_X11_can σ x0 x1 x2) (fun (b1 : Bool) (σ2 : Mem) => if b1 then (f_X11_laysRegister σ2 0 x1).bind (fun (σ3 : Mem) => (f_X11_laysRegister σ3 1 x2).bind (fun (σ4 : Mem) => (f_X11_commutator σ4 0 1 2).bind (fun (σ5 : Mem) => bq (f_X11_gives σ5 x0 2) (fun (b6 : Bool) (σ7 : Mem) => some (b6, σ7))))) else some (false, σ2))
theorem t_X11_commute {w : Wd} (hw : WOK w) (hN : wn w = NT) {σ : Mem} {x0 : Int32} {x1 : Int32} {x2 : Int32} : JO w mu_X11_commute vB σ [(0, .ref (adr w 306)), (1, .int x0), (2, .int x1), (3, .int x2)] [] 0 (f_X11_commute σ x0 x1 x2) some := by
  unfold f_X11_commute
  refine jo_aload_n (pc := 0) 0 rfl dX11_commute_0 rfl ?_
  refine jo_iload_n (pc := 1) 1 rfl dX11_commute_1 rfl ?_
  refine jo_iload_n (pc := 2) 2 rfl dX11_commute_2 rfl ?_
  refine jo_iload_n (pc := 3) 3 rfl dX11_commute_3 rfl ?_
  refine jo_cV_Z_i (pc := 4) (μ' := mu_X11_can) (fx := f_X11_can σ x0 x1 x2) (As := [.int x0, .int x1, .int x2]) (c_X11_can hw hN) (ok_X11_can) (ltb rfl) (all3 gw_1466 gw_1468 gw_72) (ik_306 hw hN) (by decide) (q := (RX11, TX11, 39)) rfl rfl rfl rfl (Nat.le_of_ble_eq_true rfl) dX11_commute_4 (fun b1 σ2 => ?_)
  refine jo_ifz_ne (pc := 7) dX11_commute_7 (tgt := 12) rfl ?_ ?_
  · refine jo_aload_n (pc := 12) 0 rfl dX11_commute_12 rfl ?_
    refine jo_iconst (pc := 13) dX11_commute_13 (ic_i_0) ?_
    refine jo_iload_n (pc := 14) 2 rfl dX11_commute_14 rfl ?_
    refine jo_cV_V_i (pc := 15) (μ' := mu_X11_laysRegister) (fx := f_X11_laysRegister σ2 0 x1) (As := [.int 0, .int x1]) (c_X11_laysRegister hw hN) (ok_X11_laysRegister) (ltb rfl) (all3 gw_1559 gw_1561 gw_94) (ik_306 hw hN) (by decide) (q := (RX11, TX11, 39)) rfl rfl rfl rfl (Nat.le_of_ble_eq_true rfl) dX11_commute_15 (fun σ3 => ?_)
    refine jo_aload_n (pc := 18) 0 rfl dX11_commute_18 rfl ?_
    refine jo_iconst (pc := 19) dX11_commute_19 (ic_i_1) ?_
    refine jo_iload_n (pc := 20) 3 rfl dX11_commute_20 rfl ?_
    refine jo_cV_V_i (pc := 21) (μ' := mu_X11_laysRegister) (fx := f_X11_laysRegister σ3 1 x2) (As := [.int 1, .int x2]) (c_X11_laysRegister hw hN) (ok_X11_laysRegister) (ltb rfl) (all3 gw_1559 gw_1561 gw_94) (ik_306 hw hN) (by decide) (q := (RX11, TX11, 39)) rfl rfl rfl rfl (Nat.le_of_ble_eq_true rfl) dX11_commute_21 (fun σ4 => ?_)
    refine jo_aload_n (pc := 24) 0 rfl dX11_commute_24 rfl ?_
    refine jo_iconst (pc := 25) dX11_commute_25 (ic_i_0) ?_
    refine jo_iconst (pc := 26) dX11_commute_26 (ic_i_1) ?_
    refine jo_iconst (pc := 27) dX11_commute_27 (ic_i_2) ?_
    refine jo_cV_V_i (pc := 28) (μ' := mu_X11_commutator) (fx := f_X11_commutator σ4 0 1 2) (As := [.int 0, .int 1, .int 2]) (c_X11_commutator hw hN) (ok_X11_commutator) (ltb rfl) (all3 gw_1609 gw_1611 gw_102) (ik_306 hw hN) (by decide) (q := (RX11, TX11, 39)) rfl rfl rfl rfl (Nat.le_of_ble_eq_true rfl) dX11_commute_28 (fun σ5 => ?_)
    refine jo_aload_n (pc := 31) 0 rfl dX11_commute_31 rfl ?_
    refine jo_iload_n (pc := 32) 1 rfl dX11_commute_32 rfl ?_
    refine jo_iconst (pc := 33) dX11_commute_33 (ic_i_2) ?_
    refine jo_cV_Z_i (pc := 34) (μ' := mu_X11_gives) (fx := f_X11_gives σ5 x0 2) (As := [.int x0, .int 2]) (c_X11_gives hw hN) (ok_X11_gives) (ltb rfl) (all3 gw_1567 gw_1569 gw_96) (ik_306 hw hN) (by decide) (q := (RX11, TX11, 39)) rfl rfl rfl rfl (Nat.le_of_ble_eq_true rfl) dX11_commute_34 (fun b6 σ7 => ?_)
    exact jo_breturn (pc := 37) (b := b6) rfl rfl dX11_commute_37
  · refine jo_iconst (pc := 10) dX11_commute_10 (ic_i_0) ?_
    exact jo_breturn (pc := 11) (b := false) rfl rfl dX11_commute_11
theorem c_X11_commute {w : Wd} (hw : WOK w) (hN : wn w = NT) {σ : Mem} {x0 : Int32} {x1 : Int32} {x2 : Int32} : ∀ r σ', f_X11_commute σ x0 x1 x2 = some (r, σ') → MC w mu_X11_commute (vB r) [.ref (adr w 306), .int x0, .int x1, .int x2] σ σ' := mc_of ok_X11_commute rfl (Nat.le_of_ble_eq_true rfl) (t_X11_commute hw hN)
abbrev mu_X11_conjugate : MD := (yX11_conjugate, cX11_conjugate, 4, some .boolean, 38)
theorem ok_X11_conjugate : MOK mu_X11_conjugate 3 := ⟨gw_1616, gw_171, (by decide +kernel : plainFor yX11_conjugate = true), ⟨(by decide +kernel : yX11_conjugate.cls ≠ "java/lang/invoke/MethodHandle"), (by decide +kernel : yX11_conjugate.cls ≠ "java/lang/invoke/VarHandle"), (by decide +kernel : (parseMethodDescriptor yX11_conjugate.desc).map (fun d => d.parameters.length) = some 3)⟩, Nat.le_of_ble_eq_true rfl⟩
noncomputable def f_X11_conjugate (σ : Mem) (x0 : Int32) (x1 : Int32) (x2 : Int32) : Option (Bool × Mem) :=
  bq (f_X11_can σ x0 x1 x2) (fun (b1 : Bool) (σ2 : Mem) => if b1 then (f_X11_laysRegister σ2 0 x1).bind (fun (σ3 : Mem) => (f_X11_laysRegister σ3 1 x2).bind (fun (σ4 : Mem) => (f_X11_conjugates σ4 0 1 2).bind (fun (σ5 : Mem) => bq (f_X11_gives σ5 x0 2) (fun (b6 : Bool) (σ7 : Mem) => some (b6, σ7))))) else some (false, σ2))
theorem t_X11_conjugate {w : Wd} (hw : WOK w) (hN : wn w = NT) {σ : Mem} {x0 : Int32} {x1 : Int32} {x2 : Int32} : JO w mu_X11_conjugate vB σ [(0, .ref (adr w 306)), (1, .int x0), (2, .int x1), (3, .int x2)] [] 0 (f_X11_conjugate σ x0 x1 x2) some := by
  unfold f_X11_conjugate
  refine jo_aload_n (pc := 0) 0 rfl dX11_conjugate_0 rfl ?_
  refine jo_iload_n (pc := 1) 1 rfl dX11_conjugate_1 rfl ?_
  refine jo_iload_n (pc := 2) 2 rfl dX11_conjugate_2 rfl ?_
  refine jo_iload_n (pc := 3) 3 rfl dX11_conjugate_3 rfl ?_
  refine jo_cV_Z_i (pc := 4) (μ' := mu_X11_can) (fx := f_X11_can σ x0 x1 x2) (As := [.int x0, .int x1, .int x2]) (c_X11_can hw hN) (ok_X11_can) (ltb rfl) (all3 gw_1466 gw_1468 gw_72) (ik_306 hw hN) (by decide) (q := (RX11, TX11, 39)) rfl rfl rfl rfl (Nat.le_of_ble_eq_true rfl) dX11_conjugate_4 (fun b1 σ2 => ?_)
  refine jo_ifz_ne (pc := 7) dX11_conjugate_7 (tgt := 12) rfl ?_ ?_
  · refine jo_aload_n (pc := 12) 0 rfl dX11_conjugate_12 rfl ?_
    refine jo_iconst (pc := 13) dX11_conjugate_13 (ic_i_0) ?_
    refine jo_iload_n (pc := 14) 2 rfl dX11_conjugate_14 rfl ?_
    refine jo_cV_V_i (pc := 15) (μ' := mu_X11_laysRegister) (fx := f_X11_laysRegister σ2 0 x1) (As := [.int 0, .int x1]) (c_X11_laysRegister hw hN) (ok_X11_laysRegister) (ltb rfl) (all3 gw_1559 gw_1561 gw_94) (ik_306 hw hN) (by decide) (q := (RX11, TX11, 39)) rfl rfl rfl rfl (Nat.le_of_ble_eq_true rfl) dX11_conjugate_15 (fun σ3 => ?_)
    refine jo_aload_n (pc := 18) 0 rfl dX11_conjugate_18 rfl ?_
    refine jo_iconst (pc := 19) dX11_conjugate_19 (ic_i_1) ?_
    refine jo_iload_n (pc := 20) 3 rfl dX11_conjugate_20 rfl ?_
    refine jo_cV_V_i (pc := 21) (μ' := mu_X11_laysRegister) (fx := f_X11_laysRegister σ3 1 x2) (As := [.int 1, .int x2]) (c_X11_laysRegister hw hN) (ok_X11_laysRegister) (ltb rfl) (all3 gw_1559 gw_1561 gw_94) (ik_306 hw hN) (by decide) (q := (RX11, TX11, 39)) rfl rfl rfl rfl (Nat.le_of_ble_eq_true rfl) dX11_conjugate_21 (fun σ4 => ?_)
    refine jo_aload_n (pc := 24) 0 rfl dX11_conjugate_24 rfl ?_
    refine jo_iconst (pc := 25) dX11_conjugate_25 (ic_i_0) ?_
    refine jo_iconst (pc := 26) dX11_conjugate_26 (ic_i_1) ?_
    refine jo_iconst (pc := 27) dX11_conjugate_27 (ic_i_2) ?_
    refine jo_cV_V_i (pc := 28) (μ' := mu_X11_conjugates) (fx := f_X11_conjugates σ4 0 1 2) (As := [.int 0, .int 1, .int 2]) (c_X11_conjugates hw hN) (ok_X11_conjugates) (ltb rfl) (all3 gw_1617 gw_1619 gw_103) (ik_306 hw hN) (by decide) (q := (RX11, TX11, 39)) rfl rfl rfl rfl (Nat.le_of_ble_eq_true rfl) dX11_conjugate_28 (fun σ5 => ?_)
    refine jo_aload_n (pc := 31) 0 rfl dX11_conjugate_31 rfl ?_
    refine jo_iload_n (pc := 32) 1 rfl dX11_conjugate_32 rfl ?_
    refine jo_iconst (pc := 33) dX11_conjugate_33 (ic_i_2) ?_
    refine jo_cV_Z_i (pc := 34) (μ' := mu_X11_gives) (fx := f_X11_gives σ5 x0 2) (As := [.int x0, .int 2]) (c_X11_gives hw hN) (ok_X11_gives) (ltb rfl) (all3 gw_1567 gw_1569 gw_96) (ik_306 hw hN) (by decide) (q := (RX11, TX11, 39)) rfl rfl rfl rfl (Nat.le_of_ble_eq_true rfl) dX11_conjugate_34 (fun b6 σ7 => ?_)
    exact jo_breturn (pc := 37) (b := b6) rfl rfl dX11_conjugate_37
  · refine jo_iconst (pc := 10) dX11_conjugate_10 (ic_i_0) ?_
    exact jo_breturn (pc := 11) (b := false) rfl rfl dX11_conjugate_11
theorem c_X11_conjugate {w : Wd} (hw : WOK w) (hN : wn w = NT) {σ : Mem} {x0 : Int32} {x1 : Int32} {x2 : Int32} : ∀ r σ', f_X11_conjugate σ x0 x1 x2 = some (r, σ') → MC w mu_X11_conjugate (vB r) [.ref (adr w 306), .int x0, .int x1, .int x2] σ σ' := mc_of ok_X11_conjugate rfl (Nat.le_of_ble_eq_true rfl) (t_X11_conjugate hw hN)
abbrev mu_X11_extracts : MD := (yX11_extracts, cX11_extracts, 7, some .boolean, 6)
theorem ok_X11_extracts : MOK mu_X11_extracts 3 := ⟨gw_1628, gw_171, (by decide +kernel : plainFor yX11_extracts = true), ⟨(by decide +kernel : yX11_extracts.cls ≠ "java/lang/invoke/MethodHandle"), (by decide +kernel : yX11_extracts.cls ≠ "java/lang/invoke/VarHandle"), (by decide +kernel : (parseMethodDescriptor yX11_extracts.desc).map (fun d => d.parameters.length) = some 3)⟩, Nat.le_of_ble_eq_true rfl⟩
noncomputable def l_X11_extracts_8 (x0 : Int32) (x1 : Int32) (x2 : Int32) (σ2 : Mem) (i3 : Int32) : Option ((Mem × Int32) ⊕ (Bool × Mem)) :=
  (f_X11_n σ2).bind (fun (v4 : Int32) => if v4 ≤ i3 then (some (Sum.inr (true, σ2))) else ((f_X11_raises σ2 x1 (x1 + 1) x2).bind (fun (σ5 : Mem) => (f_X11_of σ5 x0 i3).bind (fun (v6 : Int64) => (f_X11_of σ5 (x1 + 1) i3).bind (fun (v7 : Int64) => bd (v6 - v7) (fun (v8 : Int64) => nzL (Int32.toInt64 x2) (if (v8 - v8 / (Int32.toInt64 x2) * (Int32.toInt64 x2)) = 0 then (nzL (Int32.toInt64 x2) ((f_X11_puts σ5 x1 i3 (v8 / (Int32.toInt64 x2))).bind (fun (σ9 : Mem) => some (Sum.inl (σ9, i3 + 1))))) else (some (Sum.inr (false, σ5))))))))))
noncomputable def f_X11_extracts (σ : Mem) (x0 : Int32) (x1 : Int32) (x2 : Int32) : Option (Bool × Mem) :=
  (f_X11_ones σ x1).bind (fun (σ1 : Mem) => loopO (fun (z3 : (Mem × Int32)) => l_X11_extracts_8 x0 x1 x2 z3.1 z3.2) (σ1, 0))
theorem t_X11_extracts {w : Wd} (hw : WOK w) (hN : wn w = NT) {σ : Mem} {x0 : Int32} {x1 : Int32} {x2 : Int32} : JO w mu_X11_extracts vB σ [(0, .ref (adr w 306)), (1, .int x0), (2, .int x1), (3, .int x2)] [] 0 (f_X11_extracts σ x0 x1 x2) some := by
  unfold f_X11_extracts
  refine jo_aload_n (pc := 0) 0 rfl dX11_extracts_0 rfl ?_
  refine jo_iload_n (pc := 1) 2 rfl dX11_extracts_1 rfl ?_
  refine jo_cV_V_i (pc := 2) (μ' := mu_X11_ones) (fx := f_X11_ones σ x1) (As := [.int x1]) (c_X11_ones hw hN) (ok_X11_ones) (ltb rfl) (all3 gw_1587 gw_1589 gw_99) (ik_306 hw hN) (by decide) (q := (RX11, TX11, 39)) rfl rfl rfl rfl (Nat.le_of_ble_eq_true rfl) dX11_extracts_2 (fun σ1 => ?_)
  refine jo_iconst (pc := 5) dX11_extracts_5 (ic_i_0) ?_
  refine jo_istore (pc := 6) (lv' := [(4, .int 0), (0, .ref (adr w 306)), (1, .int x0), (2, .int x1), (3, .int x2)]) dX11_extracts_6 (ltb rfl) rfl ?_
  refine jo_lv (lv' := [(0, .ref (adr w 306)), (1, .int x0), (2, .int x1), (3, .int x2), (4, .int 0)]) [1, 2, 3, 4, 0] rfl ?_
  refine jo_loop (X := (Bool × Mem)) (fun (z3 : (Mem × Int32)) => z3.1) (fun (z3 : (Mem × Int32)) => [(0, .ref (adr w 306)), (1, .int x0), (2, .int x1), (3, .int x2), (4, .int z3.2)]) (body := (fun (z3 : (Mem × Int32)) => l_X11_extracts_8 x0 x1 x2 z3.1 z3.2)) (fun F8_3 hF8_3 s => ?_) (σ1, 0)
  obtain ⟨σ2, i3⟩ := s
  show JO w mu_X11_extracts vB σ2 [(0, .ref (adr w 306)), (1, .int x0), (2, .int x1), (3, .int x2), (4, .int i3)] [] 8 (l_X11_extracts_8 x0 x1 x2 σ2 i3) _
  unfold l_X11_extracts_8
  refine jo_iload (pc := 8) 4 rfl dX11_extracts_8 ?_
  refine jo_aload_n (pc := 10) 0 rfl dX11_extracts_10 rfl ?_
  refine jo_cV_I_p (pc := 11) (μ' := mu_X11_n) (fx := f_X11_n σ2) (As := []) (c_X11_n hw hN) (ok_X11_n) (ltb rfl) (all3 gw_1441 gw_1443 gw_68) (ik_306 hw hN) (by decide) (q := (RX11, TX11, 39)) rfl rfl rfl rfl (Nat.le_of_ble_eq_true rfl) dX11_extracts_11 (fun v4 => ?_)
  refine jo_icmp_ge (pc := 14) dX11_extracts_14 (tgt := 75) rfl ?_ ?_
  · refine jo_iconst (pc := 75) dX11_extracts_75 (ic_i_1) ?_
    exact jo_breturn (pc := 76) (b := true) rfl rfl dX11_extracts_76
  · refine jo_aload_n (pc := 17) 0 rfl dX11_extracts_17 rfl ?_
    refine jo_iload_n (pc := 18) 2 rfl dX11_extracts_18 rfl ?_
    refine jo_iload_n (pc := 19) 2 rfl dX11_extracts_19 rfl ?_
    refine jo_iconst (pc := 20) dX11_extracts_20 (ic_i_1) ?_
    refine jo_iadd (pc := 21) dX11_extracts_21 ?_
    refine jo_iload_n (pc := 22) 3 rfl dX11_extracts_22 rfl ?_
    refine jo_cV_V_i (pc := 23) (μ' := mu_X11_raises) (fx := f_X11_raises σ2 x1 (x1 + 1) x2) (As := [.int x1, .int (x1 + 1), .int x2]) (c_X11_raises hw hN) (ok_X11_raises) (ltb rfl) (all3 gw_1601 gw_1603 gw_101) (ik_306 hw hN) (by decide) (q := (RX11, TX11, 39)) rfl rfl rfl rfl (Nat.le_of_ble_eq_true rfl) dX11_extracts_23 (fun σ5 => ?_)
    refine jo_aload_n (pc := 26) 0 rfl dX11_extracts_26 rfl ?_
    refine jo_iload_n (pc := 27) 1 rfl dX11_extracts_27 rfl ?_
    refine jo_iload (pc := 28) 4 rfl dX11_extracts_28 ?_
    refine jo_cV_J_p (pc := 30) (μ' := mu_X11_of) (fx := f_X11_of σ5 x0 i3) (As := [.int x0, .int i3]) (c_X11_of hw hN) (ok_X11_of) (ltb rfl) (all3 gw_1527 gw_1529 gw_87) (ik_306 hw hN) (by decide) (q := (RX11, TX11, 39)) rfl rfl rfl rfl (Nat.le_of_ble_eq_true rfl) dX11_extracts_30 (fun v6 => ?_)
    refine jo_aload_n (pc := 33) 0 rfl dX11_extracts_33 rfl ?_
    refine jo_iload_n (pc := 34) 2 rfl dX11_extracts_34 rfl ?_
    refine jo_iconst (pc := 35) dX11_extracts_35 (ic_i_1) ?_
    refine jo_iadd (pc := 36) dX11_extracts_36 ?_
    refine jo_iload (pc := 37) 4 rfl dX11_extracts_37 ?_
    refine jo_cV_J_p (pc := 39) (μ' := mu_X11_of) (fx := f_X11_of σ5 (x1 + 1) i3) (As := [.int (x1 + 1), .int i3]) (c_X11_of hw hN) (ok_X11_of) (ltb rfl) (all3 gw_1527 gw_1529 gw_87) (ik_306 hw hN) (by decide) (q := (RX11, TX11, 39)) rfl rfl rfl rfl (Nat.le_of_ble_eq_true rfl) dX11_extracts_39 (fun v7 => ?_)
    refine jo_lsub (pc := 42) dX11_extracts_42 ?_
    refine jo_bd ?_
    refine jo_lstore (pc := 43) (lv' := [(5, .long (v6 - v7)), (0, .ref (adr w 306)), (1, .int x0), (2, .int x1), (3, .int x2), (4, .int i3)]) dX11_extracts_43 (ltb rfl) rfl ?_
    generalize (v6 - v7) = v8
    refine jo_lload (pc := 45) 0 rfl dX11_extracts_45 ?_
    refine jo_iload_n (pc := 47) 4 rfl dX11_extracts_47 rfl ?_
    refine jo_i2l (pc := 48) dX11_extracts_48 ?_
    refine jo_lrem (pc := 49) dX11_extracts_49 ?_
    refine jo_lconst (pc := 50) dX11_extracts_50 (ic_l_0) ?_
    refine jo_lcmp_eq (pc := 51) dX11_extracts_51 dX11_extracts_52 (tgt := 57) rfl ?_ ?_
    · refine jo_aload_n (pc := 57) 1 rfl dX11_extracts_57 rfl ?_
      refine jo_iload_n (pc := 58) 3 rfl dX11_extracts_58 rfl ?_
      refine jo_iload (pc := 59) 5 rfl dX11_extracts_59 ?_
      refine jo_lload (pc := 61) 0 rfl dX11_extracts_61 ?_
      refine jo_iload_n (pc := 63) 4 rfl dX11_extracts_63 rfl ?_
      refine jo_i2l (pc := 64) dX11_extracts_64 ?_
      refine jo_ldiv (pc := 65) dX11_extracts_65 ?_
      refine jo_cV_V_i (pc := 66) (μ' := mu_X11_puts) (fx := f_X11_puts σ5 x1 i3 (v8 / (Int32.toInt64 x2))) (As := [.int x1, .int i3, .long (v8 / (Int32.toInt64 x2))]) (c_X11_puts hw hN) (ok_X11_puts) (ltb rfl) (all3 gw_1519 gw_1521 gw_85) (ik_306 hw hN) (by decide) (q := (RX11, TX11, 39)) rfl rfl rfl rfl (Nat.le_of_ble_eq_true rfl) dX11_extracts_66 (fun σ9 => ?_)
      refine jo_iinc (pc := 69) (lv' := [(4, .int (i3 + 1)), (5, .long v8), (0, .ref (adr w 306)), (1, .int x0), (2, .int x1), (3, .int x2)]) 5 rfl dX11_extracts_69 (congrArg (fun z => i3 + z) (ic_i_1)) (ltb rfl) rfl ?_
      refine jo_goto (pc := 72) dX11_extracts_72 (tgt := 8) rfl ?_
      refine jo_lv (lv' := [(0, .ref (adr w 306)), (1, .int x0), (2, .int x1), (3, .int x2), (4, .int (i3 + 1))]) [2, 3, 4, 5, 0] rfl ?_
      exact jo_leaf (by rfl) (hF8_3 (σ9, i3 + 1))
    · refine jo_iconst (pc := 55) dX11_extracts_55 (ic_i_0) ?_
      exact jo_breturn (pc := 56) (b := false) rfl rfl dX11_extracts_56
theorem c_X11_extracts {w : Wd} (hw : WOK w) (hN : wn w = NT) {σ : Mem} {x0 : Int32} {x1 : Int32} {x2 : Int32} : ∀ r σ', f_X11_extracts σ x0 x1 x2 = some (r, σ') → MC w mu_X11_extracts (vB r) [.ref (adr w 306), .int x0, .int x1, .int x2] σ σ' := mc_of ok_X11_extracts rfl (Nat.le_of_ble_eq_true rfl) (t_X11_extracts hw hN)
abbrev mu_X11_root : MD := (yX11_root, cX11_root, 4, some .boolean, 38)
theorem ok_X11_root : MOK mu_X11_root 3 := ⟨gw_1624, gw_171, (by decide +kernel : plainFor yX11_root = true), ⟨(by decide +kernel : yX11_root.cls ≠ "java/lang/invoke/MethodHandle"), (by decide +kernel : yX11_root.cls ≠ "java/lang/invoke/VarHandle"), (by decide +kernel : (parseMethodDescriptor yX11_root.desc).map (fun d => d.parameters.length) = some 3)⟩, Nat.le_of_ble_eq_true rfl⟩
noncomputable def j_X11_root_62 (σ7 : Mem) : Option (Bool × Mem) :=
  some (false, σ7)
noncomputable def f_X11_root (σ : Mem) (x0 : Int32) (x1 : Int32) (x2 : Int32) : Option (Bool × Mem) :=
  bq (f_X11_can σ x0 x1 x1) (fun (b1 : Bool) (σ2 : Mem) => if b1 then (f_X11_isIn σ2 (Int32.toInt64 x2) 1 99).bind (fun (b3 : Bool) => if b3 then (f_X11_laysRegister σ2 0 x1).bind (fun (σ4 : Mem) => bq (f_X11_extracts σ4 0 1 x2) (fun (b5 : Bool) (σ6 : Mem) => (if b5 then (f_X11_isElement σ6 1).bind (fun (b8 : Bool) => if b8 then bq (f_X11_gives σ6 x0 1) (fun (b9 : Bool) (σ10 : Mem) => if b9 then some (Sum.inr (true, σ10)) else some (Sum.inl σ10)) else some (Sum.inl σ6)) else some (Sum.inl σ6) : Option (Mem ⊕ (Bool × Mem))).bind (Sum.elim (fun (z7 : Mem) => j_X11_root_62 z7) some))) else some (false, σ2)) else some (false, σ2))
theorem t_X11_root {w : Wd} (hw : WOK w) (hN : wn w = NT) {σ : Mem} {x0 : Int32} {x1 : Int32} {x2 : Int32} : JO w mu_X11_root vB σ [(0, .ref (adr w 306)), (1, .int x0), (2, .int x1), (3, .int x2)] [] 0 (f_X11_root σ x0 x1 x2) some := by
  unfold f_X11_root
  refine jo_aload_n (pc := 0) 0 rfl dX11_root_0 rfl ?_
  refine jo_iload_n (pc := 1) 1 rfl dX11_root_1 rfl ?_
  refine jo_iload_n (pc := 2) 2 rfl dX11_root_2 rfl ?_
  refine jo_iload_n (pc := 3) 2 rfl dX11_root_3 rfl ?_
  refine jo_cV_Z_i (pc := 4) (μ' := mu_X11_can) (fx := f_X11_can σ x0 x1 x1) (As := [.int x0, .int x1, .int x1]) (c_X11_can hw hN) (ok_X11_can) (ltb rfl) (all3 gw_1466 gw_1468 gw_72) (ik_306 hw hN) (by decide) (q := (RX11, TX11, 39)) rfl rfl rfl rfl (Nat.le_of_ble_eq_true rfl) dX11_root_4 (fun b1 σ2 => ?_)
  refine jo_ifz_eq (pc := 7) dX11_root_7 (tgt := 23) rfl ?_ ?_
  · refine jo_iconst (pc := 23) dX11_root_23 (ic_i_0) ?_
    exact jo_breturn (pc := 24) (b := false) rfl rfl dX11_root_24
  · refine jo_aload_n (pc := 10) 0 rfl dX11_root_10 rfl ?_
    refine jo_iload_n (pc := 11) 3 rfl dX11_root_11 rfl ?_
    refine jo_i2l (pc := 12) dX11_root_12 ?_
    refine jo_lconst (pc := 13) dX11_root_13 (ic_l_1) ?_
    refine jo_ldc2 (pc := 14) dX11_root_14 gw_1600 ?_
    refine jo_cV_Z_p (pc := 17) (μ' := mu_X11_isIn) (fx := f_X11_isIn σ2 (Int32.toInt64 x2) 1 99) (As := [.long (Int32.toInt64 x2), .long 1, .long 99]) (c_X11_isIn hw hN) (ok_X11_isIn) (ltb rfl) (all3 gw_1420 gw_1422 gw_64) (ik_306 hw hN) (by decide) (q := (RX11, TX11, 39)) rfl rfl rfl rfl (Nat.le_of_ble_eq_true rfl) dX11_root_17 (fun b3 => ?_)
    refine jo_ifz_ne (pc := 20) dX11_root_20 (tgt := 25) rfl ?_ ?_
    · refine jo_aload_n (pc := 25) 0 rfl dX11_root_25 rfl ?_
      refine jo_iconst (pc := 26) dX11_root_26 (ic_i_0) ?_
      refine jo_iload_n (pc := 27) 2 rfl dX11_root_27 rfl ?_
      refine jo_cV_V_i (pc := 28) (μ' := mu_X11_laysRegister) (fx := f_X11_laysRegister σ2 0 x1) (As := [.int 0, .int x1]) (c_X11_laysRegister hw hN) (ok_X11_laysRegister) (ltb rfl) (all3 gw_1559 gw_1561 gw_94) (ik_306 hw hN) (by decide) (q := (RX11, TX11, 39)) rfl rfl rfl rfl (Nat.le_of_ble_eq_true rfl) dX11_root_28 (fun σ4 => ?_)
      refine jo_aload_n (pc := 31) 0 rfl dX11_root_31 rfl ?_
      refine jo_iconst (pc := 32) dX11_root_32 (ic_i_0) ?_
      refine jo_iconst (pc := 33) dX11_root_33 (ic_i_1) ?_
      refine jo_iload_n (pc := 34) 3 rfl dX11_root_34 rfl ?_
      refine jo_cV_Z_i (pc := 35) (μ' := mu_X11_extracts) (fx := f_X11_extracts σ4 0 1 x2) (As := [.int 0, .int 1, .int x2]) (c_X11_extracts hw hN) (ok_X11_extracts) (ltb rfl) (all3 gw_1625 gw_1627 gw_104) (ik_306 hw hN) (by decide) (q := (RX11, TX11, 39)) rfl rfl rfl rfl (Nat.le_of_ble_eq_true rfl) dX11_root_35 (fun b5 σ6 => ?_)
      refine jo_joinS (S := Mem) (fun (z7 : Mem) => z7) (fun (z7 : Mem) => []) (fun (z7 : Mem) => []) 62 ?_ (fun h62_7 => ?_)
      · intro σ7
        show JO w mu_X11_root vB σ7 [] [] 62 (j_X11_root_62 σ7) _
        unfold j_X11_root_62
        refine jo_iconst (pc := 62) dX11_root_62 (ic_i_0) ?_
        exact jo_breturn (pc := 63) (b := false) rfl rfl dX11_root_63
      · refine jo_ifz_eq (pc := 38) dX11_root_38 (tgt := 62) rfl ?_ ?_
        · refine jo_lv (lv' := []) [] rfl ?_
          exact jo_leaf (by rfl) (h62_7 σ6)
        · refine jo_aload_n (pc := 41) 0 rfl dX11_root_41 rfl ?_
          refine jo_iconst (pc := 42) dX11_root_42 (ic_i_1) ?_
          refine jo_cV_Z_p (pc := 43) (μ' := mu_X11_isElement) (fx := f_X11_isElement σ6 1) (As := [.int 1]) (c_X11_isElement hw hN) (ok_X11_isElement) (ltb rfl) (all3 gw_1571 gw_1573 gw_97) (ik_306 hw hN) (by decide) (q := (RX11, TX11, 39)) rfl rfl rfl rfl (Nat.le_of_ble_eq_true rfl) dX11_root_43 (fun b8 => ?_)
          refine jo_ifz_eq (pc := 46) dX11_root_46 (tgt := 62) rfl ?_ ?_
          · refine jo_lv (lv' := []) [] rfl ?_
            exact jo_leaf (by rfl) (h62_7 σ6)
          · refine jo_aload_n (pc := 49) 0 rfl dX11_root_49 rfl ?_
            refine jo_iload_n (pc := 50) 1 rfl dX11_root_50 rfl ?_
            refine jo_iconst (pc := 51) dX11_root_51 (ic_i_1) ?_
            refine jo_cV_Z_i (pc := 52) (μ' := mu_X11_gives) (fx := f_X11_gives σ6 x0 1) (As := [.int x0, .int 1]) (c_X11_gives hw hN) (ok_X11_gives) (ltb rfl) (all3 gw_1567 gw_1569 gw_96) (ik_306 hw hN) (by decide) (q := (RX11, TX11, 39)) rfl rfl rfl rfl (Nat.le_of_ble_eq_true rfl) dX11_root_52 (fun b9 σ10 => ?_)
            refine jo_ifz_eq (pc := 55) dX11_root_55 (tgt := 62) rfl ?_ ?_
            · refine jo_lv (lv' := []) [] rfl ?_
              exact jo_leaf (by rfl) (h62_7 σ10)
            · refine jo_iconst (pc := 58) dX11_root_58 (ic_i_1) ?_
              refine jo_goto (pc := 59) dX11_root_59 (tgt := 63) rfl ?_
              exact jo_breturn (pc := 63) (b := true) rfl rfl dX11_root_63
    · refine jo_iconst (pc := 23) dX11_root_23 (ic_i_0) ?_
      exact jo_breturn (pc := 24) (b := false) rfl rfl dX11_root_24
theorem c_X11_root {w : Wd} (hw : WOK w) (hN : wn w = NT) {σ : Mem} {x0 : Int32} {x1 : Int32} {x2 : Int32} : ∀ r σ', f_X11_root σ x0 x1 x2 = some (r, σ') → MC w mu_X11_root (vB r) [.ref (adr w 306), .int x0, .int x1, .int x2] σ σ' := mc_of ok_X11_root rfl (Nat.le_of_ble_eq_true rfl) (t_X11_root hw hN)
abbrev mu_X11_seeks (d : Nat) : MD := (yX11_seeks, cX11_seeks, 4, some .boolean, 6 + d)
theorem ok_X11_seeks (d : Nat) : MOK (mu_X11_seeks d) 2 := ⟨gw_1636, gw_171, (by decide +kernel : plainFor yX11_seeks = true), ⟨(by decide +kernel : yX11_seeks.cls ≠ "java/lang/invoke/MethodHandle"), (by decide +kernel : yX11_seeks.cls ≠ "java/lang/invoke/VarHandle"), (by decide +kernel : (parseMethodDescriptor yX11_seeks.desc).map (fun d => d.parameters.length) = some 2)⟩, Nat.le_of_ble_eq_true rfl⟩
noncomputable def j_X11_seeks_20 (rec : Mem → Int32 → Int32 → Option (Bool × Mem)) (σ : Mem) : Option (Bool × Mem) :=
  (f_X11_conjugates σ 0 2 3).bind (fun (σ2 : Mem) => (f_X11_areSame σ2 3 1).bind (fun (b3 : Bool) => some (b3, σ2)))
noncomputable def j_X11_seeks_69 (rec : Mem → Int32 → Int32 → Option (Bool × Mem)) (x0 : Int32) (σ7 : Mem) : Option (Unit ⊕ (Bool × Mem)) :=
  (f_X11_puts σ7 2 x0 0).bind (fun (σ8 : Mem) => some (Sum.inr (false, σ8)))
noncomputable def l_X11_seeks_37 (rec : Mem → Int32 → Int32 → Option (Bool × Mem)) (x0 : Int32) (x1 : Int32) (σ9 : Mem) (i10 : Int32) : Option ((Mem × Int32) ⊕ (Mem ⊕ (Unit ⊕ (Bool × Mem)))) :=
  if x1 < i10 then (some (Sum.inr (Sum.inl σ9))) else ((f_X11_puts σ9 2 x0 (Int32.toInt64 i10)).bind (fun (σ11 : Mem) => bq (rec σ11 (x0 + 1) x1) (fun (b12 : Bool) (σ13 : Mem) => if b12 then some (Sum.inr (Sum.inr (Sum.inr (true, σ13)))) else some (Sum.inl (σ13, i10 + 1)))))
noncomputable def o_X11_seeks (rec : Mem → Int32 → Int32 → Option (Bool × Mem)) (σ : Mem) (x0 : Int32) (x1 : Int32) : Option (Bool × Mem) :=
  (f_X11_n σ).bind (fun (v1 : Int32) => (if x0 = v1 then (some (Sum.inl ())) else ((f_X11_weight σ x0).bind (fun (v4 : Int32) => (f_X11_level σ).bind (fun (v5 : Int32) => if v4 = v5 then (some (Sum.inl ())) else (bd (-x1) (fun (v6 : Int32) => (loopO (fun (z10 : (Mem × Int32)) => l_X11_seeks_37 rec x0 x1 z10.1 z10.2) (σ, v6) : Option (Mem ⊕ (Unit ⊕ (Bool × Mem)))).bind (Sum.elim (fun (z7 : Mem) => j_X11_seeks_69 rec x0 z7) some)))))) : Option (Unit ⊕ (Bool × Mem))).bind (Sum.elim (fun (z1 : Unit) => j_X11_seeks_20 rec σ) some))
theorem t_X11_seeks {w : Wd} (hw : WOK w) (hN : wn w = NT) {d : Nat} {rec : Mem → Int32 → Int32 → Option (Bool × Mem)} (hrec : ∀ {τ0 : Mem} {y0 : Int32} {y1 : Int32}, ∀ r τ, rec τ0 y0 y1 = some (r, τ) → MC w (mu_X11_seeks d) (vB r) [.ref (adr w 306), .int y0, .int y1] τ0 τ) {σ : Mem} {x0 : Int32} {x1 : Int32} : JO w (mu_X11_seeks (d + 1)) vB σ [(0, .ref (adr w 306)), (1, .int x0), (2, .int x1)] [] 0 (o_X11_seeks rec σ x0 x1) some := by
  unfold o_X11_seeks
  refine jo_iload_n (pc := 0) 1 rfl dX11_seeks_0 rfl ?_
  refine jo_aload_n (pc := 1) 0 rfl dX11_seeks_1 rfl ?_
  refine jo_cV_I_p (pc := 2) (μ' := mu_X11_n) (fx := f_X11_n σ) (As := []) (c_X11_n hw hN) (ok_X11_n) (by simp only [mu_X11_seeks, mu_X11_n]; omega) (all3 gw_1441 gw_1443 gw_68) (ik_306 hw hN) (by decide) (q := (RX11, TX11, 39)) rfl rfl rfl rfl (Nat.le_of_ble_eq_true rfl) dX11_seeks_2 (fun v1 => ?_)
  refine jo_joinS (S := Unit) (fun (z1 : Unit) => σ) (fun (z1 : Unit) => [(0, .ref (adr w 306))]) (fun (z1 : Unit) => []) 20 ?_ (fun h20_1 => ?_)
  · intro _
    show JO w (mu_X11_seeks (d + 1)) vB σ [(0, .ref (adr w 306))] [] 20 (j_X11_seeks_20 rec σ) _
    unfold j_X11_seeks_20
    refine jo_aload_n (pc := 20) 0 rfl dX11_seeks_20 rfl ?_
    refine jo_iconst (pc := 21) dX11_seeks_21 (ic_i_0) ?_
    refine jo_iconst (pc := 22) dX11_seeks_22 (ic_i_2) ?_
    refine jo_iconst (pc := 23) dX11_seeks_23 (ic_i_3) ?_
    refine jo_cV_V_i (pc := 24) (μ' := mu_X11_conjugates) (fx := f_X11_conjugates σ 0 2 3) (As := [.int 0, .int 2, .int 3]) (c_X11_conjugates hw hN) (ok_X11_conjugates) (by simp only [mu_X11_seeks, mu_X11_conjugates]; omega) (all3 gw_1617 gw_1619 gw_103) (ik_306 hw hN) (by decide) (q := (RX11, TX11, 39)) rfl rfl rfl rfl (Nat.le_of_ble_eq_true rfl) dX11_seeks_24 (fun σ2 => ?_)
    refine jo_aload_n (pc := 27) 0 rfl dX11_seeks_27 rfl ?_
    refine jo_iconst (pc := 28) dX11_seeks_28 (ic_i_3) ?_
    refine jo_iconst (pc := 29) dX11_seeks_29 (ic_i_1) ?_
    refine jo_cV_Z_p (pc := 30) (μ' := mu_X11_areSame) (fx := f_X11_areSame σ2 3 1) (As := [.int 3, .int 1]) (c_X11_areSame hw hN) (ok_X11_areSame) (by simp only [mu_X11_seeks, mu_X11_areSame]; omega) (all3 gw_1641 gw_1643 gw_107) (ik_306 hw hN) (by decide) (q := (RX11, TX11, 39)) rfl rfl rfl rfl (Nat.le_of_ble_eq_true rfl) dX11_seeks_30 (fun b3 => ?_)
    exact jo_breturn (pc := 33) (b := b3) rfl rfl dX11_seeks_33
  · refine jo_icmp_eq (pc := 5) dX11_seeks_5 (tgt := 20) rfl ?_ ?_
    · refine jo_lv (lv' := [(0, .ref (adr w 306))]) [0] rfl ?_
      exact jo_leaf (by rfl) (h20_1 ())
    · refine jo_aload_n (pc := 8) 0 rfl dX11_seeks_8 rfl ?_
      refine jo_iload_n (pc := 9) 1 rfl dX11_seeks_9 rfl ?_
      refine jo_cV_I_p (pc := 10) (μ' := mu_X11_weight) (fx := f_X11_weight σ x0) (As := [.int x0]) (c_X11_weight hw hN) (ok_X11_weight) (by simp only [mu_X11_seeks, mu_X11_weight]; omega) (all3 gw_1446 gw_1448 gw_69) (ik_306 hw hN) (by decide) (q := (RX11, TX11, 39)) rfl rfl rfl rfl (Nat.le_of_ble_eq_true rfl) dX11_seeks_10 (fun v4 => ?_)
      refine jo_aload_n (pc := 13) 0 rfl dX11_seeks_13 rfl ?_
      refine jo_cV_I_p (pc := 14) (μ' := mu_X11_level) (fx := f_X11_level σ) (As := []) (c_X11_level hw hN) (ok_X11_level) (by simp only [mu_X11_seeks, mu_X11_level]; omega) (all3 gw_1637 gw_1639 gw_106) (ik_306 hw hN) (by decide) (q := (RX11, TX11, 39)) rfl rfl rfl rfl (Nat.le_of_ble_eq_true rfl) dX11_seeks_14 (fun v5 => ?_)
      refine jo_icmp_ne (pc := 17) dX11_seeks_17 (tgt := 34) rfl ?_ ?_
      · refine jo_iload_n (pc := 34) 2 rfl dX11_seeks_34 rfl ?_
        refine jo_ineg (pc := 35) dX11_seeks_35 ?_
        refine jo_bd ?_
        refine jo_istore_n (pc := 36) (lv' := [(3, .int (-x1)), (0, .ref (adr w 306)), (1, .int x0), (2, .int x1)]) dX11_seeks_36 rfl (ltb rfl) rfl ?_
        generalize (-x1) = v6
        refine jo_joinS (S := Mem) (fun (z7 : Mem) => z7) (fun (z7 : Mem) => [(0, .ref (adr w 306)), (1, .int x0)]) (fun (z7 : Mem) => []) 69 ?_ (fun h69_7 => ?_)
        · intro σ7
          show JO w (mu_X11_seeks (d + 1)) vB σ7 [(0, .ref (adr w 306)), (1, .int x0)] [] 69 (j_X11_seeks_69 rec x0 σ7) _
          unfold j_X11_seeks_69
          refine jo_aload_n (pc := 69) 0 rfl dX11_seeks_69 rfl ?_
          refine jo_iconst (pc := 70) dX11_seeks_70 (ic_i_2) ?_
          refine jo_iload_n (pc := 71) 1 rfl dX11_seeks_71 rfl ?_
          refine jo_lconst (pc := 72) dX11_seeks_72 (ic_l_0) ?_
          refine jo_cV_V_i (pc := 73) (μ' := mu_X11_puts) (fx := f_X11_puts σ7 2 x0 0) (As := [.int 2, .int x0, .long 0]) (c_X11_puts hw hN) (ok_X11_puts) (by simp only [mu_X11_seeks, mu_X11_puts]; omega) (all3 gw_1519 gw_1521 gw_85) (ik_306 hw hN) (by decide) (q := (RX11, TX11, 39)) rfl rfl rfl rfl (Nat.le_of_ble_eq_true rfl) dX11_seeks_73 (fun σ8 => ?_)
          refine jo_iconst (pc := 76) dX11_seeks_76 (ic_i_0) ?_
          exact jo_breturn (pc := 77) (b := false) rfl rfl dX11_seeks_77
        · refine jo_lv (lv' := [(0, .ref (adr w 306)), (1, .int x0), (2, .int x1), (3, .int v6)]) [1, 2, 3, 0] rfl ?_
          refine jo_loop (X := Mem ⊕ (Unit ⊕ (Bool × Mem))) (fun (z10 : (Mem × Int32)) => z10.1) (fun (z10 : (Mem × Int32)) => [(0, .ref (adr w 306)), (1, .int x0), (2, .int x1), (3, .int z10.2)]) (body := (fun (z10 : (Mem × Int32)) => l_X11_seeks_37 rec x0 x1 z10.1 z10.2)) (fun F37_10 hF37_10 s => ?_) (σ, v6)
          obtain ⟨σ9, i10⟩ := s
          show JO w (mu_X11_seeks (d + 1)) vB σ9 [(0, .ref (adr w 306)), (1, .int x0), (2, .int x1), (3, .int i10)] [] 37 (l_X11_seeks_37 rec x0 x1 σ9 i10) _
          unfold l_X11_seeks_37
          refine jo_iload_n (pc := 37) 3 rfl dX11_seeks_37 rfl ?_
          refine jo_iload_n (pc := 38) 2 rfl dX11_seeks_38 rfl ?_
          refine jo_icmp_gt (pc := 39) dX11_seeks_39 (tgt := 69) rfl ?_ ?_
          · refine jo_lv (lv' := [(0, .ref (adr w 306)), (1, .int x0)]) [0, 1] rfl ?_
            exact jo_leaf (by rfl) (h69_7 σ9)
          · refine jo_aload_n (pc := 42) 0 rfl dX11_seeks_42 rfl ?_
            refine jo_iconst (pc := 43) dX11_seeks_43 (ic_i_2) ?_
            refine jo_iload_n (pc := 44) 1 rfl dX11_seeks_44 rfl ?_
            refine jo_iload_n (pc := 45) 3 rfl dX11_seeks_45 rfl ?_
            refine jo_i2l (pc := 46) dX11_seeks_46 ?_
            refine jo_cV_V_i (pc := 47) (μ' := mu_X11_puts) (fx := f_X11_puts σ9 2 x0 (Int32.toInt64 i10)) (As := [.int 2, .int x0, .long (Int32.toInt64 i10)]) (c_X11_puts hw hN) (ok_X11_puts) (by simp only [mu_X11_seeks, mu_X11_puts]; omega) (all3 gw_1519 gw_1521 gw_85) (ik_306 hw hN) (by decide) (q := (RX11, TX11, 39)) rfl rfl rfl rfl (Nat.le_of_ble_eq_true rfl) dX11_seeks_47 (fun σ11 => ?_)
            refine jo_aload_n (pc := 50) 0 rfl dX11_seeks_50 rfl ?_
            refine jo_iload_n (pc := 51) 1 rfl dX11_seeks_51 rfl ?_
            refine jo_iconst (pc := 52) dX11_seeks_52 (ic_i_1) ?_
            refine jo_iadd (pc := 53) dX11_seeks_53 ?_
            refine jo_iload_n (pc := 54) 2 rfl dX11_seeks_54 rfl ?_
            refine jo_cV_Z_i (pc := 55) (μ' := (mu_X11_seeks d)) (fx := rec σ11 (x0 + 1) x1) (As := [.int (x0 + 1), .int x1]) (hrec) (ok_X11_seeks _) (by simp only [mu_X11_seeks, mu_X11_seeks]; omega) (all3 gw_1633 gw_1635 gw_105) (ik_306 hw hN) (by decide) (q := (RX11, TX11, 39)) rfl rfl rfl rfl (Nat.le_of_ble_eq_true rfl) dX11_seeks_55 (fun b12 σ13 => ?_)
            refine jo_ifz_eq (pc := 58) dX11_seeks_58 (tgt := 63) rfl ?_ ?_
            · refine jo_iinc (pc := 63) (lv' := [(3, .int (i10 + 1)), (0, .ref (adr w 306)), (1, .int x0), (2, .int x1)]) 3 rfl dX11_seeks_63 (congrArg (fun z => i10 + z) (ic_i_1)) (ltb rfl) rfl ?_
              refine jo_goto (pc := 66) dX11_seeks_66 (tgt := 37) rfl ?_
              refine jo_lv (lv' := [(0, .ref (adr w 306)), (1, .int x0), (2, .int x1), (3, .int (i10 + 1))]) [1, 2, 3, 0] rfl ?_
              exact jo_leaf (by rfl) (hF37_10 (σ13, i10 + 1))
            · refine jo_iconst (pc := 61) dX11_seeks_61 (ic_i_1) ?_
              exact jo_breturn (pc := 62) (b := true) rfl rfl dX11_seeks_62
      · refine jo_lv (lv' := [(0, .ref (adr w 306))]) [0] rfl ?_
        exact jo_leaf (by rfl) (h20_1 ())
theorem co_X11_seeks {w : Wd} (hw : WOK w) (hN : wn w = NT) {d : Nat} {rec : Mem → Int32 → Int32 → Option (Bool × Mem)} (hrec : ∀ {τ0 : Mem} {y0 : Int32} {y1 : Int32}, ∀ r τ, rec τ0 y0 y1 = some (r, τ) → MC w (mu_X11_seeks d) (vB r) [.ref (adr w 306), .int y0, .int y1] τ0 τ) {σ : Mem} {x0 : Int32} {x1 : Int32} : ∀ r σ', o_X11_seeks rec σ x0 x1 = some (r, σ') → MC w (mu_X11_seeks (d + 1)) (vB r) [.ref (adr w 306), .int x0, .int x1] σ σ' := mc_of (ok_X11_seeks _) rfl (Nat.le_of_ble_eq_true rfl) (t_X11_seeks hw hN hrec)
noncomputable def f_X11_seeks : Nat → Mem → Int32 → Int32 → Option (Bool × Mem)
  | 0 => fun _ _ _ => none
  | n + 1 => fun σ x0 x1 => o_X11_seeks (f_X11_seeks n) σ x0 x1
theorem c_X11_seeks (n : Nat) {w : Wd} (hw : WOK w) (hN : wn w = NT) {σ : Mem} {x0 : Int32} {x1 : Int32} : ∀ r σ', f_X11_seeks n σ x0 x1 = some (r, σ') → MC w (mu_X11_seeks (1 * n)) (vB r) [.ref (adr w 306), .int x0, .int x1] σ σ' := by
  induction n generalizing σ x0 x1 with
  | zero => intro r σ' h; cases h
  | succ n ih => exact co_X11_seeks hw hN (rec := f_X11_seeks n) (d := 1 * n) ih
