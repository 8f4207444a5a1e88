abbrev mu_X3_swapWithSpare : MD := (yX3_swapWithSpare, cX3_swapWithSpare, 5, none, 0)
theorem ok_X3_swapWithSpare : MOK mu_X3_swapWithSpare 1 := ⟨gw_1155, gw_166, (by decide +kernel : plainFor yX3_swapWithSpare = true), ⟨(by decide +kernel : yX3_swapWithSpare.cls ≠ "java/lang/invoke/MethodHandle"), (by decide +kernel : yX3_swapWithSpare.cls ≠ "java/lang/invoke/VarHandle"), (by decide +kernel : (parseMethodDescriptor yX3_swapWithSpare.desc).map (fun d => d.parameters.length) = some 1)⟩, Nat.le_of_ble_eq_true rfl⟩
noncomputable def l_X3_swapWithSpare_2 (a : Nat) (x0 : Nat) (σ1 : Mem) (i2 : Int32) : Option ((Mem × Int32) ⊕ Mem) :=
  gF σ1 a 0 (fun (v3 : Int32) => if v3 ≤ i2 then (some (Sum.inr σ1)) else (gL σ1 x0 i2 (fun (v4 : Int64) => gL σ1 (rf a 2) i2 (fun (v5 : Int64) => pL σ1 x0 i2 v5 (fun (σ6 : Mem) => pL σ6 (rf a 2) i2 v4 (fun (σ7 : Mem) => some (Sum.inl (σ7, i2 + 1))))))))
noncomputable def f_X3_swapWithSpare (σ : Mem) (a : Nat) (x0 : Nat) : Option Mem :=
  loopO (fun (z2 : (Mem × Int32)) => l_X3_swapWithSpare_2 a x0 z2.1 z2.2) (σ, 0)
theorem t_X3_swapWithSpare {w : Wd} (hw : WOK w) {σ : Mem} {a : Nat} {x0 : Nat} (ha : isk w a 3) (hx0 : isk w x0 13) : JO w mu_X3_swapWithSpare vV σ [(0, .ref (adr w a)), (1, .ref (adr w x0))] [] 0 (f_X3_swapWithSpare σ a x0) (fun z => some ((), z)) := by
  unfold f_X3_swapWithSpare
  refine jo_iconst (pc := 0) dX3_swapWithSpare_0 (ic_i_0) ?_
  refine jo_istore_n (pc := 1) (lv' := [(2, .int 0), (0, .ref (adr w a)), (1, .ref (adr w x0))]) dX3_swapWithSpare_1 rfl (ltb rfl) rfl ?_
  refine jo_lv (lv' := [(0, .ref (adr w a)), (1, .ref (adr w x0)), (2, .int 0)]) [1, 2, 0] rfl ?_
  refine jo_loop (X := Mem) (fun (z2 : (Mem × Int32)) => z2.1) (fun (z2 : (Mem × Int32)) => [(0, .ref (adr w a)), (1, .ref (adr w x0)), (2, .int z2.2)]) (body := (fun (z2 : (Mem × Int32)) => l_X3_swapWithSpare_2 a x0 z2.1 z2.2)) (fun F2_2 hF2_2 s => ?_) (σ, 0)
  obtain ⟨σ1, i2⟩ := s
  show JO w mu_X3_swapWithSpare vV σ1 [(0, .ref (adr w a)), (1, .ref (adr w x0)), (2, .int i2)] [] 2 (l_X3_swapWithSpare_2 a x0 σ1 i2) _
  unfold l_X3_swapWithSpare_2
  refine jo_iload_n (pc := 2) 2 rfl dX3_swapWithSpare_2 rfl ?_
  refine jo_aload_n (pc := 3) 0 rfl dX3_swapWithSpare_3 rfl ?_
  refine jo_getf (pc := 4) ok_3_0 (ha) gw_378 dX3_swapWithSpare_4 (fun v3 => ?_)
  refine jo_icmp_ge (pc := 7) dX3_swapWithSpare_7 (tgt := 36) rfl ?_ ?_
  · exact jo_return (pc := 36) rfl rfl dX3_swapWithSpare_36
  · refine jo_aload_n (pc := 10) 1 rfl dX3_swapWithSpare_10 rfl ?_
    refine jo_iload_n (pc := 11) 2 rfl dX3_swapWithSpare_11 rfl ?_
    refine jo_lald (pc := 12) (hx0) dX3_swapWithSpare_12 (fun v4 => ?_)
    refine jo_lstore_n (pc := 13) (lv' := [(3, .long v4), (0, .ref (adr w a)), (1, .ref (adr w x0)), (2, .int i2)]) dX3_swapWithSpare_13 rfl (ltb rfl) rfl ?_
    refine jo_aload_n (pc := 14) 2 rfl dX3_swapWithSpare_14 rfl ?_
    refine jo_iload_n (pc := 15) 3 rfl dX3_swapWithSpare_15 rfl ?_
    refine jo_aload_n (pc := 16) 1 rfl dX3_swapWithSpare_16 rfl ?_
    refine jo_getr (pc := 17) ok_3_2 (ha) gw_381 dX3_swapWithSpare_17 ?_
    refine jo_iload_n (pc := 20) 3 rfl dX3_swapWithSpare_20 rfl ?_
    refine jo_lald (pc := 21) (wf_3_2 hw (ha)) dX3_swapWithSpare_21 (fun v5 => ?_)
    refine jo_last (pc := 22) (hx0) dX3_swapWithSpare_22 (fun σ6 => ?_)
    refine jo_aload_n (pc := 23) 1 rfl dX3_swapWithSpare_23 rfl ?_
    refine jo_getr (pc := 24) ok_3_2 (ha) gw_381 dX3_swapWithSpare_24 ?_
    refine jo_iload_n (pc := 27) 3 rfl dX3_swapWithSpare_27 rfl ?_
    refine jo_lload_n (pc := 28) 0 rfl dX3_swapWithSpare_28 rfl ?_
    refine jo_last (pc := 29) (wf_3_2 hw (ha)) dX3_swapWithSpare_29 (fun σ7 => ?_)
    refine jo_iinc (pc := 30) (lv' := [(2, .int (i2 + 1)), (3, .long v4), (0, .ref (adr w a)), (1, .ref (adr w x0))]) 3 rfl dX3_swapWithSpare_30 (congrArg (fun z => i2 + z) (ic_i_1)) (ltb rfl) rfl ?_
    refine jo_goto (pc := 33) dX3_swapWithSpare_33 (tgt := 2) rfl ?_
    refine jo_lv (lv' := [(0, .ref (adr w a)), (1, .ref (adr w x0)), (2, .int (i2 + 1))]) [2, 3, 0] rfl ?_
    exact jo_leaf (by rfl) (hF2_2 (σ7, i2 + 1))
theorem c_X3_swapWithSpare {w : Wd} (hw : WOK w) {σ : Mem} {a : Nat} {x0 : Nat} (ha : isk w a 3) (hx0 : isk w x0 13) : ∀ σ', f_X3_swapWithSpare σ a x0 = some σ' → MC w mu_X3_swapWithSpare none [.ref (adr w a), .ref (adr w x0)] σ σ' := mc_ofV ok_X3_swapWithSpare rfl (Nat.le_of_ble_eq_true rfl) (t_X3_swapWithSpare hw ha hx0)
abbrev mu_X3_meet : MD := (yX3_meet, cX3_meet, 3, none, 1)
theorem ok_X3_meet : MOK mu_X3_meet 1 := ⟨gw_1144, gw_166, (by decide +kernel : plainFor yX3_meet = true), ⟨(by decide +kernel : yX3_meet.cls ≠ "java/lang/invoke/MethodHandle"), (by decide +kernel : yX3_meet.cls ≠ "java/lang/invoke/VarHandle"), (by decide +kernel : (parseMethodDescriptor yX3_meet.desc).map (fun d => d.parameters.length) = some 1)⟩, Nat.le_of_ble_eq_true rfl⟩
noncomputable def l_X3_meet_2 (a : Nat) (x0 : Int32) (σ1 : Mem) (i2 : Int32) : Option ((Mem × Int32) ⊕ Mem) :=
  if 1000 ≤ i2 then (some (Sum.inr σ1)) else (gL σ1 (rf a 2) x0 (fun (v3 : Int64) => if v3 = 0 then (some (Sum.inr σ1)) else (gR (rf a 1) x0 (fun (p4 : Nat) => gR (rf a 1) x0 (fun (p5 : Nat) => gL σ1 p5 x0 (fun (v6 : Int64) => gL σ1 (rf a 2) x0 (fun (v7 : Int64) => (f_J9_floorDiv_f86c9 σ1 v6 v7).bind (fun (v8 : Int64) => (f_X3_subtract σ1 a p4 (rf a 2) v8).bind (fun (σ9 : Mem) => gR (rf a 1) x0 (fun (p10 : Nat) => (f_X3_swapWithSpare σ9 a p10).bind (fun (σ11 : Mem) => some (Sum.inl (σ11, i2 + 1)))))))))))))
noncomputable def f_X3_meet (σ : Mem) (a : Nat) (x0 : Int32) : Option Mem :=
  loopO (fun (z2 : (Mem × Int32)) => l_X3_meet_2 a x0 z2.1 z2.2) (σ, 0)
theorem t_X3_meet {w : Wd} (hw : WOK w) {σ : Mem} {a : Nat} {x0 : Int32} (ha : isk w a 3) : JO w mu_X3_meet vV σ [(0, .ref (adr w a)), (1, .int x0)] [] 0 (f_X3_meet σ a x0) (fun z => some ((), z)) := by
  unfold f_X3_meet
  refine jo_iconst (pc := 0) dX3_meet_0 (ic_i_0) ?_
  refine jo_istore_n (pc := 1) (lv' := [(2, .int 0), (0, .ref (adr w a)), (1, .int x0)]) dX3_meet_1 rfl (ltb rfl) rfl ?_
  refine jo_lv (lv' := [(0, .ref (adr w a)), (1, .int x0), (2, .int 0)]) [1, 2, 0] rfl ?_
  refine jo_loop (X := Mem) (fun (z2 : (Mem × Int32)) => z2.1) (fun (z2 : (Mem × Int32)) => [(0, .ref (adr w a)), (1, .int x0), (2, .int z2.2)]) (body := (fun (z2 : (Mem × Int32)) => l_X3_meet_2 a x0 z2.1 z2.2)) (fun F2_2 hF2_2 s => ?_) (σ, 0)
  obtain ⟨σ1, i2⟩ := s
  show JO w mu_X3_meet vV σ1 [(0, .ref (adr w a)), (1, .int x0), (2, .int i2)] [] 2 (l_X3_meet_2 a x0 σ1 i2) _
  unfold l_X3_meet_2
  refine jo_iload_n (pc := 2) 2 rfl dX3_meet_2 rfl ?_
  refine jo_sipush (pc := 3) dX3_meet_3 (ic_s_1000) ?_
  refine jo_icmp_ge (pc := 6) dX3_meet_6 (tgt := 67) rfl ?_ ?_
  · exact jo_return (pc := 67) rfl rfl dX3_meet_67
  · refine jo_aload_n (pc := 9) 0 rfl dX3_meet_9 rfl ?_
    refine jo_getr (pc := 10) ok_3_2 (ha) gw_381 dX3_meet_10 ?_
    refine jo_iload_n (pc := 13) 1 rfl dX3_meet_13 rfl ?_
    refine jo_lald (pc := 14) (wf_3_2 hw (ha)) dX3_meet_14 (fun v3 => ?_)
    refine jo_lconst (pc := 15) dX3_meet_15 (ic_l_0) ?_
    refine jo_lcmp_eq (pc := 16) dX3_meet_16 dX3_meet_17 (tgt := 67) rfl ?_ ?_
    · exact jo_return (pc := 67) rfl rfl dX3_meet_67
    · refine jo_aload_n (pc := 20) 0 rfl dX3_meet_20 rfl ?_
      refine jo_aload_n (pc := 21) 0 rfl dX3_meet_21 rfl ?_
      refine jo_getr (pc := 22) ok_3_1 (ha) gw_379 dX3_meet_22 ?_
      refine jo_iload_n (pc := 25) 1 rfl dX3_meet_25 rfl ?_
      refine jo_aaldG (pc := 26) (z := 13) hw (wf_3_1 hw (ha)) (by decide) (t := 4) rfl rfl (by decide) dX3_meet_26 (fun p4 hp4 => ?_)
      refine jo_aload_n (pc := 27) 0 rfl dX3_meet_27 rfl ?_
      refine jo_getr (pc := 28) ok_3_2 (ha) gw_381 dX3_meet_28 ?_
      refine jo_aload_n (pc := 31) 0 rfl dX3_meet_31 rfl ?_
      refine jo_getr (pc := 32) ok_3_1 (ha) gw_379 dX3_meet_32 ?_
      refine jo_iload_n (pc := 35) 1 rfl dX3_meet_35 rfl ?_
      refine jo_aaldG (pc := 36) (z := 13) hw (wf_3_1 hw (ha)) (by decide) (t := 4) rfl rfl (by decide) dX3_meet_36 (fun p5 hp5 => ?_)
      refine jo_iload_n (pc := 37) 1 rfl dX3_meet_37 rfl ?_
      refine jo_lald (pc := 38) (hp5) dX3_meet_38 (fun v6 => ?_)
      refine jo_aload_n (pc := 39) 0 rfl dX3_meet_39 rfl ?_
      refine jo_getr (pc := 40) ok_3_2 (ha) gw_381 dX3_meet_40 ?_
      refine jo_iload_n (pc := 43) 1 rfl dX3_meet_43 rfl ?_
      refine jo_lald (pc := 44) (wf_3_2 hw (ha)) dX3_meet_44 (fun v7 => ?_)
      refine jo_cS_J_p (pc := 45) (μ' := mu_J9_floorDiv_f86c9) (fx := f_J9_floorDiv_f86c9 σ1 v6 v7) (As := [.long v6, .long v7]) (c_J9_floorDiv_f86c9 hw) (ok_J9_floorDiv_f86c9) (ltb rfl) (all2 gw_1145 gw_1146) rfl rfl (Nat.le_of_ble_eq_true rfl) dX3_meet_45 (fun v8 => ?_)
      refine jo_cV_V_i (pc := 48) (μ' := mu_X3_subtract) (fx := f_X3_subtract σ1 a p4 (rf a 2) v8) (As := [.ref (adr w p4), .ref (adr w (rf a 2)), .long v8]) (c_X3_subtract hw (ha) (hp4) (wf_3_2 hw (ha))) (ok_X3_subtract) (ltb rfl) (all3 gw_1148 gw_1150 gw_48) (ha) (by decide) (q := (RX3, TX3, 3)) rfl rfl rfl rfl (Nat.le_of_ble_eq_true rfl) dX3_meet_48 (fun σ9 => ?_)
      refine jo_aload_n (pc := 51) 0 rfl dX3_meet_51 rfl ?_
      refine jo_aload_n (pc := 52) 0 rfl dX3_meet_52 rfl ?_
      refine jo_getr (pc := 53) ok_3_1 (ha) gw_379 dX3_meet_53 ?_
      refine jo_iload_n (pc := 56) 1 rfl dX3_meet_56 rfl ?_
      refine jo_aaldG (pc := 57) (z := 13) hw (wf_3_1 hw (ha)) (by decide) (t := 4) rfl rfl (by decide) dX3_meet_57 (fun p10 hp10 => ?_)
      refine jo_cV_V_i (pc := 58) (μ' := mu_X3_swapWithSpare) (fx := f_X3_swapWithSpare σ9 a p10) (As := [.ref (adr w p10)]) (c_X3_swapWithSpare hw (ha) (hp10)) (ok_X3_swapWithSpare) (ltb rfl) (all3 gw_1152 gw_1154 gw_49) (ha) (by decide) (q := (RX3, TX3, 3)) rfl rfl rfl rfl (Nat.le_of_ble_eq_true rfl) dX3_meet_58 (fun σ11 => ?_)
      refine jo_iinc (pc := 61) (lv' := [(2, .int (i2 + 1)), (0, .ref (adr w a)), (1, .int x0)]) 2 rfl dX3_meet_61 (congrArg (fun z => i2 + z) (ic_i_1)) (ltb rfl) rfl ?_
      refine jo_goto (pc := 64) dX3_meet_64 (tgt := 2) rfl ?_
      refine jo_lv (lv' := [(0, .ref (adr w a)), (1, .int x0), (2, .int (i2 + 1))]) [1, 2, 0] rfl ?_
      exact jo_leaf (by rfl) (hF2_2 (σ11, i2 + 1))
theorem c_X3_meet {w : Wd} (hw : WOK w) {σ : Mem} {a : Nat} {x0 : Int32} (ha : isk w a 3) : ∀ σ', f_X3_meet σ a x0 = some σ' → MC w mu_X3_meet none [.ref (adr w a), .int x0] σ σ' := mc_ofV ok_X3_meet rfl (Nat.le_of_ble_eq_true rfl) (t_X3_meet hw ha)
abbrev mu_X3_negate : MD := (yX3_negate, cX3_negate, 3, none, 0)
theorem ok_X3_negate : MOK mu_X3_negate 1 := ⟨gw_1159, gw_166, (by decide +kernel : plainFor yX3_negate = true), ⟨(by decide +kernel : yX3_negate.cls ≠ "java/lang/invoke/MethodHandle"), (by decide +kernel : yX3_negate.cls ≠ "java/lang/invoke/VarHandle"), (by decide +kernel : (parseMethodDescriptor yX3_negate.desc).map (fun d => d.parameters.length) = some 1)⟩, Nat.le_of_ble_eq_true rfl⟩
noncomputable def l_X3_negate_2 (a : Nat) (x0 : Nat) (σ1 : Mem) (i2 : Int32) : Option ((Mem × Int32) ⊕ Mem) :=
  gF σ1 a 0 (fun (v3 : Int32) => if v3 ≤ i2 then (some (Sum.inr σ1)) else (gL σ1 x0 i2 (fun (v4 : Int64) => pL σ1 x0 i2 (-v4) (fun (σ5 : Mem) => some (Sum.inl (σ5, i2 + 1))))))
noncomputable def f_X3_negate (σ : Mem) (a : Nat) (x0 : Nat) : Option Mem :=
  loopO (fun (z2 : (Mem × Int32)) => l_X3_negate_2 a x0 z2.1 z2.2) (σ, 0)
theorem t_X3_negate {w : Wd} (hw : WOK w) {σ : Mem} {a : Nat} {x0 : Nat} (ha : isk w a 3) (hx0 : isk w x0 13) : JO w mu_X3_negate vV σ [(0, .ref (adr w a)), (1, .ref (adr w x0))] [] 0 (f_X3_negate σ a x0) (fun z => some ((), z)) := by
  unfold f_X3_negate
  refine jo_iconst (pc := 0) dX3_negate_0 (ic_i_0) ?_
  refine jo_istore_n (pc := 1) (lv' := [(2, .int 0), (0, .ref (adr w a)), (1, .ref (adr w x0))]) dX3_negate_1 rfl (ltb rfl) rfl ?_
  refine jo_lv (lv' := [(0, .ref (adr w a)), (1, .ref (adr w x0)), (2, .int 0)]) [1, 2, 0] rfl ?_
  refine jo_loop (X := Mem) (fun (z2 : (Mem × Int32)) => z2.1) (fun (z2 : (Mem × Int32)) => [(0, .ref (adr w a)), (1, .ref (adr w x0)), (2, .int z2.2)]) (body := (fun (z2 : (Mem × Int32)) => l_X3_negate_2 a x0 z2.1 z2.2)) (fun F2_2 hF2_2 s => ?_) (σ, 0)
  obtain ⟨σ1, i2⟩ := s
  show JO w mu_X3_negate vV σ1 [(0, .ref (adr w a)), (1, .ref (adr w x0)), (2, .int i2)] [] 2 (l_X3_negate_2 a x0 σ1 i2) _
  unfold l_X3_negate_2
  refine jo_iload_n (pc := 2) 2 rfl dX3_negate_2 rfl ?_
  refine jo_aload_n (pc := 3) 0 rfl dX3_negate_3 rfl ?_
  refine jo_getf (pc := 4) ok_3_0 (ha) gw_378 dX3_negate_4 (fun v3 => ?_)
  refine jo_icmp_ge (pc := 7) dX3_negate_7 (tgt := 23) rfl ?_ ?_
  · exact jo_return (pc := 23) rfl rfl dX3_negate_23
  · refine jo_aload_n (pc := 10) 1 rfl dX3_negate_10 rfl ?_
    refine jo_iload_n (pc := 11) 2 rfl dX3_negate_11 rfl ?_
    refine jo_aload_n (pc := 12) 1 rfl dX3_negate_12 rfl ?_
    refine jo_iload_n (pc := 13) 2 rfl dX3_negate_13 rfl ?_
    refine jo_lald (pc := 14) (hx0) dX3_negate_14 (fun v4 => ?_)
    refine jo_lneg (pc := 15) dX3_negate_15 ?_
    refine jo_last (pc := 16) (hx0) dX3_negate_16 (fun σ5 => ?_)
    refine jo_iinc (pc := 17) (lv' := [(2, .int (i2 + 1)), (0, .ref (adr w a)), (1, .ref (adr w x0))]) 2 rfl dX3_negate_17 (congrArg (fun z => i2 + z) (ic_i_1)) (ltb rfl) rfl ?_
    refine jo_goto (pc := 20) dX3_negate_20 (tgt := 2) rfl ?_
    refine jo_lv (lv' := [(0, .ref (adr w a)), (1, .ref (adr w x0)), (2, .int (i2 + 1))]) [1, 2, 0] rfl ?_
    exact jo_leaf (by rfl) (hF2_2 (σ5, i2 + 1))
theorem c_X3_negate {w : Wd} (hw : WOK w) {σ : Mem} {a : Nat} {x0 : Nat} (ha : isk w a 3) (hx0 : isk w x0 13) : ∀ σ', f_X3_negate σ a x0 = some σ' → MC w mu_X3_negate none [.ref (adr w a), .ref (adr w x0)] σ σ' := mc_ofV ok_X3_negate rfl (Nat.le_of_ble_eq_true rfl) (t_X3_negate hw ha hx0)
abbrev mu_X3_takeStep : MD := (yX3_takeStep, cX3_takeStep, 3, none, 1)
theorem ok_X3_takeStep : MOK mu_X3_takeStep 2 := ⟨gw_1167, gw_166, (by decide +kernel : plainFor yX3_takeStep = true), ⟨(by decide +kernel : yX3_takeStep.cls ≠ "java/lang/invoke/MethodHandle"), (by decide +kernel : yX3_takeStep.cls ≠ "java/lang/invoke/VarHandle"), (by decide +kernel : (parseMethodDescriptor yX3_takeStep.desc).map (fun d => d.parameters.length) = some 2)⟩, Nat.le_of_ble_eq_true rfl⟩
noncomputable def f_X3_takeStep (σ : Mem) (a : Nat) (x0 : Nat) (x1 : Int32) : Option Mem :=
  gR (rf a 1) x1 (fun (p1 : Nat) => gL σ p1 x1 (fun (v2 : Int64) => if v2 = 0 then (some σ) else (gR (rf a 1) x1 (fun (p3 : Nat) => gL σ x0 x1 (fun (v4 : Int64) => gR (rf a 1) x1 (fun (p5 : Nat) => gL σ p5 x1 (fun (v6 : Int64) => (f_J9_floorDiv_f86c9 σ v4 v6).bind (fun (v7 : Int64) => (f_X3_subtract σ a x0 p3 v7).bind (fun (σ8 : Mem) => some σ8)))))))))
theorem t_X3_takeStep {w : Wd} (hw : WOK w) {σ : Mem} {a : Nat} {x0 : Nat} {x1 : Int32} (ha : isk w a 3) (hx0 : isk w x0 13) : JO w mu_X3_takeStep vV σ [(0, .ref (adr w a)), (1, .ref (adr w x0)), (2, .int x1)] [] 0 (f_X3_takeStep σ a x0 x1) (fun z => some ((), z)) := by
  unfold f_X3_takeStep
  refine jo_aload_n (pc := 0) 0 rfl dX3_takeStep_0 rfl ?_
  refine jo_getr (pc := 1) ok_3_1 (ha) gw_379 dX3_takeStep_1 ?_
  refine jo_iload_n (pc := 4) 2 rfl dX3_takeStep_4 rfl ?_
  refine jo_aaldG (pc := 5) (z := 13) hw (wf_3_1 hw (ha)) (by decide) (t := 4) rfl rfl (by decide) dX3_takeStep_5 (fun p1 hp1 => ?_)
  refine jo_iload_n (pc := 6) 2 rfl dX3_takeStep_6 rfl ?_
  refine jo_lald (pc := 7) (hp1) dX3_takeStep_7 (fun v2 => ?_)
  refine jo_lconst (pc := 8) dX3_takeStep_8 (ic_l_0) ?_
  refine jo_lcmp_eq (pc := 9) dX3_takeStep_9 dX3_takeStep_10 (tgt := 38) rfl ?_ ?_
  · exact jo_return (pc := 38) rfl rfl dX3_takeStep_38
  · refine jo_aload_n (pc := 13) 0 rfl dX3_takeStep_13 rfl ?_
    refine jo_aload_n (pc := 14) 1 rfl dX3_takeStep_14 rfl ?_
    refine jo_aload_n (pc := 15) 0 rfl dX3_takeStep_15 rfl ?_
    refine jo_getr (pc := 16) ok_3_1 (ha) gw_379 dX3_takeStep_16 ?_
    refine jo_iload_n (pc := 19) 2 rfl dX3_takeStep_19 rfl ?_
    refine jo_aaldG (pc := 20) (z := 13) hw (wf_3_1 hw (ha)) (by decide) (t := 4) rfl rfl (by decide) dX3_takeStep_20 (fun p3 hp3 => ?_)
    refine jo_aload_n (pc := 21) 1 rfl dX3_takeStep_21 rfl ?_
    refine jo_iload_n (pc := 22) 2 rfl dX3_takeStep_22 rfl ?_
    refine jo_lald (pc := 23) (hx0) dX3_takeStep_23 (fun v4 => ?_)
    refine jo_aload_n (pc := 24) 0 rfl dX3_takeStep_24 rfl ?_
    refine jo_getr (pc := 25) ok_3_1 (ha) gw_379 dX3_takeStep_25 ?_
    refine jo_iload_n (pc := 28) 2 rfl dX3_takeStep_28 rfl ?_
    refine jo_aaldG (pc := 29) (z := 13) hw (wf_3_1 hw (ha)) (by decide) (t := 4) rfl rfl (by decide) dX3_takeStep_29 (fun p5 hp5 => ?_)
    refine jo_iload_n (pc := 30) 2 rfl dX3_takeStep_30 rfl ?_
    refine jo_lald (pc := 31) (hp5) dX3_takeStep_31 (fun v6 => ?_)
    refine jo_cS_J_p (pc := 32) (μ' := mu_J9_floorDiv_f86c9) (fx := f_J9_floorDiv_f86c9 σ v4 v6) (As := [.long v4, .long v6]) (c_J9_floorDiv_f86c9 hw) (ok_J9_floorDiv_f86c9) (ltb rfl) (all2 gw_1145 gw_1146) rfl rfl (Nat.le_of_ble_eq_true rfl) dX3_takeStep_32 (fun v7 => ?_)
    refine jo_cV_V_i (pc := 35) (μ' := mu_X3_subtract) (fx := f_X3_subtract σ a x0 p3 v7) (As := [.ref (adr w x0), .ref (adr w p3), .long v7]) (c_X3_subtract hw (ha) (hx0) (hp3)) (ok_X3_subtract) (ltb rfl) (all3 gw_1148 gw_1150 gw_48) (ha) (by decide) (q := (RX3, TX3, 3)) rfl rfl rfl rfl (Nat.le_of_ble_eq_true rfl) dX3_takeStep_35 (fun σ8 => ?_)
    exact jo_return (pc := 38) rfl rfl dX3_takeStep_38
theorem c_X3_takeStep {w : Wd} (hw : WOK w) {σ : Mem} {a : Nat} {x0 : Nat} {x1 : Int32} (ha : isk w a 3) (hx0 : isk w x0 13) : ∀ σ', f_X3_takeStep σ a x0 x1 = some σ' → MC w mu_X3_takeStep none [.ref (adr w a), .ref (adr w x0), .int x1] σ σ' := mc_ofV ok_X3_takeStep rfl (Nat.le_of_ble_eq_true rfl) (t_X3_takeStep hw ha hx0)
abbrev mu_X3_tidy : MD := (yX3_tidy, cX3_tidy, 3, none, 2)
theorem ok_X3_tidy : MOK mu_X3_tidy 0 := ⟨gw_1163, gw_166, (by decide +kernel : plainFor yX3_tidy = true), ⟨(by decide +kernel : yX3_tidy.cls ≠ "java/lang/invoke/MethodHandle"), (by decide +kernel : yX3_tidy.cls ≠ "java/lang/invoke/VarHandle"), (by decide +kernel : (parseMethodDescriptor yX3_tidy.desc).map (fun d => d.parameters.length) = some 0)⟩, Nat.le_of_ble_eq_true rfl⟩
noncomputable def j_X3_tidy_40 (i4 : Int32) (σ6 : Mem) : Option ((Mem × Int32) ⊕ Mem) :=
  some (Sum.inl (σ6, i4 + (-1)))
noncomputable def l_X3_tidy_15 (a : Nat) (i4 : Int32) (σ7 : Mem) (i8 : Int32) : Option ((Mem × Int32) ⊕ Mem) :=
  gF σ7 a 0 (fun (v9 : Int32) => if v9 ≤ i8 then (some (Sum.inr σ7)) else (gR (rf a 1) i4 (fun (p10 : Nat) => (f_X3_takeStep σ7 a p10 i8).bind (fun (σ11 : Mem) => some (Sum.inl (σ11, i8 + 1))))))
noncomputable def l_X3_tidy_7 (a : Nat) (σ3 : Mem) (i4 : Int32) : Option ((Mem × Int32) ⊕ Mem) :=
  if i4 < 0 then (some (Sum.inr σ3)) else (bd (i4 + 1) (fun (v5 : Int32) => (loopO (fun (z8 : (Mem × Int32)) => l_X3_tidy_15 a i4 z8.1 z8.2) (σ3, v5) : Option Mem).bind (fun (z6 : Mem) => j_X3_tidy_40 i4 z6)))
noncomputable def f_X3_tidy (σ : Mem) (a : Nat) : Option Mem :=
  gF σ a 0 (fun (v1 : Int32) => bd (v1 - 1) (fun (v2 : Int32) => loopO (fun (z4 : (Mem × Int32)) => l_X3_tidy_7 a z4.1 z4.2) (σ, v2)))
theorem t_X3_tidy {w : Wd} (hw : WOK w) {σ : Mem} {a : Nat} (ha : isk w a 3) : JO w mu_X3_tidy vV σ [(0, .ref (adr w a))] [] 0 (f_X3_tidy σ a) (fun z => some ((), z)) := by
  unfold f_X3_tidy
  refine jo_aload_n (pc := 0) 0 rfl dX3_tidy_0 rfl ?_
  refine jo_getf (pc := 1) ok_3_0 (ha) gw_378 dX3_tidy_1 (fun v1 => ?_)
  refine jo_iconst (pc := 4) dX3_tidy_4 (ic_i_1) ?_
  refine jo_isub (pc := 5) dX3_tidy_5 ?_
  refine jo_bd ?_
  refine jo_istore_n (pc := 6) (lv' := [(1, .int (v1 - 1)), (0, .ref (adr w a))]) dX3_tidy_6 rfl (ltb rfl) rfl ?_
  generalize (v1 - 1) = v2
  refine jo_lv (lv' := [(0, .ref (adr w a)), (1, .int v2)]) [1, 0] rfl ?_
  refine jo_loop (X := Mem) (fun (z4 : (Mem × Int32)) => z4.1) (fun (z4 : (Mem × Int32)) => [(0, .ref (adr w a)), (1, .int z4.2)]) (body := (fun (z4 : (Mem × Int32)) => l_X3_tidy_7 a z4.1 z4.2)) (fun F7_4 hF7_4 s => ?_) (σ, v2)
  obtain ⟨σ3, i4⟩ := s
  show JO w mu_X3_tidy vV σ3 [(0, .ref (adr w a)), (1, .int i4)] [] 7 (l_X3_tidy_7 a σ3 i4) _
  unfold l_X3_tidy_7
  refine jo_iload_n (pc := 7) 1 rfl dX3_tidy_7 rfl ?_
  refine jo_if_lt (pc := 8) dX3_tidy_8 (tgt := 46) rfl ?_ ?_
  · exact jo_return (pc := 46) rfl rfl dX3_tidy_46
  · refine jo_iload_n (pc := 11) 1 rfl dX3_tidy_11 rfl ?_
    refine jo_iconst (pc := 12) dX3_tidy_12 (ic_i_1) ?_
    refine jo_iadd (pc := 13) dX3_tidy_13 ?_
    refine jo_bd ?_
    refine jo_istore_n (pc := 14) (lv' := [(2, .int (i4 + 1)), (0, .ref (adr w a)), (1, .int i4)]) dX3_tidy_14 rfl (ltb rfl) rfl ?_
    generalize (i4 + 1) = v5
    refine jo_join1 (S := Mem) (fun (z6 : Mem) => z6) (fun (z6 : Mem) => [(0, .ref (adr w a)), (1, .int i4)]) (fun (z6 : Mem) => []) 40 ?_ (fun h40_6 => ?_)
    · intro σ6
      show JO w mu_X3_tidy vV σ6 [(0, .ref (adr w a)), (1, .int i4)] [] 40 (j_X3_tidy_40 i4 σ6) _
      unfold j_X3_tidy_40
      refine jo_iinc (pc := 40) (lv' := [(1, .int (i4 + (-1))), (0, .ref (adr w a))]) 1 rfl dX3_tidy_40 (congrArg (fun z => i4 + z) (ic_i_m1)) (ltb rfl) rfl ?_
      refine jo_goto (pc := 43) dX3_tidy_43 (tgt := 7) rfl ?_
      refine jo_lv (lv' := [(0, .ref (adr w a)), (1, .int (i4 + (-1)))]) [1, 0] rfl ?_
      exact jo_leaf (by rfl) (hF7_4 (σ6, i4 + (-1)))
    · refine jo_lv (lv' := [(0, .ref (adr w a)), (1, .int i4), (2, .int v5)]) [1, 2, 0] rfl ?_
      refine jo_loop (X := Mem) (fun (z8 : (Mem × Int32)) => z8.1) (fun (z8 : (Mem × Int32)) => [(0, .ref (adr w a)), (1, .int i4), (2, .int z8.2)]) (body := (fun (z8 : (Mem × Int32)) => l_X3_tidy_15 a i4 z8.1 z8.2)) (fun F15_8 hF15_8 s => ?_) (σ3, v5)
      obtain ⟨σ7, i8⟩ := s
      show JO w mu_X3_tidy vV σ7 [(0, .ref (adr w a)), (1, .int i4), (2, .int i8)] [] 15 (l_X3_tidy_15 a i4 σ7 i8) _
      unfold l_X3_tidy_15
      refine jo_iload_n (pc := 15) 2 rfl dX3_tidy_15 rfl ?_
      refine jo_aload_n (pc := 16) 0 rfl dX3_tidy_16 rfl ?_
      refine jo_getf (pc := 17) ok_3_0 (ha) gw_378 dX3_tidy_17 (fun v9 => ?_)
      refine jo_icmp_ge (pc := 20) dX3_tidy_20 (tgt := 40) rfl ?_ ?_
      · refine jo_lv (lv' := [(0, .ref (adr w a)), (1, .int i4)]) [0, 1] rfl ?_
        exact jo_leaf (by rfl) (h40_6 σ7)
      · refine jo_aload_n (pc := 23) 0 rfl dX3_tidy_23 rfl ?_
        refine jo_aload_n (pc := 24) 0 rfl dX3_tidy_24 rfl ?_
        refine jo_getr (pc := 25) ok_3_1 (ha) gw_379 dX3_tidy_25 ?_
        refine jo_iload_n (pc := 28) 1 rfl dX3_tidy_28 rfl ?_
        refine jo_aaldG (pc := 29) (z := 13) hw (wf_3_1 hw (ha)) (by decide) (t := 4) rfl rfl (by decide) dX3_tidy_29 (fun p10 hp10 => ?_)
        refine jo_iload_n (pc := 30) 2 rfl dX3_tidy_30 rfl ?_
        refine jo_cV_V_i (pc := 31) (μ' := mu_X3_takeStep) (fx := f_X3_takeStep σ7 a p10 i8) (As := [.ref (adr w p10), .int i8]) (c_X3_takeStep hw (ha) (hp10)) (ok_X3_takeStep) (ltb rfl) (all3 gw_1164 gw_1166 gw_52) (ha) (by decide) (q := (RX3, TX3, 3)) rfl rfl rfl rfl (Nat.le_of_ble_eq_true rfl) dX3_tidy_31 (fun σ11 => ?_)
        refine jo_iinc (pc := 34) (lv' := [(2, .int (i8 + 1)), (0, .ref (adr w a)), (1, .int i4)]) 2 rfl dX3_tidy_34 (congrArg (fun z => i8 + z) (ic_i_1)) (ltb rfl) rfl ?_
        refine jo_goto (pc := 37) dX3_tidy_37 (tgt := 15) rfl ?_
        refine jo_lv (lv' := [(0, .ref (adr w a)), (1, .int i4), (2, .int (i8 + 1))]) [1, 2, 0] rfl ?_
        exact jo_leaf (by rfl) (hF15_8 (σ11, i8 + 1))
theorem c_X3_tidy {w : Wd} (hw : WOK w) {σ : Mem} {a : Nat} (ha : isk w a 3) : ∀ σ', f_X3_tidy σ a = some σ' → MC w mu_X3_tidy none [.ref (adr w a)] σ σ' := mc_ofV ok_X3_tidy rfl (Nat.le_of_ble_eq_true rfl) (t_X3_tidy hw ha)
abbrev mu_X3_insert : MD := (yX3_insert, cX3_insert, 3, none, 3)
theorem ok_X3_insert : MOK mu_X3_insert 1 := ⟨gw_1139, gw_166, (by decide +kernel : plainFor yX3_insert = true), ⟨(by decide +kernel : yX3_insert.cls ≠ "java/lang/invoke/MethodHandle"), (by decide +kernel : yX3_insert.cls ≠ "java/lang/invoke/VarHandle"), (by decide +kernel : (parseMethodDescriptor yX3_insert.desc).map (fun d => d.parameters.length) = some 1)⟩, Nat.le_of_ble_eq_true rfl⟩
noncomputable def j_X3_insert_52 (a : Nat) (σ2 : Mem) : Option Mem :=
  (f_X3_tidy σ2 a).bind (fun (σ3 : Mem) => some σ3)
noncomputable def j_X3_insert_46 (i5 : Int32) (σ10 : Mem) : Option ((Mem × Int32) ⊕ Mem) :=
  some (Sum.inl (σ10, i5 + 1))
noncomputable def l_X3_insert_10 (a : Nat) (σ4 : Mem) (i5 : Int32) : Option ((Mem × Int32) ⊕ Mem) :=
  gF σ4 a 0 (fun (v6 : Int32) => if v6 ≤ i5 then (some (Sum.inr σ4)) else ((f_X3_meet σ4 a i5).bind (fun (σ7 : Mem) => gR (rf a 1) i5 (fun (p8 : Nat) => gL σ7 p8 i5 (fun (v9 : Int64) => (if 0 ≤ v9 then (some σ7) else (gR (rf a 1) i5 (fun (p11 : Nat) => (f_X3_negate σ7 a p11).bind (fun (σ12 : Mem) => some σ12))) : Option Mem).bind (fun (z10 : Mem) => j_X3_insert_46 i5 z10))))))
noncomputable def f_X3_insert (σ : Mem) (a : Nat) (x0 : Nat) : Option Mem :=
  (f_X0_copy σ x0 (rf a 2)).bind (fun (σ1 : Mem) => (loopO (fun (z5 : (Mem × Int32)) => l_X3_insert_10 a z5.1 z5.2) (σ1, 0) : Option Mem).bind (fun (z2 : Mem) => j_X3_insert_52 a z2))
theorem t_X3_insert {w : Wd} (hw : WOK w) {σ : Mem} {a : Nat} {x0 : Nat} (ha : isk w a 3) (hx0 : isk w x0 13) : JO w mu_X3_insert vV σ [(0, .ref (adr w a)), (1, .ref (adr w x0))] [] 0 (f_X3_insert σ a x0) (fun z => some ((), z)) := by
  unfold f_X3_insert
  refine jo_aload_n (pc := 0) 1 rfl dX3_insert_0 rfl ?_
  refine jo_aload_n (pc := 1) 0 rfl dX3_insert_1 rfl ?_
  refine jo_getr (pc := 2) ok_3_2 (ha) gw_381 dX3_insert_2 ?_
  refine jo_cS_V_i (pc := 5) (μ' := mu_X0_copy) (fx := f_X0_copy σ x0 (rf a 2)) (As := [.ref (adr w x0), .ref (adr w (rf a 2))]) (c_X0_copy hw (hx0) (wf_3_2 hw (ha))) (ok_X0_copy) (ltb rfl) (all2 gw_1140 gw_704) rfl rfl (Nat.le_of_ble_eq_true rfl) dX3_insert_5 (fun σ1 => ?_)
  refine jo_iconst (pc := 8) dX3_insert_8 (ic_i_0) ?_
  refine jo_istore_n (pc := 9) (lv' := [(2, .int 0), (0, .ref (adr w a)), (1, .ref (adr w x0))]) dX3_insert_9 rfl (ltb rfl) rfl ?_
  refine jo_join1 (S := Mem) (fun (z2 : Mem) => z2) (fun (z2 : Mem) => [(0, .ref (adr w a))]) (fun (z2 : Mem) => []) 52 ?_ (fun h52_2 => ?_)
  · intro σ2
    show JO w mu_X3_insert vV σ2 [(0, .ref (adr w a))] [] 52 (j_X3_insert_52 a σ2) _
    unfold j_X3_insert_52
    refine jo_aload_n (pc := 52) 0 rfl dX3_insert_52 rfl ?_
    refine jo_cV_V_i (pc := 53) (μ' := mu_X3_tidy) (fx := f_X3_tidy σ2 a) (As := []) (c_X3_tidy hw (ha)) (ok_X3_tidy) (ltb rfl) (all3 gw_1160 gw_1162 gw_51) (ha) (by decide) (q := (RX3, TX3, 3)) rfl rfl rfl rfl (Nat.le_of_ble_eq_true rfl) dX3_insert_53 (fun σ3 => ?_)
    exact jo_return (pc := 56) rfl rfl dX3_insert_56
  · refine jo_lv (lv' := [(0, .ref (adr w a)), (2, .int 0)]) [1, 0] rfl ?_
    refine jo_loop (X := Mem) (fun (z5 : (Mem × Int32)) => z5.1) (fun (z5 : (Mem × Int32)) => [(0, .ref (adr w a)), (2, .int z5.2)]) (body := (fun (z5 : (Mem × Int32)) => l_X3_insert_10 a z5.1 z5.2)) (fun F10_5 hF10_5 s => ?_) (σ1, 0)
    obtain ⟨σ4, i5⟩ := s
    show JO w mu_X3_insert vV σ4 [(0, .ref (adr w a)), (2, .int i5)] [] 10 (l_X3_insert_10 a σ4 i5) _
    unfold l_X3_insert_10
    refine jo_iload_n (pc := 10) 1 rfl dX3_insert_10 rfl ?_
    refine jo_aload_n (pc := 11) 0 rfl dX3_insert_11 rfl ?_
    refine jo_getf (pc := 12) ok_3_0 (ha) gw_378 dX3_insert_12 (fun v6 => ?_)
    refine jo_icmp_ge (pc := 15) dX3_insert_15 (tgt := 52) rfl ?_ ?_
    · refine jo_lv (lv' := [(0, .ref (adr w a))]) [0] rfl ?_
      exact jo_leaf (by rfl) (h52_2 σ4)
    · refine jo_aload_n (pc := 18) 0 rfl dX3_insert_18 rfl ?_
      refine jo_iload_n (pc := 19) 1 rfl dX3_insert_19 rfl ?_
      refine jo_cV_V_i (pc := 20) (μ' := mu_X3_meet) (fx := f_X3_meet σ4 a i5) (As := [.int i5]) (c_X3_meet hw (ha)) (ok_X3_meet) (ltb rfl) (all3 gw_1141 gw_1143 gw_47) (ha) (by decide) (q := (RX3, TX3, 3)) rfl rfl rfl rfl (Nat.le_of_ble_eq_true rfl) dX3_insert_20 (fun σ7 => ?_)
      refine jo_aload_n (pc := 23) 0 rfl dX3_insert_23 rfl ?_
      refine jo_getr (pc := 24) ok_3_1 (ha) gw_379 dX3_insert_24 ?_
      refine jo_iload_n (pc := 27) 1 rfl dX3_insert_27 rfl ?_
      refine jo_aaldG (pc := 28) (z := 13) hw (wf_3_1 hw (ha)) (by decide) (t := 4) rfl rfl (by decide) dX3_insert_28 (fun p8 hp8 => ?_)
      refine jo_iload_n (pc := 29) 1 rfl dX3_insert_29 rfl ?_
      refine jo_lald (pc := 30) (hp8) dX3_insert_30 (fun v9 => ?_)
      refine jo_lconst (pc := 31) dX3_insert_31 (ic_l_0) ?_
      refine jo_join1 (S := Mem) (fun (z10 : Mem) => z10) (fun (z10 : Mem) => [(0, .ref (adr w a)), (2, .int i5)]) (fun (z10 : Mem) => []) 46 ?_ (fun h46_10 => ?_)
      · intro σ10
        show JO w mu_X3_insert vV σ10 [(0, .ref (adr w a)), (2, .int i5)] [] 46 (j_X3_insert_46 i5 σ10) _
        unfold j_X3_insert_46
        refine jo_iinc (pc := 46) (lv' := [(2, .int (i5 + 1)), (0, .ref (adr w a))]) 1 rfl dX3_insert_46 (congrArg (fun z => i5 + z) (ic_i_1)) (ltb rfl) rfl ?_
        refine jo_goto (pc := 49) dX3_insert_49 (tgt := 10) rfl ?_
        refine jo_lv (lv' := [(0, .ref (adr w a)), (2, .int (i5 + 1))]) [1, 0] rfl ?_
        exact jo_leaf (by rfl) (hF10_5 (σ10, i5 + 1))
      · refine jo_lcmp_ge (pc := 32) dX3_insert_32 dX3_insert_33 (tgt := 46) rfl ?_ ?_
        · exact jo_leaf (by rfl) (h46_10 σ7)
        · refine jo_aload_n (pc := 36) 0 rfl dX3_insert_36 rfl ?_
          refine jo_aload_n (pc := 37) 0 rfl dX3_insert_37 rfl ?_
          refine jo_getr (pc := 38) ok_3_1 (ha) gw_379 dX3_insert_38 ?_
          refine jo_iload_n (pc := 41) 1 rfl dX3_insert_41 rfl ?_
          refine jo_aaldG (pc := 42) (z := 13) hw (wf_3_1 hw (ha)) (by decide) (t := 4) rfl rfl (by decide) dX3_insert_42 (fun p11 hp11 => ?_)
          refine jo_cV_V_i (pc := 43) (μ' := mu_X3_negate) (fx := f_X3_negate σ7 a p11) (As := [.ref (adr w p11)]) (c_X3_negate hw (ha) (hp11)) (ok_X3_negate) (ltb rfl) (all3 gw_1156 gw_1158 gw_50) (ha) (by decide) (q := (RX3, TX3, 3)) rfl rfl rfl rfl (Nat.le_of_ble_eq_true rfl) dX3_insert_43 (fun σ12 => ?_)
          exact jo_leaf (by rfl) (h46_10 σ12)
theorem c_X3_insert {w : Wd} (hw : WOK w) {σ : Mem} {a : Nat} {x0 : Nat} (ha : isk w a 3) (hx0 : isk w x0 13) : ∀ σ', f_X3_insert σ a x0 = some σ' → MC w mu_X3_insert none [.ref (adr w a), .ref (adr w x0)] σ σ' := mc_ofV ok_X3_insert rfl (Nat.le_of_ble_eq_true rfl) (t_X3_insert hw ha hx0)
abbrev mu_X3_reduce : MD := (yX3_reduce, cX3_reduce, 4, some .boolean, 2)
theorem ok_X3_reduce : MOK mu_X3_reduce 1 := ⟨gw_1171, gw_166, (by decide +kernel : plainFor yX3_reduce = true), ⟨(by decide +kernel : yX3_reduce.cls ≠ "java/lang/invoke/MethodHandle"), (by decide +kernel : yX3_reduce.cls ≠ "java/lang/invoke/VarHandle"), (by decide +kernel : (parseMethodDescriptor yX3_reduce.desc).map (fun d => d.parameters.length) = some 1)⟩, Nat.le_of_ble_eq_true rfl⟩
noncomputable def j_X3_reduce_35 (i3 : Int32) (σ6 : Mem) (b7 : Bool) : Option ((Mem × Int32 × Int32) ⊕ (Bool × Mem)) :=
  some (Sum.inl (σ6, b2i b7, i3 + 1))
noncomputable def j_X3_reduce_34  : Option Bool :=
  some false
noncomputable def l_X3_reduce_4 (a : Nat) (x0 : Nat) (σ1 : Mem) (i2 : Int32) (i3 : Int32) : Option ((Mem × Int32 × Int32) ⊕ (Bool × Mem)) :=
  gF σ1 a 0 (fun (v4 : Int32) => if v4 ≤ i3 then (rB i2 (fun (b5 : Bool) => some (Sum.inr (b5, σ1)))) else ((f_X3_takeStep σ1 a x0 i3).bind (fun (σ6 : Mem) => ((if i2 = 0 then (some (Sum.inl ())) else (gL σ6 x0 i3 (fun (v8 : Int64) => if v8 = 0 then (some (Sum.inr true)) else (some (Sum.inl ())))) : Option (Unit ⊕ Bool)).bind (Sum.elim (fun (z7 : Unit) => j_X3_reduce_34) some) : Option Bool).bind (fun (z7 : Bool) => j_X3_reduce_35 i3 σ6 z7))))
noncomputable def f_X3_reduce (σ : Mem) (a : Nat) (x0 : Nat) : Option (Bool × Mem) :=
  loopO (fun (z3 : (Mem × Int32 × Int32)) => l_X3_reduce_4 a x0 z3.1 z3.2.1 z3.2.2) (σ, 1, 0)
theorem t_X3_reduce {w : Wd} (hw : WOK w) {σ : Mem} {a : Nat} {x0 : Nat} (ha : isk w a 3) (hx0 : isk w x0 13) : JO w mu_X3_reduce vB σ [(0, .ref (adr w a)), (1, .ref (adr w x0))] [] 0 (f_X3_reduce σ a x0) some := by
  unfold f_X3_reduce
  refine jo_iconst (pc := 0) dX3_reduce_0 (ic_i_1) ?_
  refine jo_istore_n (pc := 1) (lv' := [(2, .int 1), (0, .ref (adr w a)), (1, .ref (adr w x0))]) dX3_reduce_1 rfl (ltb rfl) rfl ?_
  refine jo_iconst (pc := 2) dX3_reduce_2 (ic_i_0) ?_
  refine jo_istore_n (pc := 3) (lv' := [(3, .int 0), (2, .int 1), (0, .ref (adr w a)), (1, .ref (adr w x0))]) dX3_reduce_3 rfl (ltb rfl) rfl ?_
  refine jo_lv (lv' := [(0, .ref (adr w a)), (1, .ref (adr w x0)), (2, .int 1), (3, .int 0)]) [2, 3, 1, 0] rfl ?_
  refine jo_loop (X := (Bool × Mem)) (fun (z3 : (Mem × Int32 × Int32)) => z3.1) (fun (z3 : (Mem × Int32 × Int32)) => [(0, .ref (adr w a)), (1, .ref (adr w x0)), (2, .int z3.2.1), (3, .int z3.2.2)]) (body := (fun (z3 : (Mem × Int32 × Int32)) => l_X3_reduce_4 a x0 z3.1 z3.2.1 z3.2.2)) (fun F4_3 hF4_3 s => ?_) (σ, 1, 0)
  obtain ⟨σ1, i2, i3⟩ := s
  show JO w mu_X3_reduce vB σ1 [(0, .ref (adr w a)), (1, .ref (adr w x0)), (2, .int i2), (3, .int i3)] [] 4 (l_X3_reduce_4 a x0 σ1 i2 i3) _
  unfold l_X3_reduce_4
  refine jo_iload_n (pc := 4) 3 rfl dX3_reduce_4 rfl ?_
  refine jo_aload_n (pc := 5) 0 rfl dX3_reduce_5 rfl ?_
  refine jo_getf (pc := 6) ok_3_0 (ha) gw_378 dX3_reduce_6 (fun v4 => ?_)
  refine jo_icmp_ge (pc := 9) dX3_reduce_9 (tgt := 42) rfl ?_ ?_
  · refine jo_iload_n (pc := 42) 2 rfl dX3_reduce_42 rfl ?_
    refine jo_rB (fun b5 => ?_)
    exact jo_breturn (pc := 43) (b := b5) rfl rfl dX3_reduce_43
  · refine jo_aload_n (pc := 12) 0 rfl dX3_reduce_12 rfl ?_
    refine jo_aload_n (pc := 13) 1 rfl dX3_reduce_13 rfl ?_
    refine jo_iload_n (pc := 14) 3 rfl dX3_reduce_14 rfl ?_
    refine jo_cV_V_i (pc := 15) (μ' := mu_X3_takeStep) (fx := f_X3_takeStep σ1 a x0 i3) (As := [.ref (adr w x0), .int i3]) (c_X3_takeStep hw (ha) (hx0)) (ok_X3_takeStep) (ltb rfl) (all3 gw_1164 gw_1166 gw_52) (ha) (by decide) (q := (RX3, TX3, 3)) rfl rfl rfl rfl (Nat.le_of_ble_eq_true rfl) dX3_reduce_15 (fun σ6 => ?_)
    refine jo_iload_n (pc := 18) 2 rfl dX3_reduce_18 rfl ?_
    refine jo_join1 (S := Bool) (fun (z7 : Bool) => σ6) (fun (z7 : Bool) => [(0, .ref (adr w a)), (1, .ref (adr w x0)), (3, .int i3)]) (fun (z7 : Bool) => [.int (b2i z7)]) 35 ?_ (fun h35_7 => ?_)
    · intro b7
      show JO w mu_X3_reduce vB σ6 [(0, .ref (adr w a)), (1, .ref (adr w x0)), (3, .int i3)] [.int (b2i b7)] 35 (j_X3_reduce_35 i3 σ6 b7) _
      unfold j_X3_reduce_35
      refine jo_istore_n (pc := 35) (lv' := [(2, .int (b2i b7)), (0, .ref (adr w a)), (1, .ref (adr w x0)), (3, .int i3)]) dX3_reduce_35 rfl (ltb rfl) rfl ?_
      refine jo_iinc (pc := 36) (lv' := [(3, .int (i3 + 1)), (2, .int (b2i b7)), (0, .ref (adr w a)), (1, .ref (adr w x0))]) 3 rfl dX3_reduce_36 (congrArg (fun z => i3 + z) (ic_i_1)) (ltb rfl) rfl ?_
      refine jo_goto (pc := 39) dX3_reduce_39 (tgt := 4) rfl ?_
      refine jo_lv (lv' := [(0, .ref (adr w a)), (1, .ref (adr w x0)), (2, .int (b2i b7)), (3, .int (i3 + 1))]) [2, 3, 1, 0] rfl ?_
      exact jo_leaf (by rfl) (hF4_3 (σ6, b2i b7, i3 + 1))
    · refine jo_joinS (S := Unit) (fun (z7 : Unit) => σ6) (fun (z7 : Unit) => [(0, .ref (adr w a)), (1, .ref (adr w x0)), (3, .int i3)]) (fun (z7 : Unit) => []) 34 ?_ (fun h34_7 => ?_)
      · intro _
        show JO w mu_X3_reduce vB σ6 [(0, .ref (adr w a)), (1, .ref (adr w x0)), (3, .int i3)] [] 34 (j_X3_reduce_34) _
        unfold j_X3_reduce_34
        refine jo_iconst (pc := 34) dX3_reduce_34 (ic_i_0) ?_
        exact jo_leaf (by rfl) (h35_7 false)
      · refine jo_if_eq (pc := 19) dX3_reduce_19 (tgt := 34) rfl ?_ ?_
        · refine jo_lv (lv' := [(0, .ref (adr w a)), (1, .ref (adr w x0)), (3, .int i3)]) [0, 1, 3] rfl ?_
          exact jo_leaf (by rfl) (h34_7 ())
        · refine jo_aload_n (pc := 22) 1 rfl dX3_reduce_22 rfl ?_
          refine jo_iload_n (pc := 23) 3 rfl dX3_reduce_23 rfl ?_
          refine jo_lald (pc := 24) (hx0) dX3_reduce_24 (fun v8 => ?_)
          refine jo_lconst (pc := 25) dX3_reduce_25 (ic_l_0) ?_
          refine jo_lcmp_ne (pc := 26) dX3_reduce_26 dX3_reduce_27 (tgt := 34) rfl ?_ ?_
          · refine jo_lv (lv' := [(0, .ref (adr w a)), (1, .ref (adr w x0)), (3, .int i3)]) [0, 1, 3] rfl ?_
            exact jo_leaf (by rfl) (h34_7 ())
          · refine jo_iconst (pc := 30) dX3_reduce_30 (ic_i_1) ?_
            refine jo_goto (pc := 31) dX3_reduce_31 (tgt := 35) rfl ?_
            refine jo_lv (lv' := [(0, .ref (adr w a)), (1, .ref (adr w x0)), (3, .int i3)]) [0, 1, 3] rfl ?_
            exact jo_leaf (by rfl) (h35_7 true)
theorem c_X3_reduce {w : Wd} (hw : WOK w) {σ : Mem} {a : Nat} {x0 : Nat} (ha : isk w a 3) (hx0 : isk w x0 13) : ∀ r σ', f_X3_reduce σ a x0 = some (r, σ') → MC w mu_X3_reduce (vB r) [.ref (adr w a), .ref (adr w x0)] σ σ' := mc_of ok_X3_reduce rfl (Nat.le_of_ble_eq_true rfl) (t_X3_reduce hw ha hx0)
abbrev mu_X6_isSame : MD := (yX6_isSame, cX6_isSame, 3, some .boolean, 0)
theorem ok_X6_isSame : MOK mu_X6_isSame 1 := ⟨gw_540, gw_160, (by decide +kernel : plainFor yX6_isSame = true), ⟨(by decide +kernel : yX6_isSame.cls ≠ "java/lang/invoke/MethodHandle"), (by decide +kernel : yX6_isSame.cls ≠ "java/lang/invoke/VarHandle"), (by decide +kernel : (parseMethodDescriptor yX6_isSame.desc).map (fun d => d.parameters.length) = some 1)⟩, Nat.le_of_ble_eq_true rfl⟩
noncomputable def l_X6_isSame_49 (σ : Mem) (a : Nat) (x0 : Nat) (i3 : Int32) : Option (Int32 ⊕ Bool) :=
  if (Int32.ofNat (ln (rf a 2))) ≤ i3 then (some (Sum.inr true)) else (gI σ (rf a 2) i3 (fun (v4 : Int32) => gI σ (rf x0 2) i3 (fun (v5 : Int32) => if v4 = v5 then (some (Sum.inl (i3 + 1))) else (some (Sum.inr false)))))
noncomputable def j_X6_isSame_47 (σ : Mem) (a : Nat) (x0 : Nat) : Option Bool :=
  loopO (fun (z3 : Int32) => l_X6_isSame_49 σ a x0 z3) 0
noncomputable def l_X6_isSame_15 (σ : Mem) (a : Nat) (x0 : Nat) (i6 : Int32) : Option (Int32 ⊕ (Unit ⊕ Bool)) :=
  if (Int32.ofNat (ln (rf a 1))) ≤ i6 then (some (Sum.inr (Sum.inl ()))) else (gI σ (rf a 1) i6 (fun (v7 : Int32) => gI σ (rf x0 1) i6 (fun (v8 : Int32) => if v7 = v8 then (some (Sum.inl (i6 + 1))) else (some (Sum.inr (Sum.inr false))))))
noncomputable def f_X6_isSame (σ : Mem) (a : Nat) (x0 : Nat) : Option Bool :=
  gF σ a 0 (fun (v1 : Int32) => gF σ x0 0 (fun (v2 : Int32) => if v1 = v2 then ((loopO (fun (z6 : Int32) => l_X6_isSame_15 σ a x0 z6) 0 : Option (Unit ⊕ Bool)).bind (Sum.elim (fun (z2 : Unit) => j_X6_isSame_47 σ a x0) some)) else (some false)))
theorem t_X6_isSame {w : Wd} (hw : WOK w) {σ : Mem} {a : Nat} {x0 : Nat} (ha : isk w a 6) (hx0 : isk w x0 6) : JO w mu_X6_isSame vB σ [(0, .ref (adr w a)), (1, .ref (adr w x0))] [] 0 (f_X6_isSame σ a x0) (fun z => some (z, σ)) := by
  unfold f_X6_isSame
  refine jo_aload_n (pc := 0) 0 rfl dX6_isSame_0 rfl ?_
  refine jo_getf (pc := 1) ok_6_0 (ha) gw_193 dX6_isSame_1 (fun v1 => ?_)
  refine jo_aload_n (pc := 4) 1 rfl dX6_isSame_4 rfl ?_
  refine jo_getf (pc := 5) ok_6_0 (hx0) gw_193 dX6_isSame_5 (fun v2 => ?_)
  refine jo_icmp_eq (pc := 8) dX6_isSame_8 (tgt := 13) rfl ?_ ?_
  · refine jo_iconst (pc := 13) dX6_isSame_13 (ic_i_0) ?_
    refine jo_istore_n (pc := 14) (lv' := [(2, .int 0), (0, .ref (adr w a)), (1, .ref (adr w x0))]) dX6_isSame_14 rfl (ltb rfl) rfl ?_
    refine jo_joinS (S := Unit) (fun (z2 : Unit) => σ) (fun (z2 : Unit) => [(0, .ref (adr w a)), (1, .ref (adr w x0))]) (fun (z2 : Unit) => []) 47 ?_ (fun h47_2 => ?_)
    · intro _
      show JO w mu_X6_isSame vB σ [(0, .ref (adr w a)), (1, .ref (adr w x0))] [] 47 (j_X6_isSame_47 σ a x0) _
      unfold j_X6_isSame_47
      refine jo_iconst (pc := 47) dX6_isSame_47 (ic_i_0) ?_
      refine jo_istore_n (pc := 48) (lv' := [(2, .int 0), (0, .ref (adr w a)), (1, .ref (adr w x0))]) dX6_isSame_48 rfl (ltb rfl) rfl ?_
      refine jo_lv (lv' := [(0, .ref (adr w a)), (1, .ref (adr w x0)), (2, .int 0)]) [1, 2, 0] rfl ?_
      refine jo_loop (X := Bool) (fun (z3 : Int32) => σ) (fun (z3 : Int32) => [(0, .ref (adr w a)), (1, .ref (adr w x0)), (2, .int z3)]) (body := (fun (z3 : Int32) => l_X6_isSame_49 σ a x0 z3)) (fun F49_3 hF49_3 s => ?_) 0
      revert s; intro i3
      show JO w mu_X6_isSame vB σ [(0, .ref (adr w a)), (1, .ref (adr w x0)), (2, .int i3)] [] 49 (l_X6_isSame_49 σ a x0 i3) _
      unfold l_X6_isSame_49
      refine jo_iload_n (pc := 49) 2 rfl dX6_isSame_49 rfl ?_
      refine jo_aload_n (pc := 50) 0 rfl dX6_isSame_50 rfl ?_
      refine jo_getr (pc := 51) ok_6_2 (ha) gw_206 dX6_isSame_51 ?_
      refine jo_alenI (pc := 54) (wf_6_2 hw (ha)) (by decide) (t := 0) rfl dX6_isSame_54 ?_
      refine jo_icmp_ge (pc := 55) dX6_isSame_55 (tgt := 81) rfl ?_ ?_
      · refine jo_iconst (pc := 81) dX6_isSame_81 (ic_i_1) ?_
        exact jo_breturn (pc := 82) (b := true) rfl rfl dX6_isSame_82
      · refine jo_aload_n (pc := 58) 0 rfl dX6_isSame_58 rfl ?_
        refine jo_getr (pc := 59) ok_6_2 (ha) gw_206 dX6_isSame_59 ?_
        refine jo_iload_n (pc := 62) 2 rfl dX6_isSame_62 rfl ?_
        refine jo_iald (pc := 63) (wf_6_2 hw (ha)) dX6_isSame_63 (fun v4 => ?_)
        refine jo_aload_n (pc := 64) 1 rfl dX6_isSame_64 rfl ?_
        refine jo_getr (pc := 65) ok_6_2 (hx0) gw_206 dX6_isSame_65 ?_
        refine jo_iload_n (pc := 68) 2 rfl dX6_isSame_68 rfl ?_
        refine jo_iald (pc := 69) (wf_6_2 hw (hx0)) dX6_isSame_69 (fun v5 => ?_)
        refine jo_icmp_eq (pc := 70) dX6_isSame_70 (tgt := 75) rfl ?_ ?_
        · refine jo_iinc (pc := 75) (lv' := [(2, .int (i3 + 1)), (0, .ref (adr w a)), (1, .ref (adr w x0))]) 2 rfl dX6_isSame_75 (congrArg (fun z => i3 + z) (ic_i_1)) (ltb rfl) rfl ?_
          refine jo_goto (pc := 78) dX6_isSame_78 (tgt := 49) rfl ?_
          refine jo_lv (lv' := [(0, .ref (adr w a)), (1, .ref (adr w x0)), (2, .int (i3 + 1))]) [1, 2, 0] rfl ?_
          exact jo_leaf (by rfl) (hF49_3 (i3 + 1))
        · refine jo_iconst (pc := 73) dX6_isSame_73 (ic_i_0) ?_
          exact jo_breturn (pc := 74) (b := false) rfl rfl dX6_isSame_74
    · refine jo_lv (lv' := [(0, .ref (adr w a)), (1, .ref (adr w x0)), (2, .int 0)]) [1, 2, 0] rfl ?_
      refine jo_loop (X := Unit ⊕ Bool) (fun (z6 : Int32) => σ) (fun (z6 : Int32) => [(0, .ref (adr w a)), (1, .ref (adr w x0)), (2, .int z6)]) (body := (fun (z6 : Int32) => l_X6_isSame_15 σ a x0 z6)) (fun F15_6 hF15_6 s => ?_) 0
      revert s; intro i6
      show JO w mu_X6_isSame vB σ [(0, .ref (adr w a)), (1, .ref (adr w x0)), (2, .int i6)] [] 15 (l_X6_isSame_15 σ a x0 i6) _
      unfold l_X6_isSame_15
      refine jo_iload_n (pc := 15) 2 rfl dX6_isSame_15 rfl ?_
      refine jo_aload_n (pc := 16) 0 rfl dX6_isSame_16 rfl ?_
      refine jo_getr (pc := 17) ok_6_1 (ha) gw_200 dX6_isSame_17 ?_
      refine jo_alenI (pc := 20) (wf_6_1 hw (ha)) (by decide) (t := 0) rfl dX6_isSame_20 ?_
      refine jo_icmp_ge (pc := 21) dX6_isSame_21 (tgt := 47) rfl ?_ ?_
      · refine jo_lv (lv' := [(0, .ref (adr w a)), (1, .ref (adr w x0))]) [0, 1] rfl ?_
        exact jo_leaf (by rfl) (h47_2 ())
      · refine jo_aload_n (pc := 24) 0 rfl dX6_isSame_24 rfl ?_
        refine jo_getr (pc := 25) ok_6_1 (ha) gw_200 dX6_isSame_25 ?_
        refine jo_iload_n (pc := 28) 2 rfl dX6_isSame_28 rfl ?_
        refine jo_iald (pc := 29) (wf_6_1 hw (ha)) dX6_isSame_29 (fun v7 => ?_)
        refine jo_aload_n (pc := 30) 1 rfl dX6_isSame_30 rfl ?_
        refine jo_getr (pc := 31) ok_6_1 (hx0) gw_200 dX6_isSame_31 ?_
        refine jo_iload_n (pc := 34) 2 rfl dX6_isSame_34 rfl ?_
        refine jo_iald (pc := 35) (wf_6_1 hw (hx0)) dX6_isSame_35 (fun v8 => ?_)
        refine jo_icmp_eq (pc := 36) dX6_isSame_36 (tgt := 41) rfl ?_ ?_
        · refine jo_iinc (pc := 41) (lv' := [(2, .int (i6 + 1)), (0, .ref (adr w a)), (1, .ref (adr w x0))]) 2 rfl dX6_isSame_41 (congrArg (fun z => i6 + z) (ic_i_1)) (ltb rfl) rfl ?_
          refine jo_goto (pc := 44) dX6_isSame_44 (tgt := 15) rfl ?_
          refine jo_lv (lv' := [(0, .ref (adr w a)), (1, .ref (adr w x0)), (2, .int (i6 + 1))]) [1, 2, 0] rfl ?_
          exact jo_leaf (by rfl) (hF15_6 (i6 + 1))
        · refine jo_iconst (pc := 39) dX6_isSame_39 (ic_i_0) ?_
          exact jo_breturn (pc := 40) (b := false) rfl rfl dX6_isSame_40
  · refine jo_iconst (pc := 11) dX6_isSame_11 (ic_i_0) ?_
    exact jo_breturn (pc := 12) (b := false) rfl rfl dX6_isSame_12
theorem c_X6_isSame {w : Wd} (hw : WOK w) {σ : Mem} {a : Nat} {x0 : Nat} (ha : isk w a 6) (hx0 : isk w x0 6) : ∀ r, f_X6_isSame σ a x0 = some r → MC w mu_X6_isSame (vB r) [.ref (adr w a), .ref (adr w x0)] σ σ := mc_ofP ok_X6_isSame rfl (Nat.le_of_ble_eq_true rfl) (t_X6_isSame hw ha hx0)
abbrev mu_X6_takeAll : MD := (yX6_takeAll, cX6_takeAll, 2, none, 1)
theorem ok_X6_takeAll : MOK mu_X6_takeAll 1 := ⟨gw_544, gw_160, (by decide +kernel : plainFor yX6_takeAll = true), ⟨(by decide +kernel : yX6_takeAll.cls ≠ "java/lang/invoke/MethodHandle"), (by decide +kernel : yX6_takeAll.cls ≠ "java/lang/invoke/VarHandle"), (by decide +kernel : (parseMethodDescriptor yX6_takeAll.desc).map (fun d => d.parameters.length) = some 1)⟩, Nat.le_of_ble_eq_true rfl⟩
noncomputable def f_X6_takeAll (σ : Mem) (a : Nat) (x0 : Nat) : Option Mem :=
  gF σ x0 0 (fun (v1 : Int32) => pF σ a 0 v1 (fun (σ2 : Mem) => cI σ2 (rf x0 1) 0 (rf a 1) 0 (Int32.ofNat (ln (rf a 1))) (fun (σ3 : Mem) => cI σ3 (rf x0 2) 0 (rf a 2) 0 (Int32.ofNat (ln (rf a 2))) (fun (σ4 : Mem) => some σ4))))
theorem t_X6_takeAll {w : Wd} (hw : WOK w) {σ : Mem} {a : Nat} {x0 : Nat} (ha : isk w a 6) (hx0 : isk w x0 6) : JO w mu_X6_takeAll vV σ [(0, .ref (adr w a)), (1, .ref (adr w x0))] [] 0 (f_X6_takeAll σ a x0) (fun z => some ((), z)) := by
  unfold f_X6_takeAll
  refine jo_aload_n (pc := 0) 0 rfl dX6_takeAll_0 rfl ?_
  refine jo_aload_n (pc := 1) 1 rfl dX6_takeAll_1 rfl ?_
  refine jo_getf (pc := 2) ok_6_0 (hx0) gw_193 dX6_takeAll_2 (fun v1 => ?_)
  refine jo_putf (pc := 5) ok_6_0 okp_6_0 (ha) gw_193 dX6_takeAll_5 (fun σ2 => ?_)
  refine jo_aload_n (pc := 8) 1 rfl dX6_takeAll_8 rfl ?_
  refine jo_getr (pc := 9) ok_6_1 (hx0) gw_200 dX6_takeAll_9 ?_
  refine jo_iconst (pc := 12) dX6_takeAll_12 (ic_i_0) ?_
  refine jo_aload_n (pc := 13) 0 rfl dX6_takeAll_13 rfl ?_
  refine jo_getr (pc := 14) ok_6_1 (ha) gw_200 dX6_takeAll_14 ?_
  refine jo_iconst (pc := 17) dX6_takeAll_17 (ic_i_0) ?_
  refine jo_aload_n (pc := 18) 0 rfl dX6_takeAll_18 rfl ?_
  refine jo_getr (pc := 19) ok_6_1 (ha) gw_200 dX6_takeAll_19 ?_
  refine jo_alenI (pc := 22) (wf_6_1 hw (ha)) (by decide) (t := 0) rfl dX6_takeAll_22 ?_
  refine jo_acI (pc := 23) (wf_6_1 hw (hx0)) (wf_6_1 hw (ha)) (all4 gw_545 gw_547 gw_546 gw_170) (ltb rfl) (Nat.le_of_ble_eq_true rfl) dX6_takeAll_23 (fun σ3 => ?_)
  refine jo_aload_n (pc := 26) 1 rfl dX6_takeAll_26 rfl ?_
  refine jo_getr (pc := 27) ok_6_2 (hx0) gw_206 dX6_takeAll_27 ?_
  refine jo_iconst (pc := 30) dX6_takeAll_30 (ic_i_0) ?_
  refine jo_aload_n (pc := 31) 0 rfl dX6_takeAll_31 rfl ?_
  refine jo_getr (pc := 32) ok_6_2 (ha) gw_206 dX6_takeAll_32 ?_
  refine jo_iconst (pc := 35) dX6_takeAll_35 (ic_i_0) ?_
  refine jo_aload_n (pc := 36) 0 rfl dX6_takeAll_36 rfl ?_
  refine jo_getr (pc := 37) ok_6_2 (ha) gw_206 dX6_takeAll_37 ?_
  refine jo_alenI (pc := 40) (wf_6_2 hw (ha)) (by decide) (t := 0) rfl dX6_takeAll_40 ?_
  refine jo_acI (pc := 41) (wf_6_2 hw (hx0)) (wf_6_2 hw (ha)) (all4 gw_545 gw_547 gw_546 gw_170) (ltb rfl) (Nat.le_of_ble_eq_true rfl) dX6_takeAll_41 (fun σ4 => ?_)
  exact jo_return (pc := 44) rfl rfl dX6_takeAll_44
theorem c_X6_takeAll {w : Wd} (hw : WOK w) {σ : Mem} {a : Nat} {x0 : Nat} (ha : isk w a 6) (hx0 : isk w x0 6) : ∀ σ', f_X6_takeAll σ a x0 = some σ' → MC w mu_X6_takeAll none [.ref (adr w a), .ref (adr w x0)] σ σ' := mc_ofV ok_X6_takeAll rfl (Nat.le_of_ble_eq_true rfl) (t_X6_takeAll hw ha hx0)
abbrev mu_X4_isOverlapAlike : MD := (yX4_isOverlapAlike, cX4_isOverlapAlike, 5, some .boolean, 4)
theorem ok_X4_isOverlapAlike : MOK mu_X4_isOverlapAlike 3 := ⟨gw_555, gw_162, (by decide +kernel : plainFor yX4_isOverlapAlike = true), ⟨(by decide +kernel : yX4_isOverlapAlike.cls ≠ "java/lang/invoke/MethodHandle"), (by decide +kernel : yX4_isOverlapAlike.cls ≠ "java/lang/invoke/VarHandle"), (by decide +kernel : (parseMethodDescriptor yX4_isOverlapAlike.desc).map (fun d => d.parameters.length) = some 3)⟩, Nat.le_of_ble_eq_true rfl⟩
noncomputable def l_X4_isOverlapAlike_139 (σ15 : Mem) (i16 : Int32) : Option (Int32 ⊕ (Bool × Mem)) :=
  if 6 ≤ i16 then (some (Sum.inr (true, σ15))) else (gI σ15 47 i16 (fun (v17 : Int32) => gI σ15 39 i16 (fun (v18 : Int32) => if v17 = v18 then (some (Sum.inl (i16 + 1))) else (some (Sum.inr (false, σ15))))))
noncomputable def f_X4_isOverlapAlike (σ : Mem) (x0 : Int32) (x1 : Int32) (x2 : Int32) : Option (Bool × Mem) :=
  (f_X2_begin σ).bind (fun (σ1 : Mem) => (f_X2_add σ1 x1).bind (fun (σ2 : Mem) => (f_X2_add σ2 x0).bind (fun (σ3 : Mem) => (f_X2_addTails σ3 41 x0 x1).bind (fun (σ4 : Mem) => (f_X2_add σ4 x2).bind (fun (σ5 : Mem) => bq (f_X2_run σ5 41 1000) (fun (v6 : Int32) (σ7 : Mem) => cI σ7 39 0 47 0 6 (fun (σ8 : Mem) => (f_X2_begin σ8).bind (fun (σ9 : Mem) => (f_X2_add σ9 x0).bind (fun (σ10 : Mem) => (f_X2_add σ10 x2).bind (fun (σ11 : Mem) => (f_X2_add σ11 x1).bind (fun (σ12 : Mem) => (f_X2_addTails σ12 41 x1 x2).bind (fun (σ13 : Mem) => bq (f_X2_run σ13 41 1000) (fun (v14 : Int32) (σ15 : Mem) => loopO (fun (z16 : Int32) => l_X4_isOverlapAlike_139 σ15 z16) 0)))))))))))))
theorem t_X4_isOverlapAlike {w : Wd} (hw : WOK w) {σ : Mem} {x0 : Int32} {x1 : Int32} {x2 : Int32} : JO w mu_X4_isOverlapAlike vB σ [(0, .ref (adr w 40)), (1, .int x0), (2, .int x1), (3, .int x2)] [] 0 (f_X4_isOverlapAlike σ x0 x1 x2) some := by
  unfold f_X4_isOverlapAlike
  refine jo_aload_n (pc := 0) 0 rfl dX4_isOverlapAlike_0 rfl ?_
  refine jo_getrE (pc := 1) ok_4_1 (ik_40 hw) rf_40_1 gw_302 dX4_isOverlapAlike_1 ?_
  refine jo_cV_V_i (pc := 4) (μ' := mu_X2_begin) (fx := f_X2_begin σ) (As := []) (c_X2_begin hw) (ok_X2_begin) (ltb rfl) (all3 gw_556 gw_557 gw_558) (ik_35 hw) (by decide) (q := (RX2, TX2, 7)) rfl rfl rfl rfl (Nat.le_of_ble_eq_true rfl) dX4_isOverlapAlike_4 (fun σ1 => ?_)
  refine jo_aload_n (pc := 7) 0 rfl dX4_isOverlapAlike_7 rfl ?_
  refine jo_getrE (pc := 8) ok_4_1 (ik_40 hw) rf_40_1 gw_302 dX4_isOverlapAlike_8 ?_
  refine jo_iload_n (pc := 11) 2 rfl dX4_isOverlapAlike_11 rfl ?_
  refine jo_cV_V_i (pc := 12) (μ' := mu_X2_add) (fx := f_X2_add σ1 x1) (As := [.int x1]) (c_X2_add hw) (ok_X2_add) (ltb rfl) (all3 gw_560 gw_561 gw_562) (ik_35 hw) (by decide) (q := (RX2, TX2, 7)) rfl rfl rfl rfl (Nat.le_of_ble_eq_true rfl) dX4_isOverlapAlike_12 (fun σ2 => ?_)
  refine jo_aload_n (pc := 15) 0 rfl dX4_isOverlapAlike_15 rfl ?_
  refine jo_getrE (pc := 16) ok_4_1 (ik_40 hw) rf_40_1 gw_302 dX4_isOverlapAlike_16 ?_
  refine jo_iload_n (pc := 19) 1 rfl dX4_isOverlapAlike_19 rfl ?_
  refine jo_cV_V_i (pc := 20) (μ' := mu_X2_add) (fx := f_X2_add σ2 x0) (As := [.int x0]) (c_X2_add hw) (ok_X2_add) (ltb rfl) (all3 gw_560 gw_561 gw_562) (ik_35 hw) (by decide) (q := (RX2, TX2, 7)) rfl rfl rfl rfl (Nat.le_of_ble_eq_true rfl) dX4_isOverlapAlike_20 (fun σ3 => ?_)
  refine jo_aload_n (pc := 23) 0 rfl dX4_isOverlapAlike_23 rfl ?_
  refine jo_getrE (pc := 24) ok_4_1 (ik_40 hw) rf_40_1 gw_302 dX4_isOverlapAlike_24 ?_
  refine jo_aload_n (pc := 27) 0 rfl dX4_isOverlapAlike_27 rfl ?_
  refine jo_getrE (pc := 28) ok_4_0 (ik_40 hw) rf_40_0 gw_299 dX4_isOverlapAlike_28 ?_
  refine jo_iload_n (pc := 31) 1 rfl dX4_isOverlapAlike_31 rfl ?_
  refine jo_iload_n (pc := 32) 2 rfl dX4_isOverlapAlike_32 rfl ?_
  refine jo_cV_V_i (pc := 33) (μ' := mu_X2_addTails) (fx := f_X2_addTails σ3 41 x0 x1) (As := [.ref (adr w 41), .int x0, .int x1]) (c_X2_addTails hw (ik_41 hw)) (ok_X2_addTails) (ltb rfl) (all3 gw_564 gw_565 gw_566) (ik_35 hw) (by decide) (q := (RX2, TX2, 7)) rfl rfl rfl rfl (Nat.le_of_ble_eq_true rfl) dX4_isOverlapAlike_33 (fun σ4 => ?_)
  refine jo_aload_n (pc := 36) 0 rfl dX4_isOverlapAlike_36 rfl ?_
  refine jo_getrE (pc := 37) ok_4_1 (ik_40 hw) rf_40_1 gw_302 dX4_isOverlapAlike_37 ?_
  refine jo_iload_n (pc := 40) 3 rfl dX4_isOverlapAlike_40 rfl ?_
  refine jo_cV_V_i (pc := 41) (μ' := mu_X2_add) (fx := f_X2_add σ4 x2) (As := [.int x2]) (c_X2_add hw) (ok_X2_add) (ltb rfl) (all3 gw_560 gw_561 gw_562) (ik_35 hw) (by decide) (q := (RX2, TX2, 7)) rfl rfl rfl rfl (Nat.le_of_ble_eq_true rfl) dX4_isOverlapAlike_41 (fun σ5 => ?_)
  refine jo_aload_n (pc := 44) 0 rfl dX4_isOverlapAlike_44 rfl ?_
  refine jo_getrE (pc := 45) ok_4_1 (ik_40 hw) rf_40_1 gw_302 dX4_isOverlapAlike_45 ?_
  refine jo_aload_n (pc := 48) 0 rfl dX4_isOverlapAlike_48 rfl ?_
  refine jo_getrE (pc := 49) ok_4_0 (ik_40 hw) rf_40_0 gw_299 dX4_isOverlapAlike_49 ?_
  refine jo_sipush (pc := 52) dX4_isOverlapAlike_52 (ic_s_1000) ?_
  refine jo_cV_I_i (pc := 55) (μ' := mu_X2_run) (fx := f_X2_run σ5 41 1000) (As := [.ref (adr w 41), .int 1000]) (c_X2_run hw (ik_41 hw)) (ok_X2_run) (ltb rfl) (all3 gw_573 gw_574 gw_575) (ik_35 hw) (by decide) (q := (RX2, TX2, 7)) rfl rfl rfl rfl (Nat.le_of_ble_eq_true rfl) dX4_isOverlapAlike_55 (fun v6 σ7 => ?_)
  refine jo_pop (pc := 58) dX4_isOverlapAlike_58 rfl ?_
  refine jo_aload_n (pc := 59) 0 rfl dX4_isOverlapAlike_59 rfl ?_
  refine jo_getrE (pc := 60) ok_4_1 (ik_40 hw) rf_40_1 gw_302 dX4_isOverlapAlike_60 ?_
  refine jo_getrE (pc := 63) ok_2_6 (ik_35 hw) rf_35_6 gw_247 dX4_isOverlapAlike_63 ?_
  refine jo_iconst (pc := 66) dX4_isOverlapAlike_66 (ic_i_0) ?_
  refine jo_aload_n (pc := 67) 0 rfl dX4_isOverlapAlike_67 rfl ?_
  refine jo_getrE (pc := 68) ok_4_8 (ik_40 hw) rf_40_8 gw_314 dX4_isOverlapAlike_68 ?_
  refine jo_iconst (pc := 71) dX4_isOverlapAlike_71 (ic_i_0) ?_
  refine jo_bipush (pc := 72) dX4_isOverlapAlike_72 (ic_b_6) ?_
  refine jo_acI (pc := 74) (ik_39 hw) (ik_47 hw) (all4 gw_595 gw_547 gw_546 gw_170) (ltb rfl) (Nat.le_of_ble_eq_true rfl) dX4_isOverlapAlike_74 (fun σ8 => ?_)
  refine jo_aload_n (pc := 77) 0 rfl dX4_isOverlapAlike_77 rfl ?_
  refine jo_getrE (pc := 78) ok_4_1 (ik_40 hw) rf_40_1 gw_302 dX4_isOverlapAlike_78 ?_
  refine jo_cV_V_i (pc := 81) (μ' := mu_X2_begin) (fx := f_X2_begin σ8) (As := []) (c_X2_begin hw) (ok_X2_begin) (ltb rfl) (all3 gw_556 gw_557 gw_558) (ik_35 hw) (by decide) (q := (RX2, TX2, 7)) rfl rfl rfl rfl (Nat.le_of_ble_eq_true rfl) dX4_isOverlapAlike_81 (fun σ9 => ?_)
  refine jo_aload_n (pc := 84) 0 rfl dX4_isOverlapAlike_84 rfl ?_
  refine jo_getrE (pc := 85) ok_4_1 (ik_40 hw) rf_40_1 gw_302 dX4_isOverlapAlike_85 ?_
  refine jo_iload_n (pc := 88) 1 rfl dX4_isOverlapAlike_88 rfl ?_
  refine jo_cV_V_i (pc := 89) (μ' := mu_X2_add) (fx := f_X2_add σ9 x0) (As := [.int x0]) (c_X2_add hw) (ok_X2_add) (ltb rfl) (all3 gw_560 gw_561 gw_562) (ik_35 hw) (by decide) (q := (RX2, TX2, 7)) rfl rfl rfl rfl (Nat.le_of_ble_eq_true rfl) dX4_isOverlapAlike_89 (fun σ10 => ?_)
  refine jo_aload_n (pc := 92) 0 rfl dX4_isOverlapAlike_92 rfl ?_
  refine jo_getrE (pc := 93) ok_4_1 (ik_40 hw) rf_40_1 gw_302 dX4_isOverlapAlike_93 ?_
  refine jo_iload_n (pc := 96) 3 rfl dX4_isOverlapAlike_96 rfl ?_
  refine jo_cV_V_i (pc := 97) (μ' := mu_X2_add) (fx := f_X2_add σ10 x2) (As := [.int x2]) (c_X2_add hw) (ok_X2_add) (ltb rfl) (all3 gw_560 gw_561 gw_562) (ik_35 hw) (by decide) (q := (RX2, TX2, 7)) rfl rfl rfl rfl (Nat.le_of_ble_eq_true rfl) dX4_isOverlapAlike_97 (fun σ11 => ?_)
  refine jo_aload_n (pc := 100) 0 rfl dX4_isOverlapAlike_100 rfl ?_
  refine jo_getrE (pc := 101) ok_4_1 (ik_40 hw) rf_40_1 gw_302 dX4_isOverlapAlike_101 ?_
  refine jo_iload_n (pc := 104) 2 rfl dX4_isOverlapAlike_104 rfl ?_
  refine jo_cV_V_i (pc := 105) (μ' := mu_X2_add) (fx := f_X2_add σ11 x1) (As := [.int x1]) (c_X2_add hw) (ok_X2_add) (ltb rfl) (all3 gw_560 gw_561 gw_562) (ik_35 hw) (by decide) (q := (RX2, TX2, 7)) rfl rfl rfl rfl (Nat.le_of_ble_eq_true rfl) dX4_isOverlapAlike_105 (fun σ12 => ?_)
  refine jo_aload_n (pc := 108) 0 rfl dX4_isOverlapAlike_108 rfl ?_
  refine jo_getrE (pc := 109) ok_4_1 (ik_40 hw) rf_40_1 gw_302 dX4_isOverlapAlike_109 ?_
  refine jo_aload_n (pc := 112) 0 rfl dX4_isOverlapAlike_112 rfl ?_
  refine jo_getrE (pc := 113) ok_4_0 (ik_40 hw) rf_40_0 gw_299 dX4_isOverlapAlike_113 ?_
  refine jo_iload_n (pc := 116) 2 rfl dX4_isOverlapAlike_116 rfl ?_
  refine jo_iload_n (pc := 117) 3 rfl dX4_isOverlapAlike_117 rfl ?_
  refine jo_cV_V_i (pc := 118) (μ' := mu_X2_addTails) (fx := f_X2_addTails σ12 41 x1 x2) (As := [.ref (adr w 41), .int x1, .int x2]) (c_X2_addTails hw (ik_41 hw)) (ok_X2_addTails) (ltb rfl) (all3 gw_564 gw_565 gw_566) (ik_35 hw) (by decide) (q := (RX2, TX2, 7)) rfl rfl rfl rfl (Nat.le_of_ble_eq_true rfl) dX4_isOverlapAlike_118 (fun σ13 => ?_)
  refine jo_aload_n (pc := 121) 0 rfl dX4_isOverlapAlike_121 rfl ?_
  refine jo_getrE (pc := 122) ok_4_1 (ik_40 hw) rf_40_1 gw_302 dX4_isOverlapAlike_122 ?_
  refine jo_aload_n (pc := 125) 0 rfl dX4_isOverlapAlike_125 rfl ?_
  refine jo_getrE (pc := 126) ok_4_0 (ik_40 hw) rf_40_0 gw_299 dX4_isOverlapAlike_126 ?_
  refine jo_sipush (pc := 129) dX4_isOverlapAlike_129 (ic_s_1000) ?_
  refine jo_cV_I_i (pc := 132) (μ' := mu_X2_run) (fx := f_X2_run σ13 41 1000) (As := [.ref (adr w 41), .int 1000]) (c_X2_run hw (ik_41 hw)) (ok_X2_run) (ltb rfl) (all3 gw_573 gw_574 gw_575) (ik_35 hw) (by decide) (q := (RX2, TX2, 7)) rfl rfl rfl rfl (Nat.le_of_ble_eq_true rfl) dX4_isOverlapAlike_132 (fun v14 σ15 => ?_)
  refine jo_pop (pc := 135) dX4_isOverlapAlike_135 rfl ?_
  refine jo_iconst (pc := 136) dX4_isOverlapAlike_136 (ic_i_0) ?_
  refine jo_istore (pc := 137) (lv' := [(4, .int 0), (0, .ref (adr w 40)), (1, .int x0), (2, .int x1), (3, .int x2)]) dX4_isOverlapAlike_137 (ltb rfl) rfl ?_
  refine jo_lv (lv' := [(0, .ref (adr w 40)), (4, .int 0)]) [1, 0] rfl ?_
  refine jo_loop (X := (Bool × Mem)) (fun (z16 : Int32) => σ15) (fun (z16 : Int32) => [(0, .ref (adr w 40)), (4, .int z16)]) (body := (fun (z16 : Int32) => l_X4_isOverlapAlike_139 σ15 z16)) (fun F139_16 hF139_16 s => ?_) 0
  revert s; intro i16
  show JO w mu_X4_isOverlapAlike vB σ15 [(0, .ref (adr w 40)), (4, .int i16)] [] 139 (l_X4_isOverlapAlike_139 σ15 i16) _
  unfold l_X4_isOverlapAlike_139
  refine jo_iload (pc := 139) 1 rfl dX4_isOverlapAlike_139 ?_
  refine jo_bipush (pc := 141) dX4_isOverlapAlike_141 (ic_b_6) ?_
  refine jo_icmp_ge (pc := 143) dX4_isOverlapAlike_143 (tgt := 174) rfl ?_ ?_
  · refine jo_iconst (pc := 174) dX4_isOverlapAlike_174 (ic_i_1) ?_
    exact jo_breturn (pc := 175) (b := true) rfl rfl dX4_isOverlapAlike_175
  · refine jo_aload_n (pc := 146) 0 rfl dX4_isOverlapAlike_146 rfl ?_
    refine jo_getrE (pc := 147) ok_4_8 (ik_40 hw) rf_40_8 gw_314 dX4_isOverlapAlike_147 ?_
    refine jo_iload (pc := 150) 1 rfl dX4_isOverlapAlike_150 ?_
    refine jo_iald (pc := 152) (ik_47 hw) dX4_isOverlapAlike_152 (fun v17 => ?_)
    refine jo_aload_n (pc := 153) 0 rfl dX4_isOverlapAlike_153 rfl ?_
    refine jo_getrE (pc := 154) ok_4_1 (ik_40 hw) rf_40_1 gw_302 dX4_isOverlapAlike_154 ?_
    refine jo_getrE (pc := 157) ok_2_6 (ik_35 hw) rf_35_6 gw_247 dX4_isOverlapAlike_157 ?_
    refine jo_iload (pc := 160) 1 rfl dX4_isOverlapAlike_160 ?_
    refine jo_iald (pc := 162) (ik_39 hw) dX4_isOverlapAlike_162 (fun v18 => ?_)
    refine jo_icmp_eq (pc := 163) dX4_isOverlapAlike_163 (tgt := 168) rfl ?_ ?_
    · refine jo_iinc (pc := 168) (lv' := [(4, .int (i16 + 1)), (0, .ref (adr w 40))]) 1 rfl dX4_isOverlapAlike_168 (congrArg (fun z => i16 + z) (ic_i_1)) (ltb rfl) rfl ?_
      refine jo_goto (pc := 171) dX4_isOverlapAlike_171 (tgt := 139) rfl ?_
      refine jo_lv (lv' := [(0, .ref (adr w 40)), (4, .int (i16 + 1))]) [1, 0] rfl ?_
      exact jo_leaf (by rfl) (hF139_16 (i16 + 1))
    · refine jo_iconst (pc := 166) dX4_isOverlapAlike_166 (ic_i_0) ?_
      exact jo_breturn (pc := 167) (b := false) rfl rfl dX4_isOverlapAlike_167
theorem c_X4_isOverlapAlike {w : Wd} (hw : WOK w) {σ : Mem} {x0 : Int32} {x1 : Int32} {x2 : Int32} : ∀ r σ', f_X4_isOverlapAlike σ x0 x1 x2 = some (r, σ') → MC w mu_X4_isOverlapAlike (vB r) [.ref (adr w 40), .int x0, .int x1, .int x2] σ σ' := mc_of ok_X4_isOverlapAlike rfl (Nat.le_of_ble_eq_true rfl) (t_X4_isOverlapAlike hw)
abbrev mu_X4_areOverlapsAlike : MD := (yX4_areOverlapsAlike, cX4_areOverlapsAlike, 4, some .boolean, 5)
theorem ok_X4_areOverlapsAlike : MOK mu_X4_areOverlapsAlike 0 := ⟨gw_551, gw_162, (by decide +kernel : plainFor yX4_areOverlapsAlike = true), ⟨(by decide +kernel : yX4_areOverlapsAlike.cls ≠ "java/lang/invoke/MethodHandle"), (by decide +kernel : yX4_areOverlapsAlike.cls ≠ "java/lang/invoke/VarHandle"), (by decide +kernel : (parseMethodDescriptor yX4_areOverlapsAlike.desc).map (fun d => d.parameters.length) = some 0)⟩, Nat.le_of_ble_eq_true rfl⟩
noncomputable def j_X4_areOverlapsAlike_51 (i2 : Int32) (σ4 : Mem) : Option ((Mem × Int32) ⊕ (Bool × Mem)) :=
  some (Sum.inl (σ4, i2 + 1))
noncomputable def j_X4_areOverlapsAlike_45 (i6 : Int32) (σ7 : Mem) : Option ((Mem × Int32) ⊕ (Mem ⊕ ((Mem × Int32) ⊕ (Bool × Mem)))) :=
  some (Sum.inl (σ7, i6 + 1))
noncomputable def l_X4_areOverlapsAlike_22 (i2 : Int32) (i6 : Int32) (σ8 : Mem) (i9 : Int32) : Option ((Mem × Int32) ⊕ (Mem ⊕ ((Mem × Int32) ⊕ (Mem ⊕ ((Mem × Int32) ⊕ (Bool × Mem)))))) :=
  if i6 ≤ i9 then (some (Sum.inr (Sum.inl σ8))) else (bq (f_X4_isOverlapAlike σ8 i2 i6 i9) (fun (b10 : Bool) (σ11 : Mem) => if b10 then some (Sum.inl (σ11, i9 + 1)) else some (Sum.inr (Sum.inr (Sum.inr (Sum.inr (Sum.inr (false, σ11))))))))
noncomputable def l_X4_areOverlapsAlike_15 (i2 : Int32) (σ5 : Mem) (i6 : Int32) : Option ((Mem × Int32) ⊕ (Mem ⊕ ((Mem × Int32) ⊕ (Bool × Mem)))) :=
  if i2 ≤ i6 then (some (Sum.inr (Sum.inl σ5))) else ((loopO (fun (z9 : (Mem × Int32)) => l_X4_areOverlapsAlike_22 i2 i6 z9.1 z9.2) (σ5, 0) : Option (Mem ⊕ ((Mem × Int32) ⊕ (Mem ⊕ ((Mem × Int32) ⊕ (Bool × Mem)))))).bind (Sum.elim (fun (z7 : Mem) => j_X4_areOverlapsAlike_45 i6 z7) some))
noncomputable def l_X4_areOverlapsAlike_2 (σ1 : Mem) (i2 : Int32) : Option ((Mem × Int32) ⊕ (Bool × Mem)) :=
  gF σ1 41 0 (fun (v3 : Int32) => if v3 ≤ i2 then (some (Sum.inr (true, σ1))) else ((loopO (fun (z6 : (Mem × Int32)) => l_X4_areOverlapsAlike_15 i2 z6.1 z6.2) (σ1, 1) : Option (Mem ⊕ ((Mem × Int32) ⊕ (Bool × Mem)))).bind (Sum.elim (fun (z4 : Mem) => j_X4_areOverlapsAlike_51 i2 z4) some)))
noncomputable def f_X4_areOverlapsAlike (σ : Mem) : Option (Bool × Mem) :=
  loopO (fun (z2 : (Mem × Int32)) => l_X4_areOverlapsAlike_2 z2.1 z2.2) (σ, 2)
theorem t_X4_areOverlapsAlike {w : Wd} (hw : WOK w) {σ : Mem} : JO w mu_X4_areOverlapsAlike vB σ [(0, .ref (adr w 40))] [] 0 (f_X4_areOverlapsAlike σ) some := by
  unfold f_X4_areOverlapsAlike
  refine jo_iconst (pc := 0) dX4_areOverlapsAlike_0 (ic_i_2) ?_
  refine jo_istore_n (pc := 1) (lv' := [(1, .int 2), (0, .ref (adr w 40))]) dX4_areOverlapsAlike_1 rfl (ltb rfl) rfl ?_
  refine jo_lv (lv' := [(0, .ref (adr w 40)), (1, .int 2)]) [1, 0] rfl ?_
  refine jo_loop (X := (Bool × Mem)) (fun (z2 : (Mem × Int32)) => z2.1) (fun (z2 : (Mem × Int32)) => [(0, .ref (adr w 40)), (1, .int z2.2)]) (body := (fun (z2 : (Mem × Int32)) => l_X4_areOverlapsAlike_2 z2.1 z2.2)) (fun F2_2 hF2_2 s => ?_) (σ, 2)
  obtain ⟨σ1, i2⟩ := s
  show JO w mu_X4_areOverlapsAlike vB σ1 [(0, .ref (adr w 40)), (1, .int i2)] [] 2 (l_X4_areOverlapsAlike_2 σ1 i2) _
  unfold l_X4_areOverlapsAlike_2
  refine jo_iload_n (pc := 2) 1 rfl dX4_areOverlapsAlike_2 rfl ?_
  refine jo_aload_n (pc := 3) 0 rfl dX4_areOverlapsAlike_3 rfl ?_
  refine jo_getrE (pc := 4) ok_4_0 (ik_40 hw) rf_40_0 gw_299 dX4_areOverlapsAlike_4 ?_
  refine jo_getf (pc := 7) ok_6_0 (ik_41 hw) gw_196 dX4_areOverlapsAlike_7 (fun v3 => ?_)
  refine jo_icmp_ge (pc := 10) dX4_areOverlapsAlike_10 (tgt := 57) rfl ?_ ?_
  · refine jo_iconst (pc := 57) dX4_areOverlapsAlike_57 (ic_i_1) ?_
    exact jo_breturn (pc := 58) (b := true) rfl rfl dX4_areOverlapsAlike_58
  · refine jo_iconst (pc := 13) dX4_areOverlapsAlike_13 (ic_i_1) ?_
    refine jo_istore_n (pc := 14) (lv' := [(2, .int 1), (0, .ref (adr w 40)), (1, .int i2)]) dX4_areOverlapsAlike_14 rfl (ltb rfl) rfl ?_
    refine jo_joinS (S := Mem) (fun (z4 : Mem) => z4) (fun (z4 : Mem) => [(0, .ref (adr w 40)), (1, .int i2)]) (fun (z4 : Mem) => []) 51 ?_ (fun h51_4 => ?_)
    · intro σ4
      show JO w mu_X4_areOverlapsAlike vB σ4 [(0, .ref (adr w 40)), (1, .int i2)] [] 51 (j_X4_areOverlapsAlike_51 i2 σ4) _
      unfold j_X4_areOverlapsAlike_51
      refine jo_iinc (pc := 51) (lv' := [(1, .int (i2 + 1)), (0, .ref (adr w 40))]) 1 rfl dX4_areOverlapsAlike_51 (congrArg (fun z => i2 + z) (ic_i_1)) (ltb rfl) rfl ?_
      refine jo_goto (pc := 54) dX4_areOverlapsAlike_54 (tgt := 2) rfl ?_
      refine jo_lv (lv' := [(0, .ref (adr w 40)), (1, .int (i2 + 1))]) [1, 0] rfl ?_
      exact jo_leaf (by rfl) (hF2_2 (σ4, i2 + 1))
    · refine jo_lv (lv' := [(0, .ref (adr w 40)), (1, .int i2), (2, .int 1)]) [1, 2, 0] rfl ?_
      refine jo_loop (X := Mem ⊕ ((Mem × Int32) ⊕ (Bool × Mem))) (fun (z6 : (Mem × Int32)) => z6.1) (fun (z6 : (Mem × Int32)) => [(0, .ref (adr w 40)), (1, .int i2), (2, .int z6.2)]) (body := (fun (z6 : (Mem × Int32)) => l_X4_areOverlapsAlike_15 i2 z6.1 z6.2)) (fun F15_6 hF15_6 s => ?_) (σ1, 1)
      obtain ⟨σ5, i6⟩ := s
      show JO w mu_X4_areOverlapsAlike vB σ5 [(0, .ref (adr w 40)), (1, .int i2), (2, .int i6)] [] 15 (l_X4_areOverlapsAlike_15 i2 σ5 i6) _
      unfold l_X4_areOverlapsAlike_15
      refine jo_iload_n (pc := 15) 2 rfl dX4_areOverlapsAlike_15 rfl ?_
      refine jo_iload_n (pc := 16) 1 rfl dX4_areOverlapsAlike_16 rfl ?_
      refine jo_icmp_ge (pc := 17) dX4_areOverlapsAlike_17 (tgt := 51) rfl ?_ ?_
      · refine jo_lv (lv' := [(0, .ref (adr w 40)), (1, .int i2)]) [0, 1] rfl ?_
        exact jo_leaf (by rfl) (h51_4 σ5)
      · refine jo_iconst (pc := 20) dX4_areOverlapsAlike_20 (ic_i_0) ?_
        refine jo_istore_n (pc := 21) (lv' := [(3, .int 0), (0, .ref (adr w 40)), (1, .int i2), (2, .int i6)]) dX4_areOverlapsAlike_21 rfl (ltb rfl) rfl ?_
        refine jo_joinS (S := Mem) (fun (z7 : Mem) => z7) (fun (z7 : Mem) => [(0, .ref (adr w 40)), (1, .int i2), (2, .int i6)]) (fun (z7 : Mem) => []) 45 ?_ (fun h45_7 => ?_)
        · intro σ7
          show JO w mu_X4_areOverlapsAlike vB σ7 [(0, .ref (adr w 40)), (1, .int i2), (2, .int i6)] [] 45 (j_X4_areOverlapsAlike_45 i6 σ7) _
          unfold j_X4_areOverlapsAlike_45
          refine jo_iinc (pc := 45) (lv' := [(2, .int (i6 + 1)), (0, .ref (adr w 40)), (1, .int i2)]) 2 rfl dX4_areOverlapsAlike_45 (congrArg (fun z => i6 + z) (ic_i_1)) (ltb rfl) rfl ?_
          refine jo_goto (pc := 48) dX4_areOverlapsAlike_48 (tgt := 15) rfl ?_
          refine jo_lv (lv' := [(0, .ref (adr w 40)), (1, .int i2), (2, .int (i6 + 1))]) [1, 2, 0] rfl ?_
          exact jo_leaf (by rfl) (hF15_6 (σ7, i6 + 1))
        · refine jo_lv (lv' := [(0, .ref (adr w 40)), (1, .int i2), (2, .int i6), (3, .int 0)]) [1, 2, 3, 0] rfl ?_
          refine jo_loop (X := Mem ⊕ ((Mem × Int32) ⊕ (Mem ⊕ ((Mem × Int32) ⊕ (Bool × Mem))))) (fun (z9 : (Mem × Int32)) => z9.1) (fun (z9 : (Mem × Int32)) => [(0, .ref (adr w 40)), (1, .int i2), (2, .int i6), (3, .int z9.2)]) (body := (fun (z9 : (Mem × Int32)) => l_X4_areOverlapsAlike_22 i2 i6 z9.1 z9.2)) (fun F22_9 hF22_9 s => ?_) (σ5, 0)
          obtain ⟨σ8, i9⟩ := s
          show JO w mu_X4_areOverlapsAlike vB σ8 [(0, .ref (adr w 40)), (1, .int i2), (2, .int i6), (3, .int i9)] [] 22 (l_X4_areOverlapsAlike_22 i2 i6 σ8 i9) _
          unfold l_X4_areOverlapsAlike_22
          refine jo_iload_n (pc := 22) 3 rfl dX4_areOverlapsAlike_22 rfl ?_
          refine jo_iload_n (pc := 23) 2 rfl dX4_areOverlapsAlike_23 rfl ?_
          refine jo_icmp_ge (pc := 24) dX4_areOverlapsAlike_24 (tgt := 45) rfl ?_ ?_
          · refine jo_lv (lv' := [(0, .ref (adr w 40)), (1, .int i2), (2, .int i6)]) [0, 1, 2] rfl ?_
            exact jo_leaf (by rfl) (h45_7 σ8)
          · refine jo_aload_n (pc := 27) 0 rfl dX4_areOverlapsAlike_27 rfl ?_
            refine jo_iload_n (pc := 28) 1 rfl dX4_areOverlapsAlike_28 rfl ?_
            refine jo_iload_n (pc := 29) 2 rfl dX4_areOverlapsAlike_29 rfl ?_
            refine jo_iload_n (pc := 30) 3 rfl dX4_areOverlapsAlike_30 rfl ?_
            refine jo_cV_Z_i (pc := 31) (μ' := mu_X4_isOverlapAlike) (fx := f_X4_isOverlapAlike σ8 i2 i6 i9) (As := [.int i2, .int i6, .int i9]) (c_X4_isOverlapAlike hw) (ok_X4_isOverlapAlike) (ltb rfl) (all3 gw_552 gw_554 gw_1) (ik_40 hw) (by decide) (q := (RX4, TX4, 9)) rfl rfl rfl rfl (Nat.le_of_ble_eq_true rfl) dX4_areOverlapsAlike_31 (fun b10 σ11 => ?_)
            refine jo_ifz_ne (pc := 34) dX4_areOverlapsAlike_34 (tgt := 39) rfl ?_ ?_
            · refine jo_iinc (pc := 39) (lv' := [(3, .int (i9 + 1)), (0, .ref (adr w 40)), (1, .int i2), (2, .int i6)]) 3 rfl dX4_areOverlapsAlike_39 (congrArg (fun z => i9 + z) (ic_i_1)) (ltb rfl) rfl ?_
              refine jo_goto (pc := 42) dX4_areOverlapsAlike_42 (tgt := 22) rfl ?_
              refine jo_lv (lv' := [(0, .ref (adr w 40)), (1, .int i2), (2, .int i6), (3, .int (i9 + 1))]) [1, 2, 3, 0] rfl ?_
              exact jo_leaf (by rfl) (hF22_9 (σ11, i9 + 1))
            · refine jo_iconst (pc := 37) dX4_areOverlapsAlike_37 (ic_i_0) ?_
              exact jo_breturn (pc := 38) (b := false) rfl rfl dX4_areOverlapsAlike_38
theorem c_X4_areOverlapsAlike {w : Wd} (hw : WOK w) {σ : Mem} : ∀ r σ', f_X4_areOverlapsAlike σ = some (r, σ') → MC w mu_X4_areOverlapsAlike (vB r) [.ref (adr w 40)] σ σ' := mc_of ok_X4_areOverlapsAlike rfl (Nat.le_of_ble_eq_true rfl) (t_X4_areOverlapsAlike hw)
abbrev mu_X6_top : MD := (yX6_top, cX6_top, 1, some .int, 0)
theorem ok_X6_top : MOK mu_X6_top 0 := ⟨gw_608, gw_160, (by decide +kernel : plainFor yX6_top = true), ⟨(by decide +kernel : yX6_top.cls ≠ "java/lang/invoke/MethodHandle"), (by decide +kernel : yX6_top.cls ≠ "java/lang/invoke/VarHandle"), (by decide +kernel : (parseMethodDescriptor yX6_top.desc).map (fun d => d.parameters.length) = some 0)⟩, Nat.le_of_ble_eq_true rfl⟩
noncomputable def f_X6_top (σ : Mem) (a : Nat) : Option Int32 :=
  gF σ a 0 (fun (v1 : Int32) => if v1 ≤ 0 then (some 0) else (gF σ a 0 (fun (v2 : Int32) => gI σ (rf a 1) (v2 - 1) (fun (v3 : Int32) => some v3))))
theorem t_X6_top {w : Wd} (hw : WOK w) {σ : Mem} {a : Nat} (ha : isk w a 6) : JO w mu_X6_top vI σ [(0, .ref (adr w a))] [] 0 (f_X6_top σ a) (fun z => some (z, σ)) := by
  unfold f_X6_top
  refine jo_aload_n (pc := 0) 0 rfl dX6_top_0 rfl ?_
  refine jo_getf (pc := 1) ok_6_0 (ha) gw_193 dX6_top_1 (fun v1 => ?_)
  refine jo_if_le (pc := 4) dX6_top_4 (tgt := 21) rfl ?_ ?_
  · refine jo_iconst (pc := 21) dX6_top_21 (ic_i_0) ?_
    exact jo_ireturn (pc := 22) rfl rfl dX6_top_22
  · refine jo_aload_n (pc := 7) 0 rfl dX6_top_7 rfl ?_
    refine jo_getr (pc := 8) ok_6_1 (ha) gw_200 dX6_top_8 ?_
    refine jo_aload_n (pc := 11) 0 rfl dX6_top_11 rfl ?_
    refine jo_getf (pc := 12) ok_6_0 (ha) gw_193 dX6_top_12 (fun v2 => ?_)
    refine jo_iconst (pc := 15) dX6_top_15 (ic_i_1) ?_
    refine jo_isub (pc := 16) dX6_top_16 ?_
    refine jo_iald (pc := 17) (wf_6_1 hw (ha)) dX6_top_17 (fun v3 => ?_)
    refine jo_goto (pc := 18) dX6_top_18 (tgt := 22) rfl ?_
    exact jo_ireturn (pc := 22) rfl rfl dX6_top_22
theorem c_X6_top {w : Wd} (hw : WOK w) {σ : Mem} {a : Nat} (ha : isk w a 6) : ∀ r, f_X6_top σ a = some r → MC w mu_X6_top (vI r) [.ref (adr w a)] σ σ := mc_ofP ok_X6_top rfl (Nat.le_of_ble_eq_true rfl) (t_X6_top hw ha)
abbrev mu_X4_goToNextPoint : MD := (yX4_goToNextPoint, cX4_goToNextPoint, 4, some .boolean, 1)
theorem ok_X4_goToNextPoint : MOK mu_X4_goToNextPoint 0 := ⟨gw_604, gw_162, (by decide +kernel : plainFor yX4_goToNextPoint = true), ⟨(by decide +kernel : yX4_goToNextPoint.cls ≠ "java/lang/invoke/MethodHandle"), (by decide +kernel : yX4_goToNextPoint.cls ≠ "java/lang/invoke/VarHandle"), (by decide +kernel : (parseMethodDescriptor yX4_goToNextPoint.desc).map (fun d => d.parameters.length) = some 0)⟩, Nat.le_of_ble_eq_true rfl⟩
noncomputable def j_X4_goToNextPoint_85 (σ3 : Mem) (i4 : Int32) (i5 : Int32) : Option (Bool × Mem) :=
  gI σ3 45 i5 (fun (v6 : Int32) => pI σ3 45 i5 (v6 + 1) (fun (σ7 : Mem) => gF σ7 40 6 (fun (v8 : Int32) => gI σ7 42 i4 (fun (v9 : Int32) => pF σ7 40 6 (v8 + v9) (fun (σ10 : Mem) => some (true, σ10))))))
noncomputable def j_X4_goToNextPoint_60 (σ11 : Mem) (i12 : Int32) (i14 : Int32) (i16 : Int32) : Option ((Mem × Int32) ⊕ ((Mem × Int32 × Int32) ⊕ (Bool × Mem))) :=
  gF σ11 40 6 (fun (v17 : Int32) => gI σ11 42 i14 (fun (v18 : Int32) => (f_X6_top σ11 41).bind (fun (v19 : Int32) => if v19 < (v17 + v18) then (gF σ11 40 6 (fun (v20 : Int32) => gI σ11 45 i16 (fun (v21 : Int32) => gI σ11 42 i14 (fun (v22 : Int32) => pF σ11 40 6 (v20 - (v21 * v22)) (fun (σ23 : Mem) => pI σ23 45 i16 0 (fun (σ24 : Mem) => some (Sum.inl (σ24, i12 + (-1))))))))) else (some (Sum.inr (Sum.inl (σ11, i14, i16)))))))
noncomputable def j_X4_goToNextPoint_40 (σ11 : Mem) (i12 : Int32) (i14 : Int32) : Option ((Mem × Int32) ⊕ ((Mem × Int32 × Int32) ⊕ (Bool × Mem))) :=
  gF σ11 41 0 (fun (v15 : Int32) => (if v15 ≤ i12 then (some (6 + i14)) else (some i14) : Option Int32).bind (fun (z16 : Int32) => j_X4_goToNextPoint_60 σ11 i12 i14 z16))
noncomputable def l_X4_goToNextPoint_12 (σ11 : Mem) (i12 : Int32) : Option ((Mem × Int32) ⊕ ((Mem × Int32 × Int32) ⊕ (Bool × Mem))) :=
  if i12 < 0 then (some (Sum.inr (Sum.inr (false, σ11)))) else (gF σ11 41 0 (fun (v13 : Int32) => (if v13 ≤ i12 then (gF σ11 41 0 (fun (v25 : Int32) => some (i12 - v25))) else (some i12) : Option Int32).bind (fun (z14 : Int32) => j_X4_goToNextPoint_40 σ11 i12 z14)))
noncomputable def f_X4_goToNextPoint (σ : Mem) : Option (Bool × Mem) :=
  gF σ 41 0 (fun (v1 : Int32) => bd ((2 * v1) - 1) (fun (v2 : Int32) => (loopO (fun (z12 : (Mem × Int32)) => l_X4_goToNextPoint_12 z12.1 z12.2) (σ, v2) : Option ((Mem × Int32 × Int32) ⊕ (Bool × Mem))).bind (Sum.elim (fun (z5 : (Mem × Int32 × Int32)) => j_X4_goToNextPoint_85 z5.1 z5.2.1 z5.2.2) some)))
theorem t_X4_goToNextPoint {w : Wd} (hw : WOK w) {σ : Mem} : JO w mu_X4_goToNextPoint vB σ [(0, .ref (adr w 40))] [] 0 (f_X4_goToNextPoint σ) some := by
  unfold f_X4_goToNextPoint
  refine jo_iconst (pc := 0) dX4_goToNextPoint_0 (ic_i_2) ?_
  refine jo_aload_n (pc := 1) 0 rfl dX4_goToNextPoint_1 rfl ?_
  refine jo_getrE (pc := 2) ok_4_0 (ik_40 hw) rf_40_0 gw_299 dX4_goToNextPoint_2 ?_
  refine jo_getf (pc := 5) ok_6_0 (ik_41 hw) gw_196 dX4_goToNextPoint_5 (fun v1 => ?_)
  refine jo_imul (pc := 8) dX4_goToNextPoint_8 ?_
  refine jo_iconst (pc := 9) dX4_goToNextPoint_9 (ic_i_1) ?_
  refine jo_isub (pc := 10) dX4_goToNextPoint_10 ?_
  refine jo_bd ?_
  refine jo_istore_n (pc := 11) (lv' := [(1, .int ((2 * v1) - 1)), (0, .ref (adr w 40))]) dX4_goToNextPoint_11 rfl (ltb rfl) rfl ?_
  generalize ((2 * v1) - 1) = v2
  refine jo_joinS (S := (Mem × Int32 × Int32)) (fun (z5 : (Mem × Int32 × Int32)) => z5.1) (fun (z5 : (Mem × Int32 × Int32)) => [(0, .ref (adr w 40)), (2, .int z5.2.1), (3, .int z5.2.2)]) (fun (z5 : (Mem × Int32 × Int32)) => []) 85 ?_ (fun h85_5 => ?_)
  · intro s
    obtain ⟨σ3, i4, i5⟩ := s
    show JO w mu_X4_goToNextPoint vB σ3 [(0, .ref (adr w 40)), (2, .int i4), (3, .int i5)] [] 85 (j_X4_goToNextPoint_85 σ3 i4 i5) _
    unfold j_X4_goToNextPoint_85
    refine jo_aload_n (pc := 85) 0 rfl dX4_goToNextPoint_85 rfl ?_
    refine jo_getrE (pc := 86) ok_4_5 (ik_40 hw) rf_40_5 gw_311 dX4_goToNextPoint_86 ?_
    refine jo_iload_n (pc := 89) 2 rfl dX4_goToNextPoint_89 rfl ?_
    refine jo_dup2 (pc := 90) dX4_goToNextPoint_90 rfl rfl ?_
    refine jo_iald (pc := 91) (ik_45 hw) dX4_goToNextPoint_91 (fun v6 => ?_)
    refine jo_iconst (pc := 92) dX4_goToNextPoint_92 (ic_i_1) ?_
    refine jo_iadd (pc := 93) dX4_goToNextPoint_93 ?_
    refine jo_iast (pc := 94) (ik_45 hw) dX4_goToNextPoint_94 (fun σ7 => ?_)
    refine jo_aload_n (pc := 95) 0 rfl dX4_goToNextPoint_95 rfl ?_
    refine jo_dup (pc := 96) dX4_goToNextPoint_96 rfl ?_
    refine jo_getf (pc := 97) ok_4_6 (ik_40 hw) gw_312 dX4_goToNextPoint_97 (fun v8 => ?_)
    refine jo_aload_n (pc := 100) 0 rfl dX4_goToNextPoint_100 rfl ?_
    refine jo_getrE (pc := 101) ok_4_0 (ik_40 hw) rf_40_0 gw_299 dX4_goToNextPoint_101 ?_
    refine jo_getrE (pc := 104) ok_6_1 (ik_41 hw) rf_41_1 gw_205 dX4_goToNextPoint_104 ?_
    refine jo_iload_n (pc := 107) 1 rfl dX4_goToNextPoint_107 rfl ?_
    refine jo_iald (pc := 108) (ik_42 hw) dX4_goToNextPoint_108 (fun v9 => ?_)
    refine jo_iadd (pc := 109) dX4_goToNextPoint_109 ?_
    refine jo_putf (pc := 110) ok_4_6 okp_4_6 (ik_40 hw) gw_312 dX4_goToNextPoint_110 (fun σ10 => ?_)
    refine jo_iconst (pc := 113) dX4_goToNextPoint_113 (ic_i_1) ?_
    exact jo_breturn (pc := 114) (b := true) rfl rfl dX4_goToNextPoint_114
  · refine jo_lv (lv' := [(0, .ref (adr w 40)), (1, .int v2)]) [1, 0] rfl ?_
    refine jo_loop (X := (Mem × Int32 × Int32) ⊕ (Bool × Mem)) (fun (z12 : (Mem × Int32)) => z12.1) (fun (z12 : (Mem × Int32)) => [(0, .ref (adr w 40)), (1, .int z12.2)]) (body := (fun (z12 : (Mem × Int32)) => l_X4_goToNextPoint_12 z12.1 z12.2)) (fun F12_12 hF12_12 s => ?_) (σ, v2)
    obtain ⟨σ11, i12⟩ := s
    show JO w mu_X4_goToNextPoint vB σ11 [(0, .ref (adr w 40)), (1, .int i12)] [] 12 (l_X4_goToNextPoint_12 σ11 i12) _
    unfold l_X4_goToNextPoint_12
    refine jo_iload_n (pc := 12) 1 rfl dX4_goToNextPoint_12 rfl ?_
    refine jo_if_lt (pc := 13) dX4_goToNextPoint_13 (tgt := 153) rfl ?_ ?_
    · refine jo_iconst (pc := 153) dX4_goToNextPoint_153 (ic_i_0) ?_
      exact jo_breturn (pc := 154) (b := false) rfl rfl dX4_goToNextPoint_154
    · refine jo_iload_n (pc := 16) 1 rfl dX4_goToNextPoint_16 rfl ?_
      refine jo_aload_n (pc := 17) 0 rfl dX4_goToNextPoint_17 rfl ?_
      refine jo_getrE (pc := 18) ok_4_0 (ik_40 hw) rf_40_0 gw_299 dX4_goToNextPoint_18 ?_
      refine jo_getf (pc := 21) ok_6_0 (ik_41 hw) gw_196 dX4_goToNextPoint_21 (fun v13 => ?_)
      refine jo_join1 (S := Int32) (fun (z14 : Int32) => σ11) (fun (z14 : Int32) => [(0, .ref (adr w 40)), (1, .int i12)]) (fun (z14 : Int32) => [.int z14]) 40 ?_ (fun h40_14 => ?_)
      · intro i14
        show JO w mu_X4_goToNextPoint vB σ11 [(0, .ref (adr w 40)), (1, .int i12)] [.int i14] 40 (j_X4_goToNextPoint_40 σ11 i12 i14) _
        unfold j_X4_goToNextPoint_40
        refine jo_istore_n (pc := 40) (lv' := [(2, .int i14), (0, .ref (adr w 40)), (1, .int i12)]) dX4_goToNextPoint_40 rfl (ltb rfl) rfl ?_
        refine jo_iload_n (pc := 41) 2 rfl dX4_goToNextPoint_41 rfl ?_
        refine jo_aload_n (pc := 42) 1 rfl dX4_goToNextPoint_42 rfl ?_
        refine jo_getrE (pc := 43) ok_4_0 (ik_40 hw) rf_40_0 gw_299 dX4_goToNextPoint_43 ?_
        refine jo_getf (pc := 46) ok_6_0 (ik_41 hw) gw_196 dX4_goToNextPoint_46 (fun v15 => ?_)
        refine jo_join1 (S := Int32) (fun (z16 : Int32) => σ11) (fun (z16 : Int32) => [(2, .int i14), (0, .ref (adr w 40)), (1, .int i12)]) (fun (z16 : Int32) => [.int z16]) 60 ?_ (fun h60_16 => ?_)
        · intro i16
          show JO w mu_X4_goToNextPoint vB σ11 [(2, .int i14), (0, .ref (adr w 40)), (1, .int i12)] [.int i16] 60 (j_X4_goToNextPoint_60 σ11 i12 i14 i16) _
          unfold j_X4_goToNextPoint_60
          refine jo_istore_n (pc := 60) (lv' := [(3, .int i16), (2, .int i14), (0, .ref (adr w 40)), (1, .int i12)]) dX4_goToNextPoint_60 rfl (ltb rfl) rfl ?_
          refine jo_aload_n (pc := 61) 2 rfl dX4_goToNextPoint_61 rfl ?_
          refine jo_getf (pc := 62) ok_4_6 (ik_40 hw) gw_312 dX4_goToNextPoint_62 (fun v17 => ?_)
          refine jo_aload_n (pc := 65) 2 rfl dX4_goToNextPoint_65 rfl ?_
          refine jo_getrE (pc := 66) ok_4_0 (ik_40 hw) rf_40_0 gw_299 dX4_goToNextPoint_66 ?_
          refine jo_getrE (pc := 69) ok_6_1 (ik_41 hw) rf_41_1 gw_205 dX4_goToNextPoint_69 ?_
          refine jo_iload_n (pc := 72) 1 rfl dX4_goToNextPoint_72 rfl ?_
          refine jo_iald (pc := 73) (ik_42 hw) dX4_goToNextPoint_73 (fun v18 => ?_)
          refine jo_iadd (pc := 74) dX4_goToNextPoint_74 ?_
          refine jo_aload_n (pc := 75) 2 rfl dX4_goToNextPoint_75 rfl ?_
          refine jo_getrE (pc := 76) ok_4_0 (ik_40 hw) rf_40_0 gw_299 dX4_goToNextPoint_76 ?_
          refine jo_cV_I_p (pc := 79) (μ' := mu_X6_top) (fx := f_X6_top σ11 41) (As := []) (c_X6_top hw (ik_41 hw)) (ok_X6_top) (ltb rfl) (all3 gw_605 gw_606 gw_607) (ik_41 hw) (by decide) (q := (RX6, TX6, 3)) rfl rfl rfl rfl (Nat.le_of_ble_eq_true rfl) dX4_goToNextPoint_79 (fun v19 => ?_)
          refine jo_icmp_gt (pc := 82) dX4_goToNextPoint_82 (tgt := 115) rfl ?_ ?_
          · refine jo_aload_n (pc := 115) 2 rfl dX4_goToNextPoint_115 rfl ?_
            refine jo_dup (pc := 116) dX4_goToNextPoint_116 rfl ?_
            refine jo_getf (pc := 117) ok_4_6 (ik_40 hw) gw_312 dX4_goToNextPoint_117 (fun v20 => ?_)
            refine jo_aload_n (pc := 120) 2 rfl dX4_goToNextPoint_120 rfl ?_
            refine jo_getrE (pc := 121) ok_4_5 (ik_40 hw) rf_40_5 gw_311 dX4_goToNextPoint_121 ?_
            refine jo_iload_n (pc := 124) 0 rfl dX4_goToNextPoint_124 rfl ?_
            refine jo_iald (pc := 125) (ik_45 hw) dX4_goToNextPoint_125 (fun v21 => ?_)
            refine jo_aload_n (pc := 126) 2 rfl dX4_goToNextPoint_126 rfl ?_
            refine jo_getrE (pc := 127) ok_4_0 (ik_40 hw) rf_40_0 gw_299 dX4_goToNextPoint_127 ?_
            refine jo_getrE (pc := 130) ok_6_1 (ik_41 hw) rf_41_1 gw_205 dX4_goToNextPoint_130 ?_
            refine jo_iload_n (pc := 133) 1 rfl dX4_goToNextPoint_133 rfl ?_
            refine jo_iald (pc := 134) (ik_42 hw) dX4_goToNextPoint_134 (fun v22 => ?_)
            refine jo_imul (pc := 135) dX4_goToNextPoint_135 ?_
            refine jo_isub (pc := 136) dX4_goToNextPoint_136 ?_
            refine jo_putf (pc := 137) ok_4_6 okp_4_6 (ik_40 hw) gw_312 dX4_goToNextPoint_137 (fun σ23 => ?_)
            refine jo_aload_n (pc := 140) 2 rfl dX4_goToNextPoint_140 rfl ?_
            refine jo_getrE (pc := 141) ok_4_5 (ik_40 hw) rf_40_5 gw_311 dX4_goToNextPoint_141 ?_
            refine jo_iload_n (pc := 144) 0 rfl dX4_goToNextPoint_144 rfl ?_
            refine jo_iconst (pc := 145) dX4_goToNextPoint_145 (ic_i_0) ?_
            refine jo_iast (pc := 146) (ik_45 hw) dX4_goToNextPoint_146 (fun σ24 => ?_)
            refine jo_iinc (pc := 147) (lv' := [(1, .int (i12 + (-1))), (3, .int i16), (2, .int i14), (0, .ref (adr w 40))]) 3 rfl dX4_goToNextPoint_147 (congrArg (fun z => i12 + z) (ic_i_m1)) (ltb rfl) rfl ?_
            refine jo_goto (pc := 150) dX4_goToNextPoint_150 (tgt := 12) rfl ?_
            refine jo_lv (lv' := [(0, .ref (adr w 40)), (1, .int (i12 + (-1)))]) [3, 0] rfl ?_
            exact jo_leaf (by rfl) (hF12_12 (σ24, i12 + (-1)))
          · refine jo_lv (lv' := [(0, .ref (adr w 40)), (2, .int i14), (3, .int i16)]) [2, 1, 0] rfl ?_
            exact jo_leaf (by rfl) (h85_5 (σ11, i14, i16))
        · refine jo_icmp_ge (pc := 49) dX4_goToNextPoint_49 (tgt := 56) rfl ?_ ?_
          · refine jo_bipush (pc := 56) dX4_goToNextPoint_56 (ic_b_6) ?_
            refine jo_iload_n (pc := 58) 0 rfl dX4_goToNextPoint_58 rfl ?_
            refine jo_iadd (pc := 59) dX4_goToNextPoint_59 ?_
            exact jo_leaf (by rfl) (h60_16 (6 + i14))
          · refine jo_iload_n (pc := 52) 0 rfl dX4_goToNextPoint_52 rfl ?_
            refine jo_goto (pc := 53) dX4_goToNextPoint_53 (tgt := 60) rfl ?_
            exact jo_leaf (by rfl) (h60_16 i14)
      · refine jo_icmp_ge (pc := 24) dX4_goToNextPoint_24 (tgt := 31) rfl ?_ ?_
        · refine jo_iload_n (pc := 31) 1 rfl dX4_goToNextPoint_31 rfl ?_
          refine jo_aload_n (pc := 32) 0 rfl dX4_goToNextPoint_32 rfl ?_
          refine jo_getrE (pc := 33) ok_4_0 (ik_40 hw) rf_40_0 gw_299 dX4_goToNextPoint_33 ?_
          refine jo_getf (pc := 36) ok_6_0 (ik_41 hw) gw_196 dX4_goToNextPoint_36 (fun v25 => ?_)
          refine jo_isub (pc := 39) dX4_goToNextPoint_39 ?_
          exact jo_leaf (by rfl) (h40_14 (i12 - v25))
        · refine jo_iload_n (pc := 27) 1 rfl dX4_goToNextPoint_27 rfl ?_
          refine jo_goto (pc := 28) dX4_goToNextPoint_28 (tgt := 40) rfl ?_
          exact jo_leaf (by rfl) (h40_14 i12)
theorem c_X4_goToNextPoint {w : Wd} (hw : WOK w) {σ : Mem} : ∀ r σ', f_X4_goToNextPoint σ = some (r, σ') → MC w mu_X4_goToNextPoint (vB r) [.ref (adr w 40)] σ σ' := mc_of ok_X4_goToNextPoint rfl (Nat.le_of_ble_eq_true rfl) (t_X4_goToNextPoint hw)
abbrev mu_X10_degree : MD := (yX10_degree, cX10_degree, 2, some .int, 0)
theorem ok_X10_degree : MOK mu_X10_degree 2 := ⟨gw_630, gw_158, (by decide +kernel : plainFor yX10_degree = true), ⟨(by decide +kernel : yX10_degree.cls ≠ "java/lang/invoke/MethodHandle"), (by decide +kernel : yX10_degree.cls ≠ "java/lang/invoke/VarHandle"), (by decide +kernel : (parseMethodDescriptor yX10_degree.desc).map (fun d => d.parameters.length) = some 2)⟩, Nat.le_of_ble_eq_true rfl⟩
noncomputable def f_X10_degree (σ : Mem) (x0 : Int32) (x1 : Int32) : Option Int32 :=
  some ((x0 >>> ((2 * (11 - x1)) &&& 31)) &&& 3)
theorem t_X10_degree {w : Wd} (hw : WOK w) {σ : Mem} {x0 : Int32} {x1 : Int32} : JO w mu_X10_degree vI σ [(0, .int x0), (1, .int x1)] [] 0 (f_X10_degree σ x0 x1) (fun z => some (z, σ)) := by
  unfold f_X10_degree
  refine jo_iload_n (pc := 0) 0 rfl dX10_degree_0 rfl ?_
  refine jo_iconst (pc := 1) dX10_degree_1 (ic_i_2) ?_
  refine jo_bipush (pc := 2) dX10_degree_2 (ic_b_11) ?_
  refine jo_iload_n (pc := 4) 1 rfl dX10_degree_4 rfl ?_
  refine jo_isub (pc := 5) dX10_degree_5 ?_
  refine jo_imul (pc := 6) dX10_degree_6 ?_
  refine jo_ishr (pc := 7) dX10_degree_7 ?_
  refine jo_iconst (pc := 8) dX10_degree_8 (ic_i_3) ?_
  refine jo_iand (pc := 9) dX10_degree_9 ?_
  exact jo_ireturn (pc := 10) rfl rfl dX10_degree_10
theorem c_X10_degree {w : Wd} (hw : WOK w) {σ : Mem} {x0 : Int32} {x1 : Int32} : ∀ r, f_X10_degree σ x0 x1 = some r → MC w mu_X10_degree (vI r) [.int x0, .int x1] σ σ := mc_ofP ok_X10_degree rfl (Nat.le_of_ble_eq_true rfl) (t_X10_degree hw)
abbrev mu_X9_placesOf : MD := (yX9_placesOf, cX9_placesOf, 4, some .int, 1)
theorem ok_X9_placesOf : MOK mu_X9_placesOf 1 := ⟨gw_627, gw_163, (by decide +kernel : plainFor yX9_placesOf = true), ⟨(by decide +kernel : yX9_placesOf.cls ≠ "java/lang/invoke/MethodHandle"), (by decide +kernel : yX9_placesOf.cls ≠ "java/lang/invoke/VarHandle"), (by decide +kernel : (parseMethodDescriptor yX9_placesOf.desc).map (fun d => d.parameters.length) = some 1)⟩, Nat.le_of_ble_eq_true rfl⟩
noncomputable def j_X9_placesOf_31 (i2 : Int32) (i4 : Int32) : Option ((Int32 × Int32) ⊕ Int32) :=
  some (Sum.inl (i4, i2 + 1))
noncomputable def l_X9_placesOf_4 (σ : Mem) (x0 : Int32) (i1 : Int32) (i2 : Int32) : Option ((Int32 × Int32) ⊕ Int32) :=
  if 12 ≤ i2 then (some (Sum.inr i1)) else ((f_X10_degree σ x0 i2).bind (fun (v3 : Int32) => (if v3 ≤ 0 then (some i1) else (bd ((i1 <<< (6 &&& 31)) ||| ((4 * i2) + v3)) (fun (v5 : Int32) => some v5)) : Option Int32).bind (fun (z4 : Int32) => j_X9_placesOf_31 i2 z4)))
noncomputable def f_X9_placesOf (σ : Mem) (x0 : Int32) : Option Int32 :=
  loopO (fun (z2 : (Int32 × Int32)) => l_X9_placesOf_4 σ x0 z2.1 z2.2) (0, 0)
theorem t_X9_placesOf {w : Wd} (hw : WOK w) {σ : Mem} {x0 : Int32} : JO w mu_X9_placesOf vI σ [(0, .int x0)] [] 0 (f_X9_placesOf σ x0) (fun z => some (z, σ)) := by
  unfold f_X9_placesOf
  refine jo_iconst (pc := 0) dX9_placesOf_0 (ic_i_0) ?_
  refine jo_istore_n (pc := 1) (lv' := [(1, .int 0), (0, .int x0)]) dX9_placesOf_1 rfl (ltb rfl) rfl ?_
  refine jo_iconst (pc := 2) dX9_placesOf_2 (ic_i_0) ?_
  refine jo_istore_n (pc := 3) (lv' := [(2, .int 0), (1, .int 0), (0, .int x0)]) dX9_placesOf_3 rfl (ltb rfl) rfl ?_
  refine jo_lv (lv' := [(0, .int x0), (1, .int 0), (2, .int 0)]) [2, 1, 0] rfl ?_
  refine jo_loop (X := Int32) (fun (z2 : (Int32 × Int32)) => σ) (fun (z2 : (Int32 × Int32)) => [(0, .int x0), (1, .int z2.1), (2, .int z2.2)]) (body := (fun (z2 : (Int32 × Int32)) => l_X9_placesOf_4 σ x0 z2.1 z2.2)) (fun F4_2 hF4_2 s => ?_) (0, 0)
  obtain ⟨i1, i2⟩ := s
  show JO w mu_X9_placesOf vI σ [(0, .int x0), (1, .int i1), (2, .int i2)] [] 4 (l_X9_placesOf_4 σ x0 i1 i2) _
  unfold l_X9_placesOf_4
  refine jo_iload_n (pc := 4) 2 rfl dX9_placesOf_4 rfl ?_
  refine jo_bipush (pc := 5) dX9_placesOf_5 (ic_b_12) ?_
  refine jo_icmp_ge (pc := 7) dX9_placesOf_7 (tgt := 37) rfl ?_ ?_
  · refine jo_iload_n (pc := 37) 1 rfl dX9_placesOf_37 rfl ?_
    exact jo_ireturn (pc := 38) rfl rfl dX9_placesOf_38
  · refine jo_iload_n (pc := 10) 0 rfl dX9_placesOf_10 rfl ?_
    refine jo_iload_n (pc := 11) 2 rfl dX9_placesOf_11 rfl ?_
    refine jo_cSN_I_p (pc := 12) (μ' := mu_X10_degree) (fx := f_X10_degree σ x0 i2) (As := [.int x0, .int i2]) (c_X10_degree hw) (ok_X10_degree) (ltb rfl) (host := "HallRegisters") (by decide +kernel) gw_629 rfl rfl (Nat.le_of_ble_eq_true rfl) dX9_placesOf_12 (fun v3 => ?_)
    refine jo_istore_n (pc := 15) (lv' := [(3, .int v3), (0, .int x0), (1, .int i1), (2, .int i2)]) dX9_placesOf_15 rfl (ltb rfl) rfl ?_
    refine jo_iload_n (pc := 16) 0 rfl dX9_placesOf_16 rfl ?_
    refine jo_join1 (S := Int32) (fun (z4 : Int32) => σ) (fun (z4 : Int32) => [(0, .int x0), (2, .int i2), (1, .int z4)]) (fun (z4 : Int32) => []) 31 ?_ (fun h31_4 => ?_)
    · intro i4
      show JO w mu_X9_placesOf vI σ [(0, .int x0), (2, .int i2), (1, .int i4)] [] 31 (j_X9_placesOf_31 i2 i4) _
      unfold j_X9_placesOf_31
      refine jo_iinc (pc := 31) (lv' := [(2, .int (i2 + 1)), (0, .int x0), (1, .int i4)]) 1 rfl dX9_placesOf_31 (congrArg (fun z => i2 + z) (ic_i_1)) (ltb rfl) rfl ?_
      refine jo_goto (pc := 34) dX9_placesOf_34 (tgt := 4) rfl ?_
      refine jo_lv (lv' := [(0, .int x0), (1, .int i4), (2, .int (i2 + 1))]) [1, 2, 0] rfl ?_
      exact jo_leaf (by rfl) (hF4_2 (i4, i2 + 1))
    · refine jo_if_le (pc := 17) dX9_placesOf_17 (tgt := 31) rfl ?_ ?_
      · refine jo_lv (lv' := [(0, .int x0), (2, .int i2), (1, .int i1)]) [1, 3, 2] rfl ?_
        exact jo_leaf (by rfl) (h31_4 i1)
      · refine jo_iload_n (pc := 20) 2 rfl dX9_placesOf_20 rfl ?_
        refine jo_bipush (pc := 21) dX9_placesOf_21 (ic_b_6) ?_
        refine jo_ishl (pc := 23) dX9_placesOf_23 ?_
        refine jo_iconst (pc := 24) dX9_placesOf_24 (ic_i_4) ?_
        refine jo_iload_n (pc := 25) 3 rfl dX9_placesOf_25 rfl ?_
        refine jo_imul (pc := 26) dX9_placesOf_26 ?_
        refine jo_iload_n (pc := 27) 0 rfl dX9_placesOf_27 rfl ?_
        refine jo_iadd (pc := 28) dX9_placesOf_28 ?_
        refine jo_ior (pc := 29) dX9_placesOf_29 ?_
        refine jo_bd ?_
        refine jo_istore_n (pc := 30) (lv' := [(1, .int ((i1 <<< (6 &&& 31)) ||| ((4 * i2) + v3))), (3, .int v3), (0, .int x0), (2, .int i2)]) dX9_placesOf_30 rfl (ltb rfl) rfl ?_
        generalize ((i1 <<< (6 &&& 31)) ||| ((4 * i2) + v3)) = v5
        refine jo_lv (lv' := [(0, .int x0), (2, .int i2), (1, .int v5)]) [2, 3, 0] rfl ?_
        exact jo_leaf (by rfl) (h31_4 v5)
theorem c_X9_placesOf {w : Wd} (hw : WOK w) {σ : Mem} {x0 : Int32} : ∀ r, f_X9_placesOf σ x0 = some r → MC w mu_X9_placesOf (vI r) [.int x0] σ σ := mc_ofP ok_X9_placesOf rfl (Nat.le_of_ble_eq_true rfl) (t_X9_placesOf hw)
abbrev mu_X9_append : MD := (yX9_append, cX9_append, 4, none, 2)
theorem ok_X9_append : MOK mu_X9_append 2 := ⟨gw_624, gw_163, (by decide +kernel : plainFor yX9_append = true), ⟨(by decide +kernel : yX9_append.cls ≠ "java/lang/invoke/MethodHandle"), (by decide +kernel : yX9_append.cls ≠ "java/lang/invoke/VarHandle"), (by decide +kernel : (parseMethodDescriptor yX9_append.desc).map (fun d => d.parameters.length) = some 2)⟩, Nat.le_of_ble_eq_true rfl⟩
noncomputable def f_X9_append (σ : Mem) (a : Nat) (x0 : Int32) (x1 : Int64) : Option Mem :=
  gF σ a 0 (fun (v1 : Int32) => if 455 ≤ v1 then (some σ) else (gF σ a 0 (fun (v2 : Int32) => pI σ (rf a 1) v2 x0 (fun (σ3 : Mem) => gF σ3 a 0 (fun (v4 : Int32) => pL σ3 (rf a 2) v4 x1 (fun (σ5 : Mem) => gF σ5 a 0 (fun (v6 : Int32) => (f_X9_placesOf σ5 x0).bind (fun (v7 : Int32) => pI σ5 (rf a 3) v6 v7 (fun (σ8 : Mem) => gF σ8 a 0 (fun (v9 : Int32) => pF σ8 a 0 (v9 + 1) (fun (σ10 : Mem) => some σ10)))))))))))
theorem t_X9_append {w : Wd} (hw : WOK w) {σ : Mem} {a : Nat} {x0 : Int32} {x1 : Int64} (ha : isk w a 9) : JO w mu_X9_append vV σ [(0, .ref (adr w a)), (1, .int x0), (2, .long x1)] [] 0 (f_X9_append σ a x0 x1) (fun z => some ((), z)) := by
  unfold f_X9_append
  refine jo_aload_n (pc := 0) 0 rfl dX9_append_0 rfl ?_
  refine jo_getf (pc := 1) ok_9_0 (ha) gw_279 dX9_append_1 (fun v1 => ?_)
  refine jo_sipush (pc := 4) dX9_append_4 (ic_s_455) ?_
  refine jo_icmp_ge (pc := 7) dX9_append_7 (tgt := 53) rfl ?_ ?_
  · exact jo_return (pc := 53) rfl rfl dX9_append_53
  · refine jo_aload_n (pc := 10) 0 rfl dX9_append_10 rfl ?_
    refine jo_getr (pc := 11) ok_9_1 (ha) gw_283 dX9_append_11 ?_
    refine jo_aload_n (pc := 14) 0 rfl dX9_append_14 rfl ?_
    refine jo_getf (pc := 15) ok_9_0 (ha) gw_279 dX9_append_15 (fun v2 => ?_)
    refine jo_iload_n (pc := 18) 1 rfl dX9_append_18 rfl ?_
    refine jo_iast (pc := 19) (wf_9_1 hw (ha)) dX9_append_19 (fun σ3 => ?_)
    refine jo_aload_n (pc := 20) 0 rfl dX9_append_20 rfl ?_
    refine jo_getr (pc := 21) ok_9_2 (ha) gw_286 dX9_append_21 ?_
    refine jo_aload_n (pc := 24) 0 rfl dX9_append_24 rfl ?_
    refine jo_getf (pc := 25) ok_9_0 (ha) gw_279 dX9_append_25 (fun v4 => ?_)
    refine jo_lload_n (pc := 28) 2 rfl dX9_append_28 rfl ?_
    refine jo_last (pc := 29) (wf_9_2 hw (ha)) dX9_append_29 (fun σ5 => ?_)
    refine jo_aload_n (pc := 30) 0 rfl dX9_append_30 rfl ?_
    refine jo_getr (pc := 31) ok_9_3 (ha) gw_289 dX9_append_31 ?_
    refine jo_aload_n (pc := 34) 0 rfl dX9_append_34 rfl ?_
    refine jo_getf (pc := 35) ok_9_0 (ha) gw_279 dX9_append_35 (fun v6 => ?_)
    refine jo_iload_n (pc := 38) 1 rfl dX9_append_38 rfl ?_
    refine jo_cS_I_p (pc := 39) (μ' := mu_X9_placesOf) (fx := f_X9_placesOf σ5 x0) (As := [.int x0]) (c_X9_placesOf hw) (ok_X9_placesOf) (ltb rfl) (all2 gw_625 gw_626) rfl rfl (Nat.le_of_ble_eq_true rfl) dX9_append_39 (fun v7 => ?_)
    refine jo_iast (pc := 42) (wf_9_3 hw (ha)) dX9_append_42 (fun σ8 => ?_)
    refine jo_aload_n (pc := 43) 0 rfl dX9_append_43 rfl ?_
    refine jo_dup (pc := 44) dX9_append_44 rfl ?_
    refine jo_getf (pc := 45) ok_9_0 (ha) gw_279 dX9_append_45 (fun v9 => ?_)
    refine jo_iconst (pc := 48) dX9_append_48 (ic_i_1) ?_
    refine jo_iadd (pc := 49) dX9_append_49 ?_
    refine jo_putf (pc := 50) ok_9_0 okp_9_0 (ha) gw_279 dX9_append_50 (fun σ10 => ?_)
    exact jo_return (pc := 53) rfl rfl dX9_append_53
theorem c_X9_append {w : Wd} (hw : WOK w) {σ : Mem} {a : Nat} {x0 : Int32} {x1 : Int64} (ha : isk w a 9) : ∀ σ', f_X9_append σ a x0 x1 = some σ' → MC w mu_X9_append none [.ref (adr w a), .int x0, .long x1] σ σ' := mc_ofV ok_X9_append rfl (Nat.le_of_ble_eq_true rfl) (t_X9_append hw ha)
abbrev mu_X4_findTermsAtPoint : MD := (yX4_findTermsAtPoint, cX4_findTermsAtPoint, 5, none, 4)
theorem ok_X4_findTermsAtPoint : MOK mu_X4_findTermsAtPoint 0 := ⟨gw_612, gw_162, (by decide +kernel : plainFor yX4_findTermsAtPoint = true), ⟨(by decide +kernel : yX4_findTermsAtPoint.cls ≠ "java/lang/invoke/MethodHandle"), (by decide +kernel : yX4_findTermsAtPoint.cls ≠ "java/lang/invoke/VarHandle"), (by decide +kernel : (parseMethodDescriptor yX4_findTermsAtPoint.desc).map (fun d => d.parameters.length) = some 0)⟩, Nat.le_of_ble_eq_true rfl⟩
noncomputable def j_X4_findTermsAtPoint_169 (i7 : Int32) (σ11 : Mem) : Option ((Mem × Int32) ⊕ Mem) :=
  some (Sum.inl (σ11, i7 + 1))
noncomputable def l_X4_findTermsAtPoint_97 (i3 : Int32) (σ6 : Mem) (i7 : Int32) : Option ((Mem × Int32) ⊕ Mem) :=
  gF σ6 41 0 (fun (v8 : Int32) => if v8 ≤ i7 then (some (Sum.inr σ6)) else (gI σ6 42 i7 (fun (v9 : Int32) => gF σ6 40 6 (fun (v10 : Int32) => (if v10 ≤ v9 then (gI σ6 39 i7 (fun (v12 : Int32) => gR 44 i7 (fun (p13 : Nat) => (f_X9_value σ6 p13 46).bind (fun (v14 : Int64) => bd ((Int32.toInt64 v12) - v14) (fun (v15 : Int64) => if v15 = 0 then (some σ6) else (gR 44 i7 (fun (p16 : Nat) => (f_X9_append σ6 p16 i3 v15).bind (fun (σ17 : Mem) => some σ17)))))))) else (some σ6) : Option Mem).bind (fun (z11 : Mem) => j_X4_findTermsAtPoint_169 i7 z11)))))
noncomputable def j_X4_findTermsAtPoint_80 (σ2 : Mem) (i3 : Int32) : Option Mem :=
  bq (f_X2_run σ2 41 1000) (fun (v4 : Int32) (σ5 : Mem) => loopO (fun (z7 : (Mem × Int32)) => l_X4_findTermsAtPoint_97 i3 z7.1 z7.2) (σ5, 0))
noncomputable def j_X4_findTermsAtPoint_74 (i20 : Int32) (v24 : Int32) (σ25 : Mem) : Option ((Mem × Int32 × Int32) ⊕ (Mem × Int32)) :=
  some (Sum.inl (σ25, v24, i20 + 1))
noncomputable def l_X4_findTermsAtPoint_47 (i20 : Int32) (σ26 : Mem) (i27 : Int32) : Option ((Mem × Int32) ⊕ Mem) :=
  gI σ26 45 i20 (fun (v28 : Int32) => if v28 ≤ i27 then (some (Sum.inr σ26)) else (nzI 6 ((f_X2_add σ26 (i20 - i20 / 6 * 6)).bind (fun (σ29 : Mem) => some (Sum.inl (σ29, i27 + 1))))))
noncomputable def l_X4_findTermsAtPoint_11 (σ18 : Mem) (i19 : Int32) (i20 : Int32) : Option ((Mem × Int32 × Int32) ⊕ (Mem × Int32)) :=
  if 12 ≤ i20 then (some (Sum.inr (σ18, i19))) else (gI σ18 45 i20 (fun (v21 : Int32) => (f_X4_put σ18 46 i20 (Int32.toInt64 v21)).bind (fun (σ22 : Mem) => gI σ22 45 i20 (fun (v23 : Int32) => bd ((i19 <<< (2 &&& 31)) ||| (v23 &&& 3)) (fun (v24 : Int32) => (loopO (fun (z27 : (Mem × Int32)) => l_X4_findTermsAtPoint_47 i20 z27.1 z27.2) (σ22, 0) : Option Mem).bind (fun (z25 : Mem) => j_X4_findTermsAtPoint_74 i20 v24 z25))))))
noncomputable def f_X4_findTermsAtPoint (σ : Mem) : Option Mem :=
  (f_X2_begin σ).bind (fun (σ1 : Mem) => (loopO (fun (z20 : (Mem × Int32 × Int32)) => l_X4_findTermsAtPoint_11 z20.1 z20.2.1 z20.2.2) (σ1, 0, 0) : Option (Mem × Int32)).bind (fun (z3 : (Mem × Int32)) => j_X4_findTermsAtPoint_80 z3.1 z3.2))
theorem t_X4_findTermsAtPoint {w : Wd} (hw : WOK w) {σ : Mem} : JO w mu_X4_findTermsAtPoint vV σ [(0, .ref (adr w 40))] [] 0 (f_X4_findTermsAtPoint σ) (fun z => some ((), z)) := by
  unfold f_X4_findTermsAtPoint
  refine jo_aload_n (pc := 0) 0 rfl dX4_findTermsAtPoint_0 rfl ?_
  refine jo_getrE (pc := 1) ok_4_1 (ik_40 hw) rf_40_1 gw_302 dX4_findTermsAtPoint_1 ?_
  refine jo_cV_V_i (pc := 4) (μ' := mu_X2_begin) (fx := f_X2_begin σ) (As := []) (c_X2_begin hw) (ok_X2_begin) (ltb rfl) (all3 gw_556 gw_557 gw_558) (ik_35 hw) (by decide) (q := (RX2, TX2, 7)) rfl rfl rfl rfl (Nat.le_of_ble_eq_true rfl) dX4_findTermsAtPoint_4 (fun σ1 => ?_)
  refine jo_iconst (pc := 7) dX4_findTermsAtPoint_7 (ic_i_0) ?_
  refine jo_istore_n (pc := 8) (lv' := [(1, .int 0), (0, .ref (adr w 40))]) dX4_findTermsAtPoint_8 rfl (ltb rfl) rfl ?_
  refine jo_iconst (pc := 9) dX4_findTermsAtPoint_9 (ic_i_0) ?_
  refine jo_istore_n (pc := 10) (lv' := [(2, .int 0), (1, .int 0), (0, .ref (adr w 40))]) dX4_findTermsAtPoint_10 rfl (ltb rfl) rfl ?_
  refine jo_join1 (S := (Mem × Int32)) (fun (z3 : (Mem × Int32)) => z3.1) (fun (z3 : (Mem × Int32)) => [(0, .ref (adr w 40)), (1, .int z3.2)]) (fun (z3 : (Mem × Int32)) => []) 80 ?_ (fun h80_3 => ?_)
  · intro s
    obtain ⟨σ2, i3⟩ := s
    show JO w mu_X4_findTermsAtPoint vV σ2 [(0, .ref (adr w 40)), (1, .int i3)] [] 80 (j_X4_findTermsAtPoint_80 σ2 i3) _
    unfold j_X4_findTermsAtPoint_80
    refine jo_aload_n (pc := 80) 0 rfl dX4_findTermsAtPoint_80 rfl ?_
    refine jo_getrE (pc := 81) ok_4_1 (ik_40 hw) rf_40_1 gw_302 dX4_findTermsAtPoint_81 ?_
    refine jo_aload_n (pc := 84) 0 rfl dX4_findTermsAtPoint_84 rfl ?_
    refine jo_getrE (pc := 85) ok_4_0 (ik_40 hw) rf_40_0 gw_299 dX4_findTermsAtPoint_85 ?_
    refine jo_sipush (pc := 88) dX4_findTermsAtPoint_88 (ic_s_1000) ?_
    refine jo_cV_I_i (pc := 91) (μ' := mu_X2_run) (fx := f_X2_run σ2 41 1000) (As := [.ref (adr w 41), .int 1000]) (c_X2_run hw (ik_41 hw)) (ok_X2_run) (ltb rfl) (all3 gw_573 gw_574 gw_575) (ik_35 hw) (by decide) (q := (RX2, TX2, 7)) rfl rfl rfl rfl (Nat.le_of_ble_eq_true rfl) dX4_findTermsAtPoint_91 (fun v4 σ5 => ?_)
    refine jo_pop (pc := 94) dX4_findTermsAtPoint_94 rfl ?_
    refine jo_iconst (pc := 95) dX4_findTermsAtPoint_95 (ic_i_0) ?_
    refine jo_istore_n (pc := 96) (lv' := [(2, .int 0), (0, .ref (adr w 40)), (1, .int i3)]) dX4_findTermsAtPoint_96 rfl (ltb rfl) rfl ?_
    refine jo_lv (lv' := [(0, .ref (adr w 40)), (1, .int i3), (2, .int 0)]) [1, 2, 0] rfl ?_
    refine jo_loop (X := Mem) (fun (z7 : (Mem × Int32)) => z7.1) (fun (z7 : (Mem × Int32)) => [(0, .ref (adr w 40)), (1, .int i3), (2, .int z7.2)]) (body := (fun (z7 : (Mem × Int32)) => l_X4_findTermsAtPoint_97 i3 z7.1 z7.2)) (fun F97_7 hF97_7 s => ?_) (σ5, 0)
    obtain ⟨σ6, i7⟩ := s
    show JO w mu_X4_findTermsAtPoint vV σ6 [(0, .ref (adr w 40)), (1, .int i3), (2, .int i7)] [] 97 (l_X4_findTermsAtPoint_97 i3 σ6 i7) _
    unfold l_X4_findTermsAtPoint_97
    refine jo_iload_n (pc := 97) 2 rfl dX4_findTermsAtPoint_97 rfl ?_
    refine jo_aload_n (pc := 98) 0 rfl dX4_findTermsAtPoint_98 rfl ?_
    refine jo_getrE (pc := 99) ok_4_0 (ik_40 hw) rf_40_0 gw_299 dX4_findTermsAtPoint_99 ?_
    refine jo_getf (pc := 102) ok_6_0 (ik_41 hw) gw_196 dX4_findTermsAtPoint_102 (fun v8 => ?_)
    refine jo_icmp_ge (pc := 105) dX4_findTermsAtPoint_105 (tgt := 175) rfl ?_ ?_
    · exact jo_return (pc := 175) rfl rfl dX4_findTermsAtPoint_175
    · refine jo_aload_n (pc := 108) 0 rfl dX4_findTermsAtPoint_108 rfl ?_
      refine jo_getrE (pc := 109) ok_4_0 (ik_40 hw) rf_40_0 gw_299 dX4_findTermsAtPoint_109 ?_
      refine jo_getrE (pc := 112) ok_6_1 (ik_41 hw) rf_41_1 gw_205 dX4_findTermsAtPoint_112 ?_
      refine jo_iload_n (pc := 115) 2 rfl dX4_findTermsAtPoint_115 rfl ?_
      refine jo_iald (pc := 116) (ik_42 hw) dX4_findTermsAtPoint_116 (fun v9 => ?_)
      refine jo_aload_n (pc := 117) 0 rfl dX4_findTermsAtPoint_117 rfl ?_
      refine jo_getf (pc := 118) ok_4_6 (ik_40 hw) gw_312 dX4_findTermsAtPoint_118 (fun v10 => ?_)
      refine jo_join1 (S := Mem) (fun (z11 : Mem) => z11) (fun (z11 : Mem) => [(0, .ref (adr w 40)), (1, .int i3), (2, .int i7)]) (fun (z11 : Mem) => []) 169 ?_ (fun h169_11 => ?_)
      · intro σ11
        show JO w mu_X4_findTermsAtPoint vV σ11 [(0, .ref (adr w 40)), (1, .int i3), (2, .int i7)] [] 169 (j_X4_findTermsAtPoint_169 i7 σ11) _
        unfold j_X4_findTermsAtPoint_169
        refine jo_iinc (pc := 169) (lv' := [(2, .int (i7 + 1)), (0, .ref (adr w 40)), (1, .int i3)]) 2 rfl dX4_findTermsAtPoint_169 (congrArg (fun z => i7 + z) (ic_i_1)) (ltb rfl) rfl ?_
        refine jo_goto (pc := 172) dX4_findTermsAtPoint_172 (tgt := 97) rfl ?_
        refine jo_lv (lv' := [(0, .ref (adr w 40)), (1, .int i3), (2, .int (i7 + 1))]) [1, 2, 0] rfl ?_
        exact jo_leaf (by rfl) (hF97_7 (σ11, i7 + 1))
      · refine jo_icmp_ge (pc := 121) dX4_findTermsAtPoint_121 (tgt := 127) rfl ?_ ?_
        · refine jo_aload_n (pc := 127) 0 rfl dX4_findTermsAtPoint_127 rfl ?_
          refine jo_getrE (pc := 128) ok_4_1 (ik_40 hw) rf_40_1 gw_302 dX4_findTermsAtPoint_128 ?_
          refine jo_getrE (pc := 131) ok_2_6 (ik_35 hw) rf_35_6 gw_247 dX4_findTermsAtPoint_131 ?_
          refine jo_iload_n (pc := 134) 2 rfl dX4_findTermsAtPoint_134 rfl ?_
          refine jo_iald (pc := 135) (ik_39 hw) dX4_findTermsAtPoint_135 (fun v12 => ?_)
          refine jo_i2l (pc := 136) dX4_findTermsAtPoint_136 ?_
          refine jo_aload_n (pc := 137) 0 rfl dX4_findTermsAtPoint_137 rfl ?_
          refine jo_getrE (pc := 138) ok_4_2 (ik_40 hw) rf_40_2 gw_303 dX4_findTermsAtPoint_138 ?_
          refine jo_iload_n (pc := 141) 2 rfl dX4_findTermsAtPoint_141 rfl ?_
          refine jo_aaldG (pc := 142) (z := 9) hw (ik_44 hw) (by decide) (t := 3) rfl rfl (by decide) dX4_findTermsAtPoint_142 (fun p13 hp13 => ?_)
          refine jo_aload_n (pc := 143) 0 rfl dX4_findTermsAtPoint_143 rfl ?_
          refine jo_getrE (pc := 144) ok_4_7 (ik_40 hw) rf_40_7 gw_313 dX4_findTermsAtPoint_144 ?_
          refine jo_cV_J_p (pc := 147) (μ' := mu_X9_value) (fx := f_X9_value σ6 p13 46) (As := [.ref (adr w 46)]) (c_X9_value hw (hp13) (ik_46 hw)) (ok_X9_value) (ltb rfl) (all3 gw_617 gw_618 gw_619) (hp13) (by decide) (q := (RX9, TX9, 4)) rfl rfl rfl rfl (Nat.le_of_ble_eq_true rfl) dX4_findTermsAtPoint_147 (fun v14 => ?_)
          refine jo_lsub (pc := 150) dX4_findTermsAtPoint_150 ?_
          refine jo_bd ?_
          refine jo_lstore_n (pc := 151) (lv' := [(3, .long ((Int32.toInt64 v12) - v14)), (0, .ref (adr w 40)), (1, .int i3), (2, .int i7)]) dX4_findTermsAtPoint_151 rfl (ltb rfl) rfl ?_
          generalize ((Int32.toInt64 v12) - v14) = v15
          refine jo_lload_n (pc := 152) 0 rfl dX4_findTermsAtPoint_152 rfl ?_
          refine jo_lconst (pc := 153) dX4_findTermsAtPoint_153 (ic_l_0) ?_
          refine jo_lcmp_eq (pc := 154) dX4_findTermsAtPoint_154 dX4_findTermsAtPoint_155 (tgt := 169) rfl ?_ ?_
          · refine jo_lv (lv' := [(0, .ref (adr w 40)), (1, .int i3), (2, .int i7)]) [1, 2, 3] rfl ?_
            exact jo_leaf (by rfl) (h169_11 σ6)
          · refine jo_aload_n (pc := 158) 1 rfl dX4_findTermsAtPoint_158 rfl ?_
            refine jo_getrE (pc := 159) ok_4_2 (ik_40 hw) rf_40_2 gw_303 dX4_findTermsAtPoint_159 ?_
            refine jo_iload_n (pc := 162) 3 rfl dX4_findTermsAtPoint_162 rfl ?_
            refine jo_aaldG (pc := 163) (z := 9) hw (ik_44 hw) (by decide) (t := 3) rfl rfl (by decide) dX4_findTermsAtPoint_163 (fun p16 hp16 => ?_)
            refine jo_iload_n (pc := 164) 2 rfl dX4_findTermsAtPoint_164 rfl ?_
            refine jo_lload_n (pc := 165) 0 rfl dX4_findTermsAtPoint_165 rfl ?_
            refine jo_cV_V_i (pc := 166) (μ' := mu_X9_append) (fx := f_X9_append σ6 p16 i3 v15) (As := [.int i3, .long v15]) (c_X9_append hw (hp16)) (ok_X9_append) (ltb rfl) (all3 gw_621 gw_622 gw_623) (hp16) (by decide) (q := (RX9, TX9, 4)) rfl rfl rfl rfl (Nat.le_of_ble_eq_true rfl) dX4_findTermsAtPoint_166 (fun σ17 => ?_)
            refine jo_lv (lv' := [(0, .ref (adr w 40)), (1, .int i3), (2, .int i7)]) [1, 2, 3] rfl ?_
            exact jo_leaf (by rfl) (h169_11 σ17)
        · refine jo_goto (pc := 124) dX4_findTermsAtPoint_124 (tgt := 169) rfl ?_
          exact jo_leaf (by rfl) (h169_11 σ6)
  · refine jo_lv (lv' := [(0, .ref (adr w 40)), (1, .int 0), (2, .int 0)]) [2, 1, 0] rfl ?_
    refine jo_loop (X := (Mem × Int32)) (fun (z20 : (Mem × Int32 × Int32)) => z20.1) (fun (z20 : (Mem × Int32 × Int32)) => [(0, .ref (adr w 40)), (1, .int z20.2.1), (2, .int z20.2.2)]) (body := (fun (z20 : (Mem × Int32 × Int32)) => l_X4_findTermsAtPoint_11 z20.1 z20.2.1 z20.2.2)) (fun F11_20 hF11_20 s => ?_) (σ1, 0, 0)
    obtain ⟨σ18, i19, i20⟩ := s
    show JO w mu_X4_findTermsAtPoint vV σ18 [(0, .ref (adr w 40)), (1, .int i19), (2, .int i20)] [] 11 (l_X4_findTermsAtPoint_11 σ18 i19 i20) _
    unfold l_X4_findTermsAtPoint_11
    refine jo_iload_n (pc := 11) 2 rfl dX4_findTermsAtPoint_11 rfl ?_
    refine jo_bipush (pc := 12) dX4_findTermsAtPoint_12 (ic_b_12) ?_
    refine jo_icmp_ge (pc := 14) dX4_findTermsAtPoint_14 (tgt := 80) rfl ?_ ?_
    · refine jo_lv (lv' := [(0, .ref (adr w 40)), (1, .int i19)]) [0, 1] rfl ?_
      exact jo_leaf (by rfl) (h80_3 (σ18, i19))
    · refine jo_aload_n (pc := 17) 0 rfl dX4_findTermsAtPoint_17 rfl ?_
      refine jo_getrE (pc := 18) ok_4_7 (ik_40 hw) rf_40_7 gw_313 dX4_findTermsAtPoint_18 ?_
      refine jo_iload_n (pc := 21) 2 rfl dX4_findTermsAtPoint_21 rfl ?_
      refine jo_aload_n (pc := 22) 0 rfl dX4_findTermsAtPoint_22 rfl ?_
      refine jo_getrE (pc := 23) ok_4_5 (ik_40 hw) rf_40_5 gw_311 dX4_findTermsAtPoint_23 ?_
      refine jo_iload_n (pc := 26) 2 rfl dX4_findTermsAtPoint_26 rfl ?_
      refine jo_iald (pc := 27) (ik_45 hw) dX4_findTermsAtPoint_27 (fun v21 => ?_)
      refine jo_i2l (pc := 28) dX4_findTermsAtPoint_28 ?_
      refine jo_cS_V_i (pc := 29) (μ' := mu_X4_put) (fx := f_X4_put σ18 46 i20 (Int32.toInt64 v21)) (As := [.ref (adr w 46), .int i20, .long (Int32.toInt64 v21)]) (c_X4_put hw (ik_46 hw)) (ok_X4_put) (ltb rfl) (all2 gw_613 gw_614) rfl rfl (Nat.le_of_ble_eq_true rfl) dX4_findTermsAtPoint_29 (fun σ22 => ?_)
      refine jo_iload_n (pc := 32) 1 rfl dX4_findTermsAtPoint_32 rfl ?_
      refine jo_iconst (pc := 33) dX4_findTermsAtPoint_33 (ic_i_2) ?_
      refine jo_ishl (pc := 34) dX4_findTermsAtPoint_34 ?_
      refine jo_aload_n (pc := 35) 0 rfl dX4_findTermsAtPoint_35 rfl ?_
      refine jo_getrE (pc := 36) ok_4_5 (ik_40 hw) rf_40_5 gw_311 dX4_findTermsAtPoint_36 ?_
      refine jo_iload_n (pc := 39) 2 rfl dX4_findTermsAtPoint_39 rfl ?_
      refine jo_iald (pc := 40) (ik_45 hw) dX4_findTermsAtPoint_40 (fun v23 => ?_)
      refine jo_iconst (pc := 41) dX4_findTermsAtPoint_41 (ic_i_3) ?_
      refine jo_iand (pc := 42) dX4_findTermsAtPoint_42 ?_
      refine jo_ior (pc := 43) dX4_findTermsAtPoint_43 ?_
      refine jo_bd ?_
      refine jo_istore_n (pc := 44) (lv' := [(1, .int ((i19 <<< (2 &&& 31)) ||| (v23 &&& 3))), (0, .ref (adr w 40)), (2, .int i20)]) dX4_findTermsAtPoint_44 rfl (ltb rfl) rfl ?_
      generalize ((i19 <<< (2 &&& 31)) ||| (v23 &&& 3)) = v24
      refine jo_iconst (pc := 45) dX4_findTermsAtPoint_45 (ic_i_0) ?_
      refine jo_istore_n (pc := 46) (lv' := [(3, .int 0), (1, .int v24), (0, .ref (adr w 40)), (2, .int i20)]) dX4_findTermsAtPoint_46 rfl (ltb rfl) rfl ?_
      refine jo_join1 (S := Mem) (fun (z25 : Mem) => z25) (fun (z25 : Mem) => [(1, .int v24), (0, .ref (adr w 40)), (2, .int i20)]) (fun (z25 : Mem) => []) 74 ?_ (fun h74_25 => ?_)
      · intro σ25
        show JO w mu_X4_findTermsAtPoint vV σ25 [(1, .int v24), (0, .ref (adr w 40)), (2, .int i20)] [] 74 (j_X4_findTermsAtPoint_74 i20 v24 σ25) _
        unfold j_X4_findTermsAtPoint_74
        refine jo_iinc (pc := 74) (lv' := [(2, .int (i20 + 1)), (1, .int v24), (0, .ref (adr w 40))]) 2 rfl dX4_findTermsAtPoint_74 (congrArg (fun z => i20 + z) (ic_i_1)) (ltb rfl) rfl ?_
        refine jo_goto (pc := 77) dX4_findTermsAtPoint_77 (tgt := 11) rfl ?_
        refine jo_lv (lv' := [(0, .ref (adr w 40)), (1, .int v24), (2, .int (i20 + 1))]) [2, 1, 0] rfl ?_
        exact jo_leaf (by rfl) (hF11_20 (σ25, v24, i20 + 1))
      · refine jo_lv (lv' := [(1, .int v24), (0, .ref (adr w 40)), (2, .int i20), (3, .int 0)]) [1, 2, 3, 0] rfl ?_
        refine jo_loop (X := Mem) (fun (z27 : (Mem × Int32)) => z27.1) (fun (z27 : (Mem × Int32)) => [(1, .int v24), (0, .ref (adr w 40)), (2, .int i20), (3, .int z27.2)]) (body := (fun (z27 : (Mem × Int32)) => l_X4_findTermsAtPoint_47 i20 z27.1 z27.2)) (fun F47_27 hF47_27 s => ?_) (σ22, 0)
        obtain ⟨σ26, i27⟩ := s
        show JO w mu_X4_findTermsAtPoint vV σ26 [(1, .int v24), (0, .ref (adr w 40)), (2, .int i20), (3, .int i27)] [] 47 (l_X4_findTermsAtPoint_47 i20 σ26 i27) _
        unfold l_X4_findTermsAtPoint_47
        refine jo_iload_n (pc := 47) 3 rfl dX4_findTermsAtPoint_47 rfl ?_
        refine jo_aload_n (pc := 48) 1 rfl dX4_findTermsAtPoint_48 rfl ?_
        refine jo_getrE (pc := 49) ok_4_5 (ik_40 hw) rf_40_5 gw_311 dX4_findTermsAtPoint_49 ?_
        refine jo_iload_n (pc := 52) 2 rfl dX4_findTermsAtPoint_52 rfl ?_
        refine jo_iald (pc := 53) (ik_45 hw) dX4_findTermsAtPoint_53 (fun v28 => ?_)
        refine jo_icmp_ge (pc := 54) dX4_findTermsAtPoint_54 (tgt := 74) rfl ?_ ?_
        · refine jo_lv (lv' := [(1, .int v24), (0, .ref (adr w 40)), (2, .int i20)]) [0, 1, 2] rfl ?_
          exact jo_leaf (by rfl) (h74_25 σ26)
        · refine jo_aload_n (pc := 57) 1 rfl dX4_findTermsAtPoint_57 rfl ?_
          refine jo_getrE (pc := 58) ok_4_1 (ik_40 hw) rf_40_1 gw_302 dX4_findTermsAtPoint_58 ?_
          refine jo_iload_n (pc := 61) 2 rfl dX4_findTermsAtPoint_61 rfl ?_
          refine jo_bipush (pc := 62) dX4_findTermsAtPoint_62 (ic_b_6) ?_
          refine jo_irem (pc := 64) dX4_findTermsAtPoint_64 ?_
          refine jo_cV_V_i (pc := 65) (μ' := mu_X2_add) (fx := f_X2_add σ26 (i20 - i20 / 6 * 6)) (As := [.int (i20 - i20 / 6 * 6)]) (c_X2_add hw) (ok_X2_add) (ltb rfl) (all3 gw_560 gw_561 gw_562) (ik_35 hw) (by decide) (q := (RX2, TX2, 7)) rfl rfl rfl rfl (Nat.le_of_ble_eq_true rfl) dX4_findTermsAtPoint_65 (fun σ29 => ?_)
          refine jo_iinc (pc := 68) (lv' := [(3, .int (i27 + 1)), (1, .int v24), (0, .ref (adr w 40)), (2, .int i20)]) 3 rfl dX4_findTermsAtPoint_68 (congrArg (fun z => i27 + z) (ic_i_1)) (ltb rfl) rfl ?_
          refine jo_goto (pc := 71) dX4_findTermsAtPoint_71 (tgt := 47) rfl ?_
          refine jo_lv (lv' := [(1, .int v24), (0, .ref (adr w 40)), (2, .int i20), (3, .int (i27 + 1))]) [1, 2, 3, 0] rfl ?_
          exact jo_leaf (by rfl) (hF47_27 (σ29, i27 + 1))
theorem c_X4_findTermsAtPoint {w : Wd} (hw : WOK w) {σ : Mem} : ∀ σ', f_X4_findTermsAtPoint σ = some σ' → MC w mu_X4_findTermsAtPoint none [.ref (adr w 40)] σ σ' := mc_ofV ok_X4_findTermsAtPoint rfl (Nat.le_of_ble_eq_true rfl) (t_X4_findTermsAtPoint hw)
