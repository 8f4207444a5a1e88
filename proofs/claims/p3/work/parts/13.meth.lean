abbrev mu_X4_findTerms : MD := (yX4_findTerms, cX4_findTerms, 2, none, 5)
theorem ok_X4_findTerms : MOK mu_X4_findTerms 0 := ⟨gw_599, gw_162, (by decide +kernel : plainFor yX4_findTerms = true), ⟨(by decide +kernel : yX4_findTerms.cls ≠ "java/lang/invoke/MethodHandle"), (by decide +kernel : yX4_findTerms.cls ≠ "java/lang/invoke/VarHandle"), (by decide +kernel : (parseMethodDescriptor yX4_findTerms.desc).map (fun d => d.parameters.length) = some 0)⟩, Nat.le_of_ble_eq_true rfl⟩
noncomputable def l_X4_findTerms_15 (σ3 : Mem) (i4 : Int32) : Option ((Mem × Int32) ⊕ Mem) :=
  if 455 ≤ i4 then (some (Sum.inr σ3)) else (bq (f_X4_goToNextPoint σ3) (fun (b5 : Bool) (σ6 : Mem) => if b5 then (f_X4_findTermsAtPoint σ6).bind (fun (σ7 : Mem) => some (Sum.inl (σ7, i4 + 1))) else some (Sum.inr σ6)))
noncomputable def f_X4_findTerms (σ : Mem) : Option Mem :=
  (f_J7_fill_53178 σ 45 0).bind (fun (σ1 : Mem) => pF σ1 40 6 0 (fun (σ2 : Mem) => loopO (fun (z4 : (Mem × Int32)) => l_X4_findTerms_15 z4.1 z4.2) (σ2, 0)))
theorem t_X4_findTerms {w : Wd} (hw : WOK w) {σ : Mem} : JO w mu_X4_findTerms vV σ [(0, .ref (adr w 40))] [] 0 (f_X4_findTerms σ) (fun z => some ((), z)) := by
  unfold f_X4_findTerms
  refine jo_aload_n (pc := 0) 0 rfl dX4_findTerms_0 rfl ?_
  refine jo_getrE (pc := 1) ok_4_5 (ik_40 hw) rf_40_5 gw_311 dX4_findTerms_1 ?_
  refine jo_iconst (pc := 4) dX4_findTerms_4 (ic_i_0) ?_
  refine jo_cS_V_i (pc := 5) (μ' := mu_J7_fill_53178) (fx := f_J7_fill_53178 σ 45 0) (As := [.ref (adr w 45), .int 0]) (c_J7_fill_53178 hw (ik_45 hw)) (ok_J7_fill_53178) (ltb rfl) (all2 gw_600 gw_521) rfl rfl (Nat.le_of_ble_eq_true rfl) dX4_findTerms_5 (fun σ1 => ?_)
  refine jo_aload_n (pc := 8) 0 rfl dX4_findTerms_8 rfl ?_
  refine jo_iconst (pc := 9) dX4_findTerms_9 (ic_i_0) ?_
  refine jo_putf (pc := 10) ok_4_6 okp_4_6 (ik_40 hw) gw_312 dX4_findTerms_10 (fun σ2 => ?_)
  refine jo_iconst (pc := 13) dX4_findTerms_13 (ic_i_0) ?_
  refine jo_istore_n (pc := 14) (lv' := [(1, .int 0), (0, .ref (adr w 40))]) dX4_findTerms_14 rfl (ltb rfl) rfl ?_
  refine jo_lv (lv' := [(0, .ref (adr w 40)), (1, .int 0)]) [1, 0] rfl ?_
  refine jo_loop (X := Mem) (fun (z4 : (Mem × Int32)) => z4.1) (fun (z4 : (Mem × Int32)) => [(0, .ref (adr w 40)), (1, .int z4.2)]) (body := (fun (z4 : (Mem × Int32)) => l_X4_findTerms_15 z4.1 z4.2)) (fun F15_4 hF15_4 s => ?_) (σ2, 0)
  obtain ⟨σ3, i4⟩ := s
  show JO w mu_X4_findTerms vV σ3 [(0, .ref (adr w 40)), (1, .int i4)] [] 15 (l_X4_findTerms_15 σ3 i4) _
  unfold l_X4_findTerms_15
  refine jo_iload_n (pc := 15) 1 rfl dX4_findTerms_15 rfl ?_
  refine jo_sipush (pc := 16) dX4_findTerms_16 (ic_s_455) ?_
  refine jo_icmp_ge (pc := 19) dX4_findTerms_19 (tgt := 39) rfl ?_ ?_
  · exact jo_return (pc := 39) rfl rfl dX4_findTerms_39
  · refine jo_aload_n (pc := 22) 0 rfl dX4_findTerms_22 rfl ?_
    refine jo_cV_Z_i (pc := 23) (μ' := mu_X4_goToNextPoint) (fx := f_X4_goToNextPoint σ3) (As := []) (c_X4_goToNextPoint hw) (ok_X4_goToNextPoint) (ltb rfl) (all3 gw_601 gw_603 gw_7) (ik_40 hw) (by decide) (q := (RX4, TX4, 9)) rfl rfl rfl rfl (Nat.le_of_ble_eq_true rfl) dX4_findTerms_23 (fun b5 σ6 => ?_)
    refine jo_ifz_eq (pc := 26) dX4_findTerms_26 (tgt := 39) rfl ?_ ?_
    · exact jo_return (pc := 39) rfl rfl dX4_findTerms_39
    · refine jo_aload_n (pc := 29) 0 rfl dX4_findTerms_29 rfl ?_
      refine jo_cV_V_i (pc := 30) (μ' := mu_X4_findTermsAtPoint) (fx := f_X4_findTermsAtPoint σ6) (As := []) (c_X4_findTermsAtPoint hw) (ok_X4_findTermsAtPoint) (ltb rfl) (all3 gw_609 gw_611 gw_8) (ik_40 hw) (by decide) (q := (RX4, TX4, 9)) rfl rfl rfl rfl (Nat.le_of_ble_eq_true rfl) dX4_findTerms_30 (fun σ7 => ?_)
      refine jo_iinc (pc := 33) (lv' := [(1, .int (i4 + 1)), (0, .ref (adr w 40))]) 1 rfl dX4_findTerms_33 (congrArg (fun z => i4 + z) (ic_i_1)) (ltb rfl) rfl ?_
      refine jo_goto (pc := 36) dX4_findTerms_36 (tgt := 15) rfl ?_
      refine jo_lv (lv' := [(0, .ref (adr w 40)), (1, .int (i4 + 1))]) [1, 0] rfl ?_
      exact jo_leaf (by rfl) (hF15_4 (σ7, i4 + 1))
theorem c_X4_findTerms {w : Wd} (hw : WOK w) {σ : Mem} : ∀ σ', f_X4_findTerms σ = some σ' → MC w mu_X4_findTerms none [.ref (adr w 40)] σ σ' := mc_ofV ok_X4_findTerms rfl (Nat.le_of_ble_eq_true rfl) (t_X4_findTerms hw)
abbrev mu_X4_follow : MD := (yX4_follow, cX4_follow, 3, none, 6)
theorem ok_X4_follow : MOK mu_X4_follow 1 := ⟨gw_536, gw_162, (by decide +kernel : plainFor yX4_follow = true), ⟨(by decide +kernel : yX4_follow.cls ≠ "java/lang/invoke/MethodHandle"), (by decide +kernel : yX4_follow.cls ≠ "java/lang/invoke/VarHandle"), (by decide +kernel : (parseMethodDescriptor yX4_follow.desc).map (fun d => d.parameters.length) = some 1)⟩, Nat.le_of_ble_eq_true rfl⟩
noncomputable def j_X4_follow_62 (σ8 : Mem) : Option Mem :=
  gZ σ8 40 3 (fun (b9 : Bool) => if b9 then (f_X4_findTerms σ8).bind (fun (σ10 : Mem) => some σ10) else some σ8)
noncomputable def l_X4_follow_40 (σ11 : Mem) (i12 : Int32) : Option ((Mem × Int32) ⊕ Mem) :=
  if 6 ≤ i12 then (some (Sum.inr σ11)) else (gR 44 i12 (fun (p13 : Nat) => pF σ11 p13 0 0 (fun (σ14 : Mem) => some (Sum.inl (σ14, i12 + 1)))))
noncomputable def f_X4_follow (σ : Mem) (x0 : Nat) : Option Mem :=
  (f_X6_isSame σ 41 x0).bind (fun (b1 : Bool) => if b1 then some σ else (f_X6_takeAll σ 41 x0).bind (fun (σ2 : Mem) => gF σ2 40 4 (fun (v3 : Int32) => pF σ2 40 4 (v3 + 1) (fun (σ4 : Mem) => bq (f_X4_areOverlapsAlike σ4) (fun (b5 : Bool) (σ6 : Mem) => pF σ6 40 3 (b2i b5) (fun (σ7 : Mem) => (loopO (fun (z12 : (Mem × Int32)) => l_X4_follow_40 z12.1 z12.2) (σ7, 0) : Option Mem).bind (fun (z8 : Mem) => j_X4_follow_62 z8)))))))
theorem t_X4_follow {w : Wd} (hw : WOK w) {σ : Mem} {x0 : Nat} (hx0 : isk w x0 6) : JO w mu_X4_follow vV σ [(0, .ref (adr w 40)), (1, .ref (adr w x0))] [] 0 (f_X4_follow σ x0) (fun z => some ((), z)) := by
  unfold f_X4_follow
  refine jo_aload_n (pc := 0) 0 rfl dX4_follow_0 rfl ?_
  refine jo_getrE (pc := 1) ok_4_0 (ik_40 hw) rf_40_0 gw_299 dX4_follow_1 ?_
  refine jo_aload_n (pc := 4) 1 rfl dX4_follow_4 rfl ?_
  refine jo_cV_Z_p (pc := 5) (μ' := mu_X6_isSame) (fx := f_X6_isSame σ 41 x0) (As := [.ref (adr w x0)]) (c_X6_isSame hw (ik_41 hw) (hx0)) (ok_X6_isSame) (ltb rfl) (all3 gw_537 gw_538 gw_539) (ik_41 hw) (by decide) (q := (RX6, TX6, 3)) rfl rfl rfl rfl (Nat.le_of_ble_eq_true rfl) dX4_follow_5 (fun b1 => ?_)
  refine jo_ifz_eq (pc := 8) dX4_follow_8 (tgt := 12) rfl ?_ ?_
  · refine jo_aload_n (pc := 12) 0 rfl dX4_follow_12 rfl ?_
    refine jo_getrE (pc := 13) ok_4_0 (ik_40 hw) rf_40_0 gw_299 dX4_follow_13 ?_
    refine jo_aload_n (pc := 16) 1 rfl dX4_follow_16 rfl ?_
    refine jo_cV_V_i (pc := 17) (μ' := mu_X6_takeAll) (fx := f_X6_takeAll σ 41 x0) (As := [.ref (adr w x0)]) (c_X6_takeAll hw (ik_41 hw) (hx0)) (ok_X6_takeAll) (ltb rfl) (all3 gw_541 gw_542 gw_543) (ik_41 hw) (by decide) (q := (RX6, TX6, 3)) rfl rfl rfl rfl (Nat.le_of_ble_eq_true rfl) dX4_follow_17 (fun σ2 => ?_)
    refine jo_aload_n (pc := 20) 0 rfl dX4_follow_20 rfl ?_
    refine jo_dup (pc := 21) dX4_follow_21 rfl ?_
    refine jo_getf (pc := 22) ok_4_4 (ik_40 hw) gw_309 dX4_follow_22 (fun v3 => ?_)
    refine jo_iconst (pc := 25) dX4_follow_25 (ic_i_1) ?_
    refine jo_iadd (pc := 26) dX4_follow_26 ?_
    refine jo_putf (pc := 27) ok_4_4 okp_4_4 (ik_40 hw) gw_309 dX4_follow_27 (fun σ4 => ?_)
    refine jo_aload_n (pc := 30) 0 rfl dX4_follow_30 rfl ?_
    refine jo_aload_n (pc := 31) 0 rfl dX4_follow_31 rfl ?_
    refine jo_cV_Z_i (pc := 32) (μ' := mu_X4_areOverlapsAlike) (fx := f_X4_areOverlapsAlike σ4) (As := []) (c_X4_areOverlapsAlike hw) (ok_X4_areOverlapsAlike) (ltb rfl) (all3 gw_548 gw_550 gw_0) (ik_40 hw) (by decide) (q := (RX4, TX4, 9)) rfl rfl rfl rfl (Nat.le_of_ble_eq_true rfl) dX4_follow_32 (fun b5 σ6 => ?_)
    refine jo_putzB (pc := 35) ok_4_3 okp_4_3 (ik_40 hw) gw_307 dX4_follow_35 (fun σ7 => ?_)
    refine jo_iconst (pc := 38) dX4_follow_38 (ic_i_0) ?_
    refine jo_istore_n (pc := 39) (lv' := [(2, .int 0), (0, .ref (adr w 40)), (1, .ref (adr w x0))]) dX4_follow_39 rfl (ltb rfl) rfl ?_
    refine jo_join1 (S := Mem) (fun (z8 : Mem) => z8) (fun (z8 : Mem) => [(0, .ref (adr w 40))]) (fun (z8 : Mem) => []) 62 ?_ (fun h62_8 => ?_)
    · intro σ8
      show JO w mu_X4_follow vV σ8 [(0, .ref (adr w 40))] [] 62 (j_X4_follow_62 σ8) _
      unfold j_X4_follow_62
      refine jo_aload_n (pc := 62) 0 rfl dX4_follow_62 rfl ?_
      refine jo_getz (pc := 63) ok_4_3 (ik_40 hw) gw_307 dX4_follow_63 (fun b9 => ?_)
      refine jo_ifz_eq (pc := 66) dX4_follow_66 (tgt := 73) rfl ?_ ?_
      · exact jo_return (pc := 73) rfl rfl dX4_follow_73
      · refine jo_aload_n (pc := 69) 0 rfl dX4_follow_69 rfl ?_
        refine jo_cV_V_i (pc := 70) (μ' := mu_X4_findTerms) (fx := f_X4_findTerms σ8) (As := []) (c_X4_findTerms hw) (ok_X4_findTerms) (ltb rfl) (all3 gw_596 gw_598 gw_6) (ik_40 hw) (by decide) (q := (RX4, TX4, 9)) rfl rfl rfl rfl (Nat.le_of_ble_eq_true rfl) dX4_follow_70 (fun σ10 => ?_)
        exact jo_return (pc := 73) rfl rfl dX4_follow_73
    · refine jo_lv (lv' := [(0, .ref (adr w 40)), (2, .int 0)]) [1, 0] rfl ?_
      refine jo_loop (X := Mem) (fun (z12 : (Mem × Int32)) => z12.1) (fun (z12 : (Mem × Int32)) => [(0, .ref (adr w 40)), (2, .int z12.2)]) (body := (fun (z12 : (Mem × Int32)) => l_X4_follow_40 z12.1 z12.2)) (fun F40_12 hF40_12 s => ?_) (σ7, 0)
      obtain ⟨σ11, i12⟩ := s
      show JO w mu_X4_follow vV σ11 [(0, .ref (adr w 40)), (2, .int i12)] [] 40 (l_X4_follow_40 σ11 i12) _
      unfold l_X4_follow_40
      refine jo_iload_n (pc := 40) 1 rfl dX4_follow_40 rfl ?_
      refine jo_bipush (pc := 41) dX4_follow_41 (ic_b_6) ?_
      refine jo_icmp_ge (pc := 43) dX4_follow_43 (tgt := 62) rfl ?_ ?_
      · refine jo_lv (lv' := [(0, .ref (adr w 40))]) [0] rfl ?_
        exact jo_leaf (by rfl) (h62_8 σ11)
      · refine jo_aload_n (pc := 46) 0 rfl dX4_follow_46 rfl ?_
        refine jo_getrE (pc := 47) ok_4_2 (ik_40 hw) rf_40_2 gw_303 dX4_follow_47 ?_
        refine jo_iload_n (pc := 50) 1 rfl dX4_follow_50 rfl ?_
        refine jo_aaldG (pc := 51) (z := 9) hw (ik_44 hw) (by decide) (t := 3) rfl rfl (by decide) dX4_follow_51 (fun p13 hp13 => ?_)
        refine jo_iconst (pc := 52) dX4_follow_52 (ic_i_0) ?_
        refine jo_putf (pc := 53) ok_9_0 okp_9_0 (hp13) gw_280 dX4_follow_53 (fun σ14 => ?_)
        refine jo_iinc (pc := 56) (lv' := [(2, .int (i12 + 1)), (0, .ref (adr w 40))]) 1 rfl dX4_follow_56 (congrArg (fun z => i12 + z) (ic_i_1)) (ltb rfl) rfl ?_
        refine jo_goto (pc := 59) dX4_follow_59 (tgt := 40) rfl ?_
        refine jo_lv (lv' := [(0, .ref (adr w 40)), (2, .int (i12 + 1))]) [1, 0] rfl ?_
        exact jo_leaf (by rfl) (hF40_12 (σ14, i12 + 1))
  · exact jo_return (pc := 11) rfl rfl dX4_follow_11
theorem c_X4_follow {w : Wd} (hw : WOK w) {σ : Mem} {x0 : Nat} (hx0 : isk w x0 6) : ∀ σ', f_X4_follow σ x0 = some σ' → MC w mu_X4_follow none [.ref (adr w 40), .ref (adr w x0)] σ σ' := mc_ofV ok_X4_follow rfl (Nat.le_of_ble_eq_true rfl) (t_X4_follow hw hx0)
abbrev mu_X4_termCount : MD := (yX4_termCount, cX4_termCount, 3, some .int, 0)
theorem ok_X4_termCount : MOK mu_X4_termCount 0 := ⟨gw_1265, gw_162, (by decide +kernel : plainFor yX4_termCount = true), ⟨(by decide +kernel : yX4_termCount.cls ≠ "java/lang/invoke/MethodHandle"), (by decide +kernel : yX4_termCount.cls ≠ "java/lang/invoke/VarHandle"), (by decide +kernel : (parseMethodDescriptor yX4_termCount.desc).map (fun d => d.parameters.length) = some 0)⟩, Nat.le_of_ble_eq_true rfl⟩
noncomputable def l_X4_termCount_4 (σ : Mem) (i1 : Int32) (i2 : Int32) : Option ((Int32 × Int32) ⊕ Int32) :=
  if 6 ≤ i2 then (some (Sum.inr i1)) else (gR 44 i2 (fun (p3 : Nat) => gF σ p3 0 (fun (v4 : Int32) => bd (i1 + v4) (fun (v5 : Int32) => some (Sum.inl (v5, i2 + 1))))))
noncomputable def f_X4_termCount (σ : Mem) : Option Int32 :=
  loopO (fun (z2 : (Int32 × Int32)) => l_X4_termCount_4 σ z2.1 z2.2) (0, 0)
theorem t_X4_termCount {w : Wd} (hw : WOK w) {σ : Mem} : JO w mu_X4_termCount vI σ [(0, .ref (adr w 40))] [] 0 (f_X4_termCount σ) (fun z => some (z, σ)) := by
  unfold f_X4_termCount
  refine jo_iconst (pc := 0) dX4_termCount_0 (ic_i_0) ?_
  refine jo_istore_n (pc := 1) (lv' := [(1, .int 0), (0, .ref (adr w 40))]) dX4_termCount_1 rfl (ltb rfl) rfl ?_
  refine jo_iconst (pc := 2) dX4_termCount_2 (ic_i_0) ?_
  refine jo_istore_n (pc := 3) (lv' := [(2, .int 0), (1, .int 0), (0, .ref (adr w 40))]) dX4_termCount_3 rfl (ltb rfl) rfl ?_
  refine jo_lv (lv' := [(0, .ref (adr w 40)), (1, .int 0), (2, .int 0)]) [2, 1, 0] rfl ?_
  refine jo_loop (X := Int32) (fun (z2 : (Int32 × Int32)) => σ) (fun (z2 : (Int32 × Int32)) => [(0, .ref (adr w 40)), (1, .int z2.1), (2, .int z2.2)]) (body := (fun (z2 : (Int32 × Int32)) => l_X4_termCount_4 σ z2.1 z2.2)) (fun F4_2 hF4_2 s => ?_) (0, 0)
  obtain ⟨i1, i2⟩ := s
  show JO w mu_X4_termCount vI σ [(0, .ref (adr w 40)), (1, .int i1), (2, .int i2)] [] 4 (l_X4_termCount_4 σ i1 i2) _
  unfold l_X4_termCount_4
  refine jo_iload_n (pc := 4) 2 rfl dX4_termCount_4 rfl ?_
  refine jo_bipush (pc := 5) dX4_termCount_5 (ic_b_6) ?_
  refine jo_icmp_ge (pc := 7) dX4_termCount_7 (tgt := 28) rfl ?_ ?_
  · refine jo_iload_n (pc := 28) 1 rfl dX4_termCount_28 rfl ?_
    exact jo_ireturn (pc := 29) rfl rfl dX4_termCount_29
  · refine jo_iload_n (pc := 10) 1 rfl dX4_termCount_10 rfl ?_
    refine jo_aload_n (pc := 11) 0 rfl dX4_termCount_11 rfl ?_
    refine jo_getrE (pc := 12) ok_4_2 (ik_40 hw) rf_40_2 gw_303 dX4_termCount_12 ?_
    refine jo_iload_n (pc := 15) 2 rfl dX4_termCount_15 rfl ?_
    refine jo_aaldG (pc := 16) (z := 9) hw (ik_44 hw) (by decide) (t := 3) rfl rfl (by decide) dX4_termCount_16 (fun p3 hp3 => ?_)
    refine jo_getf (pc := 17) ok_9_0 (hp3) gw_280 dX4_termCount_17 (fun v4 => ?_)
    refine jo_iadd (pc := 20) dX4_termCount_20 ?_
    refine jo_bd ?_
    refine jo_istore_n (pc := 21) (lv' := [(1, .int (i1 + v4)), (0, .ref (adr w 40)), (2, .int i2)]) dX4_termCount_21 rfl (ltb rfl) rfl ?_
    generalize (i1 + v4) = v5
    refine jo_iinc (pc := 22) (lv' := [(2, .int (i2 + 1)), (1, .int v5), (0, .ref (adr w 40))]) 2 rfl dX4_termCount_22 (congrArg (fun z => i2 + z) (ic_i_1)) (ltb rfl) rfl ?_
    refine jo_goto (pc := 25) dX4_termCount_25 (tgt := 4) rfl ?_
    refine jo_lv (lv' := [(0, .ref (adr w 40)), (1, .int v5), (2, .int (i2 + 1))]) [2, 1, 0] rfl ?_
    exact jo_leaf (by rfl) (hF4_2 (v5, i2 + 1))
theorem c_X4_termCount {w : Wd} (hw : WOK w) {σ : Mem} : ∀ r, f_X4_termCount σ = some r → MC w mu_X4_termCount (vI r) [.ref (adr w 40)] σ σ := mc_ofP ok_X4_termCount rfl (Nat.le_of_ble_eq_true rfl) (t_X4_termCount hw)
abbrev mu_X5_forget : MD := (yX5_forget, cX5_forget, 1, none, 0)
theorem ok_X5_forget : MOK mu_X5_forget 0 := ⟨gw_963, gw_168, (by decide +kernel : plainFor yX5_forget = true), ⟨(by decide +kernel : yX5_forget.cls ≠ "java/lang/invoke/MethodHandle"), (by decide +kernel : yX5_forget.cls ≠ "java/lang/invoke/VarHandle"), (by decide +kernel : (parseMethodDescriptor yX5_forget.desc).map (fun d => d.parameters.length) = some 0)⟩, Nat.le_of_ble_eq_true rfl⟩
noncomputable def f_X5_forget (σ : Mem) : Option Mem :=
  pF σ 144 0 0 (fun (σ1 : Mem) => pF σ1 144 1 (-1) (fun (σ2 : Mem) => some σ2))
theorem t_X5_forget {w : Wd} (hw : WOK w) {σ : Mem} : JO w mu_X5_forget vV σ [(0, .ref (adr w 144))] [] 0 (f_X5_forget σ) (fun z => some ((), z)) := by
  unfold f_X5_forget
  refine jo_aload_n (pc := 0) 0 rfl dX5_forget_0 rfl ?_
  refine jo_iconst (pc := 1) dX5_forget_1 (ic_i_0) ?_
  refine jo_putf (pc := 2) ok_5_0 okp_5_0 (ik_144 hw) gw_471 dX5_forget_2 (fun σ1 => ?_)
  refine jo_aload_n (pc := 5) 0 rfl dX5_forget_5 rfl ?_
  refine jo_iconst (pc := 6) dX5_forget_6 (ic_i_m1) ?_
  refine jo_putf (pc := 7) ok_5_1 okp_5_1 (ik_144 hw) gw_473 dX5_forget_7 (fun σ2 => ?_)
  exact jo_return (pc := 10) rfl rfl dX5_forget_10
theorem c_X5_forget {w : Wd} (hw : WOK w) {σ : Mem} : ∀ σ', f_X5_forget σ = some σ' → MC w mu_X5_forget none [.ref (adr w 144)] σ σ' := mc_ofV ok_X5_forget rfl (Nat.le_of_ble_eq_true rfl) (t_X5_forget hw)
abbrev mu_X5_signHere : MD := (yX5_signHere, cX5_signHere, 1, some .int, 0)
theorem ok_X5_signHere : MOK mu_X5_signHere 0 := ⟨gw_983, gw_168, (by decide +kernel : plainFor yX5_signHere = true), ⟨(by decide +kernel : yX5_signHere.cls ≠ "java/lang/invoke/MethodHandle"), (by decide +kernel : yX5_signHere.cls ≠ "java/lang/invoke/VarHandle"), (by decide +kernel : (parseMethodDescriptor yX5_signHere.desc).map (fun d => d.parameters.length) = some 0)⟩, Nat.le_of_ble_eq_true rfl⟩
noncomputable def j_X5_signHere_30  : Option Int32 :=
  some (-1)
noncomputable def f_X5_signHere (σ : Mem) : Option Int32 :=
  gF σ 144 9 (fun (v1 : Int32) => (if v1 < 0 then (some (Sum.inl ())) else (gF σ 144 9 (fun (v2 : Int32) => gF σ 144 8 (fun (v3 : Int32) => if v3 ≤ v2 then (some (Sum.inl ())) else (gF σ 144 9 (fun (v4 : Int32) => gI σ 175 v4 (fun (v5 : Int32) => some (Sum.inr v5))))))) : Option (Unit ⊕ Int32)).bind (Sum.elim (fun (z1 : Unit) => j_X5_signHere_30) some))
theorem t_X5_signHere {w : Wd} (hw : WOK w) {σ : Mem} : JO w mu_X5_signHere vI σ [(0, .ref (adr w 144))] [] 0 (f_X5_signHere σ) (fun z => some (z, σ)) := by
  unfold f_X5_signHere
  refine jo_aload_n (pc := 0) 0 rfl dX5_signHere_0 rfl ?_
  refine jo_getf (pc := 1) ok_5_9 (ik_144 hw) gw_483 dX5_signHere_1 (fun v1 => ?_)
  refine jo_joinS (S := Unit) (fun (z1 : Unit) => σ) (fun (z1 : Unit) => []) (fun (z1 : Unit) => []) 30 ?_ (fun h30_1 => ?_)
  · intro _
    show JO w mu_X5_signHere vI σ [] [] 30 (j_X5_signHere_30) _
    unfold j_X5_signHere_30
    refine jo_iconst (pc := 30) dX5_signHere_30 (ic_i_m1) ?_
    exact jo_ireturn (pc := 31) rfl rfl dX5_signHere_31
  · refine jo_if_lt (pc := 4) dX5_signHere_4 (tgt := 30) rfl ?_ ?_
    · refine jo_lv (lv' := []) [] rfl ?_
      exact jo_leaf (by rfl) (h30_1 ())
    · refine jo_aload_n (pc := 7) 0 rfl dX5_signHere_7 rfl ?_
      refine jo_getf (pc := 8) ok_5_9 (ik_144 hw) gw_483 dX5_signHere_8 (fun v2 => ?_)
      refine jo_aload_n (pc := 11) 0 rfl dX5_signHere_11 rfl ?_
      refine jo_getf (pc := 12) ok_5_8 (ik_144 hw) gw_482 dX5_signHere_12 (fun v3 => ?_)
      refine jo_icmp_ge (pc := 15) dX5_signHere_15 (tgt := 30) rfl ?_ ?_
      · refine jo_lv (lv' := []) [] rfl ?_
        exact jo_leaf (by rfl) (h30_1 ())
      · refine jo_aload_n (pc := 18) 0 rfl dX5_signHere_18 rfl ?_
        refine jo_getrE (pc := 19) ok_5_7 (ik_144 hw) rf_144_7 gw_481 dX5_signHere_19 ?_
        refine jo_aload_n (pc := 22) 0 rfl dX5_signHere_22 rfl ?_
        refine jo_getf (pc := 23) ok_5_9 (ik_144 hw) gw_483 dX5_signHere_23 (fun v4 => ?_)
        refine jo_iald (pc := 26) (ik_175 hw) dX5_signHere_26 (fun v5 => ?_)
        refine jo_goto (pc := 27) dX5_signHere_27 (tgt := 31) rfl ?_
        exact jo_ireturn (pc := 31) rfl rfl dX5_signHere_31
theorem c_X5_signHere {w : Wd} (hw : WOK w) {σ : Mem} : ∀ r, f_X5_signHere σ = some r → MC w mu_X5_signHere (vI r) [.ref (adr w 144)] σ σ := mc_ofP ok_X5_signHere rfl (Nat.le_of_ble_eq_true rfl) (t_X5_signHere hw)
abbrev mu_X5_skipBlanks : MD := (yX5_skipBlanks, cX5_skipBlanks, 2, some .int, 1)
theorem ok_X5_skipBlanks : MOK mu_X5_skipBlanks 0 := ⟨gw_979, gw_168, (by decide +kernel : plainFor yX5_skipBlanks = true), ⟨(by decide +kernel : yX5_skipBlanks.cls ≠ "java/lang/invoke/MethodHandle"), (by decide +kernel : yX5_skipBlanks.cls ≠ "java/lang/invoke/VarHandle"), (by decide +kernel : (parseMethodDescriptor yX5_skipBlanks.desc).map (fun d => d.parameters.length) = some 0)⟩, Nat.le_of_ble_eq_true rfl⟩
noncomputable def j_X5_skipBlanks_34 (σ1 : Mem) : Option (Int32 × Mem) :=
  (f_X5_signHere σ1).bind (fun (v2 : Int32) => some (v2, σ1))
noncomputable def l_X5_skipBlanks_2 (σ3 : Mem) (i4 : Int32) : Option ((Mem × Int32) ⊕ Mem) :=
  if 200 ≤ i4 then (some (Sum.inr σ3)) else ((f_X5_signHere σ3).bind (fun (v5 : Int32) => if v5 = 32 then (gF σ3 144 9 (fun (v6 : Int32) => pF σ3 144 9 (v6 + 1) (fun (σ7 : Mem) => some (Sum.inl (σ7, i4 + 1))))) else (some (Sum.inr σ3))))
noncomputable def f_X5_skipBlanks (σ : Mem) : Option (Int32 × Mem) :=
  (loopO (fun (z4 : (Mem × Int32)) => l_X5_skipBlanks_2 z4.1 z4.2) (σ, 0) : Option Mem).bind (fun (z1 : Mem) => j_X5_skipBlanks_34 z1)
theorem t_X5_skipBlanks {w : Wd} (hw : WOK w) {σ : Mem} : JO w mu_X5_skipBlanks vI σ [(0, .ref (adr w 144))] [] 0 (f_X5_skipBlanks σ) some := by
  unfold f_X5_skipBlanks
  refine jo_iconst (pc := 0) dX5_skipBlanks_0 (ic_i_0) ?_
  refine jo_istore_n (pc := 1) (lv' := [(1, .int 0), (0, .ref (adr w 144))]) dX5_skipBlanks_1 rfl (ltb rfl) rfl ?_
  refine jo_join1 (S := Mem) (fun (z1 : Mem) => z1) (fun (z1 : Mem) => [(0, .ref (adr w 144))]) (fun (z1 : Mem) => []) 34 ?_ (fun h34_1 => ?_)
  · intro σ1
    show JO w mu_X5_skipBlanks vI σ1 [(0, .ref (adr w 144))] [] 34 (j_X5_skipBlanks_34 σ1) _
    unfold j_X5_skipBlanks_34
    refine jo_aload_n (pc := 34) 0 rfl dX5_skipBlanks_34 rfl ?_
    refine jo_cV_I_p (pc := 35) (μ' := mu_X5_signHere) (fx := f_X5_signHere σ1) (As := []) (c_X5_signHere hw) (ok_X5_signHere) (ltb rfl) (all3 gw_980 gw_982 gw_27) (ik_144 hw) (by decide) (q := (RX5, TX5, 11)) rfl rfl rfl rfl (Nat.le_of_ble_eq_true rfl) dX5_skipBlanks_35 (fun v2 => ?_)
    exact jo_ireturn (pc := 38) rfl rfl dX5_skipBlanks_38
  · refine jo_lv (lv' := [(0, .ref (adr w 144)), (1, .int 0)]) [1, 0] rfl ?_
    refine jo_loop (X := Mem) (fun (z4 : (Mem × Int32)) => z4.1) (fun (z4 : (Mem × Int32)) => [(0, .ref (adr w 144)), (1, .int z4.2)]) (body := (fun (z4 : (Mem × Int32)) => l_X5_skipBlanks_2 z4.1 z4.2)) (fun F2_4 hF2_4 s => ?_) (σ, 0)
    obtain ⟨σ3, i4⟩ := s
    show JO w mu_X5_skipBlanks vI σ3 [(0, .ref (adr w 144)), (1, .int i4)] [] 2 (l_X5_skipBlanks_2 σ3 i4) _
    unfold l_X5_skipBlanks_2
    refine jo_iload_n (pc := 2) 1 rfl dX5_skipBlanks_2 rfl ?_
    refine jo_sipush (pc := 3) dX5_skipBlanks_3 (ic_s_200) ?_
    refine jo_icmp_ge (pc := 6) dX5_skipBlanks_6 (tgt := 34) rfl ?_ ?_
    · refine jo_lv (lv' := [(0, .ref (adr w 144))]) [0] rfl ?_
      exact jo_leaf (by rfl) (h34_1 σ3)
    · refine jo_aload_n (pc := 9) 0 rfl dX5_skipBlanks_9 rfl ?_
      refine jo_cV_I_p (pc := 10) (μ' := mu_X5_signHere) (fx := f_X5_signHere σ3) (As := []) (c_X5_signHere hw) (ok_X5_signHere) (ltb rfl) (all3 gw_980 gw_982 gw_27) (ik_144 hw) (by decide) (q := (RX5, TX5, 11)) rfl rfl rfl rfl (Nat.le_of_ble_eq_true rfl) dX5_skipBlanks_10 (fun v5 => ?_)
      refine jo_bipush (pc := 13) dX5_skipBlanks_13 (ic_b_32) ?_
      refine jo_icmp_ne (pc := 15) dX5_skipBlanks_15 (tgt := 34) rfl ?_ ?_
      · refine jo_lv (lv' := [(0, .ref (adr w 144))]) [0] rfl ?_
        exact jo_leaf (by rfl) (h34_1 σ3)
      · refine jo_aload_n (pc := 18) 0 rfl dX5_skipBlanks_18 rfl ?_
        refine jo_dup (pc := 19) dX5_skipBlanks_19 rfl ?_
        refine jo_getf (pc := 20) ok_5_9 (ik_144 hw) gw_483 dX5_skipBlanks_20 (fun v6 => ?_)
        refine jo_iconst (pc := 23) dX5_skipBlanks_23 (ic_i_1) ?_
        refine jo_iadd (pc := 24) dX5_skipBlanks_24 ?_
        refine jo_putf (pc := 25) ok_5_9 okp_5_9 (ik_144 hw) gw_483 dX5_skipBlanks_25 (fun σ7 => ?_)
        refine jo_iinc (pc := 28) (lv' := [(1, .int (i4 + 1)), (0, .ref (adr w 144))]) 1 rfl dX5_skipBlanks_28 (congrArg (fun z => i4 + z) (ic_i_1)) (ltb rfl) rfl ?_
        refine jo_goto (pc := 31) dX5_skipBlanks_31 (tgt := 2) rfl ?_
        refine jo_lv (lv' := [(0, .ref (adr w 144)), (1, .int (i4 + 1))]) [1, 0] rfl ?_
        exact jo_leaf (by rfl) (hF2_4 (σ7, i4 + 1))
theorem c_X5_skipBlanks {w : Wd} (hw : WOK w) {σ : Mem} : ∀ r σ', f_X5_skipBlanks σ = some (r, σ') → MC w mu_X5_skipBlanks (vI r) [.ref (adr w 144)] σ σ' := mc_of ok_X5_skipBlanks rfl (Nat.le_of_ble_eq_true rfl) (t_X5_skipBlanks hw)
abbrev mu_X5_beginsFactor : MD := (yX5_beginsFactor, cX5_beginsFactor, 1, some .boolean, 0)
theorem ok_X5_beginsFactor : MOK mu_X5_beginsFactor 1 := ⟨gw_986, gw_168, (by decide +kernel : plainFor yX5_beginsFactor = true), ⟨(by decide +kernel : yX5_beginsFactor.cls ≠ "java/lang/invoke/MethodHandle"), (by decide +kernel : yX5_beginsFactor.cls ≠ "java/lang/invoke/VarHandle"), (by decide +kernel : (parseMethodDescriptor yX5_beginsFactor.desc).map (fun d => d.parameters.length) = some 1)⟩, Nat.le_of_ble_eq_true rfl⟩
noncomputable def j_X5_beginsFactor_30  : Option Bool :=
  some true
noncomputable def j_X5_beginsFactor_12 (x0 : Int32) : Option (Unit ⊕ Bool) :=
  if x0 = 82 then (some (Sum.inl ())) else (if x0 = 40 then (some (Sum.inl ())) else (if x0 = 91 then (some (Sum.inl ())) else (some (Sum.inr false))))
noncomputable def f_X5_beginsFactor (σ : Mem) (x0 : Int32) : Option Bool :=
  ((if x0 < 97 then (some (Sum.inl ())) else (if x0 ≤ 102 then (some (Sum.inr (Sum.inl ()))) else (some (Sum.inl ()))) : Option (Unit ⊕ (Unit ⊕ Bool))).bind (Sum.elim (fun (z0 : Unit) => j_X5_beginsFactor_12 x0) some) : Option (Unit ⊕ Bool)).bind (Sum.elim (fun (z0 : Unit) => j_X5_beginsFactor_30) some)
theorem t_X5_beginsFactor {w : Wd} (hw : WOK w) {σ : Mem} {x0 : Int32} : JO w mu_X5_beginsFactor vB σ [(0, .int x0)] [] 0 (f_X5_beginsFactor σ x0) (fun z => some (z, σ)) := by
  unfold f_X5_beginsFactor
  refine jo_iload_n (pc := 0) 0 rfl dX5_beginsFactor_0 rfl ?_
  refine jo_bipush (pc := 1) dX5_beginsFactor_1 (ic_b_97) ?_
  refine jo_joinS (S := Unit) (fun (z0 : Unit) => σ) (fun (z0 : Unit) => []) (fun (z0 : Unit) => []) 30 ?_ (fun h30_0 => ?_)
  · intro _
    show JO w mu_X5_beginsFactor vB σ [] [] 30 (j_X5_beginsFactor_30) _
    unfold j_X5_beginsFactor_30
    refine jo_iconst (pc := 30) dX5_beginsFactor_30 (ic_i_1) ?_
    refine jo_goto (pc := 31) dX5_beginsFactor_31 (tgt := 35) rfl ?_
    exact jo_breturn (pc := 35) (b := true) rfl rfl dX5_beginsFactor_35
  · refine jo_joinS (S := Unit) (fun (z0 : Unit) => σ) (fun (z0 : Unit) => [(0, .int x0)]) (fun (z0 : Unit) => []) 12 ?_ (fun h12_0 => ?_)
    · intro _
      show JO w mu_X5_beginsFactor vB σ [(0, .int x0)] [] 12 (j_X5_beginsFactor_12 x0) _
      unfold j_X5_beginsFactor_12
      refine jo_iload_n (pc := 12) 0 rfl dX5_beginsFactor_12 rfl ?_
      refine jo_bipush (pc := 13) dX5_beginsFactor_13 (ic_b_82) ?_
      refine jo_icmp_eq (pc := 15) dX5_beginsFactor_15 (tgt := 30) rfl ?_ ?_
      · refine jo_lv (lv' := []) [] rfl ?_
        exact jo_leaf (by rfl) (h30_0 ())
      · refine jo_iload_n (pc := 18) 0 rfl dX5_beginsFactor_18 rfl ?_
        refine jo_bipush (pc := 19) dX5_beginsFactor_19 (ic_b_40) ?_
        refine jo_icmp_eq (pc := 21) dX5_beginsFactor_21 (tgt := 30) rfl ?_ ?_
        · refine jo_lv (lv' := []) [] rfl ?_
          exact jo_leaf (by rfl) (h30_0 ())
        · refine jo_iload_n (pc := 24) 0 rfl dX5_beginsFactor_24 rfl ?_
          refine jo_bipush (pc := 25) dX5_beginsFactor_25 (ic_b_91) ?_
          refine jo_icmp_ne (pc := 27) dX5_beginsFactor_27 (tgt := 34) rfl ?_ ?_
          · refine jo_iconst (pc := 34) dX5_beginsFactor_34 (ic_i_0) ?_
            exact jo_breturn (pc := 35) (b := false) rfl rfl dX5_beginsFactor_35
          · refine jo_lv (lv' := []) [] rfl ?_
            exact jo_leaf (by rfl) (h30_0 ())
    · refine jo_icmp_lt (pc := 3) dX5_beginsFactor_3 (tgt := 12) rfl ?_ ?_
      · exact jo_leaf (by rfl) (h12_0 ())
      · refine jo_iload_n (pc := 6) 0 rfl dX5_beginsFactor_6 rfl ?_
        refine jo_bipush (pc := 7) dX5_beginsFactor_7 (ic_b_102) ?_
        refine jo_icmp_le (pc := 9) dX5_beginsFactor_9 (tgt := 30) rfl ?_ ?_
        · refine jo_lv (lv' := []) [] rfl ?_
          exact jo_leaf (by rfl) (h30_0 ())
        · exact jo_leaf (by rfl) (h12_0 ())
theorem c_X5_beginsFactor {w : Wd} (hw : WOK w) {σ : Mem} {x0 : Int32} : ∀ r, f_X5_beginsFactor σ x0 = some r → MC w mu_X5_beginsFactor (vB r) [.int x0] σ σ := mc_ofP ok_X5_beginsFactor rfl (Nat.le_of_ble_eq_true rfl) (t_X5_beginsFactor hw)
abbrev mu_X5_isDigit : MD := (yX5_isDigit, cX5_isDigit, 1, some .boolean, 0)
theorem ok_X5_isDigit : MOK mu_X5_isDigit 1 := ⟨gw_1030, gw_168, (by decide +kernel : plainFor yX5_isDigit = true), ⟨(by decide +kernel : yX5_isDigit.cls ≠ "java/lang/invoke/MethodHandle"), (by decide +kernel : yX5_isDigit.cls ≠ "java/lang/invoke/VarHandle"), (by decide +kernel : (parseMethodDescriptor yX5_isDigit.desc).map (fun d => d.parameters.length) = some 1)⟩, Nat.le_of_ble_eq_true rfl⟩
noncomputable def j_X5_isDigit_16  : Option Bool :=
  some false
noncomputable def f_X5_isDigit (σ : Mem) (x0 : Int32) : Option Bool :=
  (if x0 < 48 then (some (Sum.inl ())) else (if 57 < x0 then (some (Sum.inl ())) else (some (Sum.inr true))) : Option (Unit ⊕ Bool)).bind (Sum.elim (fun (z0 : Unit) => j_X5_isDigit_16) some)
theorem t_X5_isDigit {w : Wd} (hw : WOK w) {σ : Mem} {x0 : Int32} : JO w mu_X5_isDigit vB σ [(0, .int x0)] [] 0 (f_X5_isDigit σ x0) (fun z => some (z, σ)) := by
  unfold f_X5_isDigit
  refine jo_iload_n (pc := 0) 0 rfl dX5_isDigit_0 rfl ?_
  refine jo_bipush (pc := 1) dX5_isDigit_1 (ic_b_48) ?_
  refine jo_joinS (S := Unit) (fun (z0 : Unit) => σ) (fun (z0 : Unit) => []) (fun (z0 : Unit) => []) 16 ?_ (fun h16_0 => ?_)
  · intro _
    show JO w mu_X5_isDigit vB σ [] [] 16 (j_X5_isDigit_16) _
    unfold j_X5_isDigit_16
    refine jo_iconst (pc := 16) dX5_isDigit_16 (ic_i_0) ?_
    exact jo_breturn (pc := 17) (b := false) rfl rfl dX5_isDigit_17
  · refine jo_icmp_lt (pc := 3) dX5_isDigit_3 (tgt := 16) rfl ?_ ?_
    · refine jo_lv (lv' := []) [] rfl ?_
      exact jo_leaf (by rfl) (h16_0 ())
    · refine jo_iload_n (pc := 6) 0 rfl dX5_isDigit_6 rfl ?_
      refine jo_bipush (pc := 7) dX5_isDigit_7 (ic_b_57) ?_
      refine jo_icmp_gt (pc := 9) dX5_isDigit_9 (tgt := 16) rfl ?_ ?_
      · refine jo_lv (lv' := []) [] rfl ?_
        exact jo_leaf (by rfl) (h16_0 ())
      · refine jo_iconst (pc := 12) dX5_isDigit_12 (ic_i_1) ?_
        refine jo_goto (pc := 13) dX5_isDigit_13 (tgt := 17) rfl ?_
        exact jo_breturn (pc := 17) (b := true) rfl rfl dX5_isDigit_17
theorem c_X5_isDigit {w : Wd} (hw : WOK w) {σ : Mem} {x0 : Int32} : ∀ r, f_X5_isDigit σ x0 = some r → MC w mu_X5_isDigit (vB r) [.int x0] σ σ := mc_ofP ok_X5_isDigit rfl (Nat.le_of_ble_eq_true rfl) (t_X5_isDigit hw)
abbrev mu_X5_fail : MD := (yX5_fail, cX5_fail, 3, some .boolean, 0)
theorem ok_X5_fail : MOK mu_X5_fail 2 := ⟨gw_999, gw_168, (by decide +kernel : plainFor yX5_fail = true), ⟨(by decide +kernel : yX5_fail.cls ≠ "java/lang/invoke/MethodHandle"), (by decide +kernel : yX5_fail.cls ≠ "java/lang/invoke/VarHandle"), (by decide +kernel : (parseMethodDescriptor yX5_fail.desc).map (fun d => d.parameters.length) = some 2)⟩, Nat.le_of_ble_eq_true rfl⟩
noncomputable def f_X5_fail (σ : Mem) (x0 : Int32) (x1 : Int32) : Option (Bool × Mem) :=
  pF σ 144 0 x0 (fun (σ1 : Mem) => pF σ1 144 1 x1 (fun (σ2 : Mem) => some (false, σ2)))
theorem t_X5_fail {w : Wd} (hw : WOK w) {σ : Mem} {x0 : Int32} {x1 : Int32} : JO w mu_X5_fail vB σ [(0, .ref (adr w 144)), (1, .int x0), (2, .int x1)] [] 0 (f_X5_fail σ x0 x1) some := by
  unfold f_X5_fail
  refine jo_aload_n (pc := 0) 0 rfl dX5_fail_0 rfl ?_
  refine jo_iload_n (pc := 1) 1 rfl dX5_fail_1 rfl ?_
  refine jo_putf (pc := 2) ok_5_0 okp_5_0 (ik_144 hw) gw_471 dX5_fail_2 (fun σ1 => ?_)
  refine jo_aload_n (pc := 5) 0 rfl dX5_fail_5 rfl ?_
  refine jo_iload_n (pc := 6) 2 rfl dX5_fail_6 rfl ?_
  refine jo_putf (pc := 7) ok_5_1 okp_5_1 (ik_144 hw) gw_473 dX5_fail_7 (fun σ2 => ?_)
  refine jo_iconst (pc := 10) dX5_fail_10 (ic_i_0) ?_
  exact jo_breturn (pc := 11) (b := false) rfl rfl dX5_fail_11
theorem c_X5_fail {w : Wd} (hw : WOK w) {σ : Mem} {x0 : Int32} {x1 : Int32} : ∀ r σ', f_X5_fail σ x0 x1 = some (r, σ') → MC w mu_X5_fail (vB r) [.ref (adr w 144), .int x0, .int x1] σ σ' := mc_of ok_X5_fail rfl (Nat.le_of_ble_eq_true rfl) (t_X5_fail hw)
abbrev mu_X5_readPower : MD := (yX5_readPower, cX5_readPower, 6, some .boolean, 4)
theorem ok_X5_readPower : MOK mu_X5_readPower 1 := ⟨gw_1027, gw_168, (by decide +kernel : plainFor yX5_readPower = true), ⟨(by decide +kernel : yX5_readPower.cls ≠ "java/lang/invoke/MethodHandle"), (by decide +kernel : yX5_readPower.cls ≠ "java/lang/invoke/VarHandle"), (by decide +kernel : (parseMethodDescriptor yX5_readPower.desc).map (fun d => d.parameters.length) = some 1)⟩, Nat.le_of_ble_eq_true rfl⟩
noncomputable def j_X5_readPower_202 (σ20 : Mem) : Option (Bool × Mem) :=
  some (true, σ20)
noncomputable def j_X5_readPower_169 (x0 : Nat) (σ13 : Mem) (l15 : Int64) : Option (Bool × Mem) :=
  (f_X0_raise σ13 x0 x0 l15).bind (fun (σ16 : Mem) => gF σ16 144 9 (fun (v17 : Int32) => pF σ16 144 10 v17 (fun (σ18 : Mem) => (f_X0_isWithin σ18 x0 999).bind (fun (b19 : Bool) => (if b19 then some (Sum.inl σ18) else gF σ18 144 9 (fun (v21 : Int32) => bq (f_X5_fail σ18 5 v21) (fun (b22 : Bool) (σ23 : Mem) => if b22 then some (Sum.inl σ23) else some (Sum.inr (false, σ23)))) : Option (Mem ⊕ (Bool × Mem))).bind (Sum.elim (fun (z20 : Mem) => j_X5_readPower_202 z20) some)))))
noncomputable def j_X5_readPower_135 (x0 : Nat) (b7 : Bool) (v12 : Int32) (σ13 : Mem) (i14 : Int32) : Option (Bool × Mem) :=
  if i14 ≤ 99 then ((if b7 then some (Int32.toInt64 (-i14)) else some (Int32.toInt64 i14) : Option Int64).bind (fun (z15 : Int64) => j_X5_readPower_169 x0 σ13 z15)) else (bq (f_X5_fail σ13 2 v12) (fun (b24 : Bool) (σ25 : Mem) => some (b24, σ25)))
noncomputable def l_X5_readPower_81 (σ26 : Mem) (i27 : Int32) (i28 : Int32) : Option ((Mem × Int32 × Int32) ⊕ (Mem × Int32)) :=
  if 200 ≤ i28 then (some (Sum.inr (σ26, i27))) else ((f_X5_signHere σ26).bind (fun (v29 : Int32) => (f_X5_isDigit σ26 v29).bind (fun (b30 : Bool) => if b30 then (f_X5_signHere σ26).bind (fun (v31 : Int32) => (f_J9_min_7cf53 σ26 (((i27 * 10) + v31) - 48) 100).bind (fun (v32 : Int32) => gF σ26 144 9 (fun (v33 : Int32) => pF σ26 144 9 (v33 + 1) (fun (σ34 : Mem) => some (Sum.inl (σ34, v32, i28 + 1)))))) else some (Sum.inr (σ26, i27)))))
noncomputable def j_X5_readPower_50 (x0 : Nat) (b7 : Bool) (σ8 : Mem) : Option (Bool × Mem) :=
  bq (f_X5_skipBlanks σ8) (fun (v9 : Int32) (σ10 : Mem) => (f_X5_isDigit σ10 v9).bind (fun (b11 : Bool) => if b11 then gF σ10 144 9 (fun (v12 : Int32) => (loopO (fun (z28 : (Mem × Int32 × Int32)) => l_X5_readPower_81 z28.1 z28.2.1 z28.2.2) (σ10, 0, 0) : Option (Mem × Int32)).bind (fun (z14 : (Mem × Int32)) => j_X5_readPower_135 x0 b7 v12 z14.1 z14.2)) else gF σ10 144 9 (fun (v35 : Int32) => bq (f_X5_fail σ10 1 v35) (fun (b36 : Bool) (σ37 : Mem) => some (b36, σ37)))))
noncomputable def j_X5_readPower_35 (x0 : Nat) (σ6 : Mem) (b7 : Bool) : Option (Bool × Mem) :=
  (if b7 then gF σ6 144 9 (fun (v38 : Int32) => pF σ6 144 9 (v38 + 1) (fun (σ39 : Mem) => some σ39)) else some σ6 : Option Mem).bind (fun (z8 : Mem) => j_X5_readPower_50 x0 b7 z8)
noncomputable def f_X5_readPower (σ : Mem) (x0 : Nat) : Option (Bool × Mem) :=
  bq (f_X5_skipBlanks σ) (fun (v1 : Int32) (σ2 : Mem) => if v1 = 94 then (gF σ2 144 9 (fun (v3 : Int32) => pF σ2 144 9 (v3 + 1) (fun (σ4 : Mem) => bq (f_X5_skipBlanks σ4) (fun (v5 : Int32) (σ6 : Mem) => (if v5 = 45 then (some true) else (some false) : Option Bool).bind (fun (z7 : Bool) => j_X5_readPower_35 x0 σ6 z7))))) else (some (true, σ2)))
theorem t_X5_readPower {w : Wd} (hw : WOK w) {σ : Mem} {x0 : Nat} (hx0 : isk w x0 13) : JO w mu_X5_readPower vB σ [(0, .ref (adr w 144)), (1, .ref (adr w x0))] [] 0 (f_X5_readPower σ x0) some := by
  unfold f_X5_readPower
  refine jo_aload_n (pc := 0) 0 rfl dX5_readPower_0 rfl ?_
  refine jo_cV_I_i (pc := 1) (μ' := mu_X5_skipBlanks) (fx := f_X5_skipBlanks σ) (As := []) (c_X5_skipBlanks hw) (ok_X5_skipBlanks) (ltb rfl) (all3 gw_976 gw_978 gw_26) (ik_144 hw) (by decide) (q := (RX5, TX5, 11)) rfl rfl rfl rfl (Nat.le_of_ble_eq_true rfl) dX5_readPower_1 (fun v1 σ2 => ?_)
  refine jo_bipush (pc := 4) dX5_readPower_4 (ic_b_94) ?_
  refine jo_icmp_eq (pc := 6) dX5_readPower_6 (tgt := 11) rfl ?_ ?_
  · refine jo_aload_n (pc := 11) 0 rfl dX5_readPower_11 rfl ?_
    refine jo_dup (pc := 12) dX5_readPower_12 rfl ?_
    refine jo_getf (pc := 13) ok_5_9 (ik_144 hw) gw_483 dX5_readPower_13 (fun v3 => ?_)
    refine jo_iconst (pc := 16) dX5_readPower_16 (ic_i_1) ?_
    refine jo_iadd (pc := 17) dX5_readPower_17 ?_
    refine jo_putf (pc := 18) ok_5_9 okp_5_9 (ik_144 hw) gw_483 dX5_readPower_18 (fun σ4 => ?_)
    refine jo_aload_n (pc := 21) 0 rfl dX5_readPower_21 rfl ?_
    refine jo_cV_I_i (pc := 22) (μ' := mu_X5_skipBlanks) (fx := f_X5_skipBlanks σ4) (As := []) (c_X5_skipBlanks hw) (ok_X5_skipBlanks) (ltb rfl) (all3 gw_976 gw_978 gw_26) (ik_144 hw) (by decide) (q := (RX5, TX5, 11)) rfl rfl rfl rfl (Nat.le_of_ble_eq_true rfl) dX5_readPower_22 (fun v5 σ6 => ?_)
    refine jo_bipush (pc := 25) dX5_readPower_25 (ic_b_45) ?_
    refine jo_join1 (S := Bool) (fun (z7 : Bool) => σ6) (fun (z7 : Bool) => [(0, .ref (adr w 144)), (1, .ref (adr w x0))]) (fun (z7 : Bool) => [.int (b2i z7)]) 35 ?_ (fun h35_7 => ?_)
    · intro b7
      show JO w mu_X5_readPower vB σ6 [(0, .ref (adr w 144)), (1, .ref (adr w x0))] [.int (b2i b7)] 35 (j_X5_readPower_35 x0 σ6 b7) _
      unfold j_X5_readPower_35
      refine jo_istore_n (pc := 35) (lv' := [(2, .int (b2i b7)), (0, .ref (adr w 144)), (1, .ref (adr w x0))]) dX5_readPower_35 rfl (ltb rfl) rfl ?_
      refine jo_iload_n (pc := 36) 0 rfl dX5_readPower_36 rfl ?_
      refine jo_join1 (S := Mem) (fun (z8 : Mem) => z8) (fun (z8 : Mem) => [(2, .int (b2i b7)), (0, .ref (adr w 144)), (1, .ref (adr w x0))]) (fun (z8 : Mem) => []) 50 ?_ (fun h50_8 => ?_)
      · intro σ8
        show JO w mu_X5_readPower vB σ8 [(2, .int (b2i b7)), (0, .ref (adr w 144)), (1, .ref (adr w x0))] [] 50 (j_X5_readPower_50 x0 b7 σ8) _
        unfold j_X5_readPower_50
        refine jo_aload_n (pc := 50) 1 rfl dX5_readPower_50 rfl ?_
        refine jo_cV_I_i (pc := 51) (μ' := mu_X5_skipBlanks) (fx := f_X5_skipBlanks σ8) (As := []) (c_X5_skipBlanks hw) (ok_X5_skipBlanks) (ltb rfl) (all3 gw_976 gw_978 gw_26) (ik_144 hw) (by decide) (q := (RX5, TX5, 11)) rfl rfl rfl rfl (Nat.le_of_ble_eq_true rfl) dX5_readPower_51 (fun v9 σ10 => ?_)
        refine jo_cS_Z_p (pc := 54) (μ' := mu_X5_isDigit) (fx := f_X5_isDigit σ10 v9) (As := [.int v9]) (c_X5_isDigit hw) (ok_X5_isDigit) (ltb rfl) (all2 gw_1028 gw_1029) rfl rfl (Nat.le_of_ble_eq_true rfl) dX5_readPower_54 (fun b11 => ?_)
        refine jo_ifz_ne (pc := 57) dX5_readPower_57 (tgt := 70) rfl ?_ ?_
        · refine jo_aload_n (pc := 70) 1 rfl dX5_readPower_70 rfl ?_
          refine jo_getf (pc := 71) ok_5_9 (ik_144 hw) gw_483 dX5_readPower_71 (fun v12 => ?_)
          refine jo_istore_n (pc := 74) (lv' := [(3, .int v12), (2, .int (b2i b7)), (0, .ref (adr w 144)), (1, .ref (adr w x0))]) dX5_readPower_74 rfl (ltb rfl) rfl ?_
          refine jo_iconst (pc := 75) dX5_readPower_75 (ic_i_0) ?_
          refine jo_istore (pc := 76) (lv' := [(4, .int 0), (3, .int v12), (2, .int (b2i b7)), (0, .ref (adr w 144)), (1, .ref (adr w x0))]) dX5_readPower_76 (ltb rfl) rfl ?_
          refine jo_iconst (pc := 78) dX5_readPower_78 (ic_i_0) ?_
          refine jo_istore (pc := 79) (lv' := [(5, .int 0), (4, .int 0), (3, .int v12), (2, .int (b2i b7)), (0, .ref (adr w 144)), (1, .ref (adr w x0))]) dX5_readPower_79 (ltb rfl) rfl ?_
          refine jo_join1 (S := (Mem × Int32)) (fun (z14 : (Mem × Int32)) => z14.1) (fun (z14 : (Mem × Int32)) => [(3, .int v12), (2, .int (b2i b7)), (0, .ref (adr w 144)), (1, .ref (adr w x0)), (4, .int z14.2)]) (fun (z14 : (Mem × Int32)) => []) 135 ?_ (fun h135_14 => ?_)
          · intro s
            obtain ⟨σ13, i14⟩ := s
            show JO w mu_X5_readPower vB σ13 [(3, .int v12), (2, .int (b2i b7)), (0, .ref (adr w 144)), (1, .ref (adr w x0)), (4, .int i14)] [] 135 (j_X5_readPower_135 x0 b7 v12 σ13 i14) _
            unfold j_X5_readPower_135
            refine jo_iload (pc := 135) 4 rfl dX5_readPower_135 ?_
            refine jo_bipush (pc := 137) dX5_readPower_137 (ic_b_99) ?_
            refine jo_icmp_le (pc := 139) dX5_readPower_139 (tgt := 149) rfl ?_ ?_
            · refine jo_aload_n (pc := 149) 2 rfl dX5_readPower_149 rfl ?_
              refine jo_getrE (pc := 150) ok_5_6 (ik_144 hw) rf_144_6 gw_480 dX5_readPower_150 ?_
              refine jo_aload_n (pc := 153) 3 rfl dX5_readPower_153 rfl ?_
              refine jo_aload_n (pc := 154) 3 rfl dX5_readPower_154 rfl ?_
              refine jo_iload_n (pc := 155) 1 rfl dX5_readPower_155 rfl ?_
              refine jo_join1 (S := Int64) (fun (z15 : Int64) => σ13) (fun (z15 : Int64) => [(0, .ref (adr w 144)), (1, .ref (adr w x0))]) (fun (z15 : Int64) => [.long z15, .ref (adr w x0), .ref (adr w x0), .ref (adr w 72)]) 169 ?_ (fun h169_15 => ?_)
              · intro l15
                show JO w mu_X5_readPower vB σ13 [(0, .ref (adr w 144)), (1, .ref (adr w x0))] [.long l15, .ref (adr w x0), .ref (adr w x0), .ref (adr w 72)] 169 (j_X5_readPower_169 x0 σ13 l15) _
                unfold j_X5_readPower_169
                refine jo_cV_V_i (pc := 169) (μ' := mu_X0_raise) (fx := f_X0_raise σ13 x0 x0 l15) (As := [.ref (adr w x0), .ref (adr w x0), .long l15]) (c_X0_raise hw (hx0) (hx0)) (ok_X0_raise) (ltb rfl) (all3 gw_1031 gw_846 gw_847) (ik_72 hw) (by decide) (q := (RX0, TX0, 8)) rfl rfl rfl rfl (Nat.le_of_ble_eq_true rfl) dX5_readPower_169 (fun σ16 => ?_)
                refine jo_aload_n (pc := 172) 0 rfl dX5_readPower_172 rfl ?_
                refine jo_aload_n (pc := 173) 0 rfl dX5_readPower_173 rfl ?_
                refine jo_getf (pc := 174) ok_5_9 (ik_144 hw) gw_483 dX5_readPower_174 (fun v17 => ?_)
                refine jo_putf (pc := 177) ok_5_10 okp_5_10 (ik_144 hw) gw_484 dX5_readPower_177 (fun σ18 => ?_)
                refine jo_aload_n (pc := 180) 1 rfl dX5_readPower_180 rfl ?_
                refine jo_ldc2 (pc := 181) dX5_readPower_181 gw_1022 ?_
                refine jo_cS_Z_p (pc := 184) (μ' := mu_X0_isWithin) (fx := f_X0_isWithin σ18 x0 999) (As := [.ref (adr w x0), .long 999]) (c_X0_isWithin hw (hx0)) (ok_X0_isWithin) (ltb rfl) (all2 gw_1023 gw_826) rfl rfl (Nat.le_of_ble_eq_true rfl) dX5_readPower_184 (fun b19 => ?_)
                refine jo_joinS (S := Mem) (fun (z20 : Mem) => z20) (fun (z20 : Mem) => []) (fun (z20 : Mem) => []) 202 ?_ (fun h202_20 => ?_)
                · intro σ20
                  show JO w mu_X5_readPower vB σ20 [] [] 202 (j_X5_readPower_202 σ20) _
                  unfold j_X5_readPower_202
                  refine jo_iconst (pc := 202) dX5_readPower_202 (ic_i_1) ?_
                  refine jo_goto (pc := 203) dX5_readPower_203 (tgt := 207) rfl ?_
                  exact jo_breturn (pc := 207) (b := true) rfl rfl dX5_readPower_207
                · refine jo_ifz_ne (pc := 187) dX5_readPower_187 (tgt := 202) rfl ?_ ?_
                  · refine jo_lv (lv' := []) [] rfl ?_
                    exact jo_leaf (by rfl) (h202_20 σ18)
                  · refine jo_aload_n (pc := 190) 0 rfl dX5_readPower_190 rfl ?_
                    refine jo_iconst (pc := 191) dX5_readPower_191 (ic_i_5) ?_
                    refine jo_aload_n (pc := 192) 0 rfl dX5_readPower_192 rfl ?_
                    refine jo_getf (pc := 193) ok_5_9 (ik_144 hw) gw_483 dX5_readPower_193 (fun v21 => ?_)
                    refine jo_cV_Z_i (pc := 196) (μ' := mu_X5_fail) (fx := f_X5_fail σ18 5 v21) (As := [.int 5, .int v21]) (c_X5_fail hw) (ok_X5_fail) (ltb rfl) (all3 gw_996 gw_998 gw_30) (ik_144 hw) (by decide) (q := (RX5, TX5, 11)) rfl rfl rfl rfl (Nat.le_of_ble_eq_true rfl) dX5_readPower_196 (fun b22 σ23 => ?_)
                    refine jo_ifz_eq (pc := 199) dX5_readPower_199 (tgt := 206) rfl ?_ ?_
                    · refine jo_iconst (pc := 206) dX5_readPower_206 (ic_i_0) ?_
                      exact jo_breturn (pc := 207) (b := false) rfl rfl dX5_readPower_207
                    · refine jo_lv (lv' := []) [] rfl ?_
                      exact jo_leaf (by rfl) (h202_20 σ23)
              · refine jo_ifz_eq (pc := 156) dX5_readPower_156 (tgt := 166) rfl ?_ ?_
                · refine jo_iload (pc := 166) 4 rfl dX5_readPower_166 ?_
                  refine jo_i2l (pc := 168) dX5_readPower_168 ?_
                  refine jo_lv (lv' := [(0, .ref (adr w 144)), (1, .ref (adr w x0))]) [2, 3] rfl ?_
                  exact jo_leaf (by rfl) (h169_15 (Int32.toInt64 i14))
                · refine jo_iload (pc := 159) 4 rfl dX5_readPower_159 ?_
                  refine jo_ineg (pc := 161) dX5_readPower_161 ?_
                  refine jo_i2l (pc := 162) dX5_readPower_162 ?_
                  refine jo_goto (pc := 163) dX5_readPower_163 (tgt := 169) rfl ?_
                  refine jo_lv (lv' := [(0, .ref (adr w 144)), (1, .ref (adr w x0))]) [2, 3] rfl ?_
                  exact jo_leaf (by rfl) (h169_15 (Int32.toInt64 (-i14)))
            · refine jo_aload_n (pc := 142) 2 rfl dX5_readPower_142 rfl ?_
              refine jo_iconst (pc := 143) dX5_readPower_143 (ic_i_2) ?_
              refine jo_iload_n (pc := 144) 0 rfl dX5_readPower_144 rfl ?_
              refine jo_cV_Z_i (pc := 145) (μ' := mu_X5_fail) (fx := f_X5_fail σ13 2 v12) (As := [.int 2, .int v12]) (c_X5_fail hw) (ok_X5_fail) (ltb rfl) (all3 gw_996 gw_998 gw_30) (ik_144 hw) (by decide) (q := (RX5, TX5, 11)) rfl rfl rfl rfl (Nat.le_of_ble_eq_true rfl) dX5_readPower_145 (fun b24 σ25 => ?_)
              exact jo_breturn (pc := 148) (b := b24) rfl rfl dX5_readPower_148
          · refine jo_lv (lv' := [(3, .int v12), (2, .int (b2i b7)), (0, .ref (adr w 144)), (1, .ref (adr w x0)), (4, .int 0), (5, .int 0)]) [2, 3, 4, 5, 1, 0] rfl ?_
            refine jo_loop (X := (Mem × Int32)) (fun (z28 : (Mem × Int32 × Int32)) => z28.1) (fun (z28 : (Mem × Int32 × Int32)) => [(3, .int v12), (2, .int (b2i b7)), (0, .ref (adr w 144)), (1, .ref (adr w x0)), (4, .int z28.2.1), (5, .int z28.2.2)]) (body := (fun (z28 : (Mem × Int32 × Int32)) => l_X5_readPower_81 z28.1 z28.2.1 z28.2.2)) (fun F81_28 hF81_28 s => ?_) (σ10, 0, 0)
            obtain ⟨σ26, i27, i28⟩ := s
            show JO w mu_X5_readPower vB σ26 [(3, .int v12), (2, .int (b2i b7)), (0, .ref (adr w 144)), (1, .ref (adr w x0)), (4, .int i27), (5, .int i28)] [] 81 (l_X5_readPower_81 σ26 i27 i28) _
            unfold l_X5_readPower_81
            refine jo_iload (pc := 81) 5 rfl dX5_readPower_81 ?_
            refine jo_sipush (pc := 83) dX5_readPower_83 (ic_s_200) ?_
            refine jo_icmp_ge (pc := 86) dX5_readPower_86 (tgt := 135) rfl ?_ ?_
            · refine jo_lv (lv' := [(3, .int v12), (2, .int (b2i b7)), (0, .ref (adr w 144)), (1, .ref (adr w x0)), (4, .int i27)]) [0, 1, 2, 3, 4] rfl ?_
              exact jo_leaf (by rfl) (h135_14 (σ26, i27))
            · refine jo_aload_n (pc := 89) 2 rfl dX5_readPower_89 rfl ?_
              refine jo_cV_I_p (pc := 90) (μ' := mu_X5_signHere) (fx := f_X5_signHere σ26) (As := []) (c_X5_signHere hw) (ok_X5_signHere) (ltb rfl) (all3 gw_980 gw_982 gw_27) (ik_144 hw) (by decide) (q := (RX5, TX5, 11)) rfl rfl rfl rfl (Nat.le_of_ble_eq_true rfl) dX5_readPower_90 (fun v29 => ?_)
              refine jo_cS_Z_p (pc := 93) (μ' := mu_X5_isDigit) (fx := f_X5_isDigit σ26 v29) (As := [.int v29]) (c_X5_isDigit hw) (ok_X5_isDigit) (ltb rfl) (all2 gw_1028 gw_1029) rfl rfl (Nat.le_of_ble_eq_true rfl) dX5_readPower_93 (fun b30 => ?_)
              refine jo_ifz_eq (pc := 96) dX5_readPower_96 (tgt := 135) rfl ?_ ?_
              · refine jo_lv (lv' := [(3, .int v12), (2, .int (b2i b7)), (0, .ref (adr w 144)), (1, .ref (adr w x0)), (4, .int i27)]) [0, 1, 2, 3, 4] rfl ?_
                exact jo_leaf (by rfl) (h135_14 (σ26, i27))
              · refine jo_iload (pc := 99) 4 rfl dX5_readPower_99 ?_
                refine jo_bipush (pc := 101) dX5_readPower_101 (ic_b_10) ?_
                refine jo_imul (pc := 103) dX5_readPower_103 ?_
                refine jo_aload_n (pc := 104) 2 rfl dX5_readPower_104 rfl ?_
                refine jo_cV_I_p (pc := 105) (μ' := mu_X5_signHere) (fx := f_X5_signHere σ26) (As := []) (c_X5_signHere hw) (ok_X5_signHere) (ltb rfl) (all3 gw_980 gw_982 gw_27) (ik_144 hw) (by decide) (q := (RX5, TX5, 11)) rfl rfl rfl rfl (Nat.le_of_ble_eq_true rfl) dX5_readPower_105 (fun v31 => ?_)
                refine jo_iadd (pc := 108) dX5_readPower_108 ?_
                refine jo_bipush (pc := 109) dX5_readPower_109 (ic_b_48) ?_
                refine jo_isub (pc := 111) dX5_readPower_111 ?_
                refine jo_bipush (pc := 112) dX5_readPower_112 (ic_b_100) ?_
                refine jo_cS_I_p (pc := 114) (μ' := mu_J9_min_7cf53) (fx := f_J9_min_7cf53 σ26 (((i27 * 10) + v31) - 48) 100) (As := [.int (((i27 * 10) + v31) - 48), .int 100]) (c_J9_min_7cf53 hw) (ok_J9_min_7cf53) (ltb rfl) (all2 gw_968 gw_708) rfl rfl (Nat.le_of_ble_eq_true rfl) dX5_readPower_114 (fun v32 => ?_)
                refine jo_istore (pc := 117) (lv' := [(4, .int v32), (3, .int v12), (2, .int (b2i b7)), (0, .ref (adr w 144)), (1, .ref (adr w x0)), (5, .int i28)]) dX5_readPower_117 (ltb rfl) rfl ?_
                refine jo_aload_n (pc := 119) 3 rfl dX5_readPower_119 rfl ?_
                refine jo_dup (pc := 120) dX5_readPower_120 rfl ?_
                refine jo_getf (pc := 121) ok_5_9 (ik_144 hw) gw_483 dX5_readPower_121 (fun v33 => ?_)
                refine jo_iconst (pc := 124) dX5_readPower_124 (ic_i_1) ?_
                refine jo_iadd (pc := 125) dX5_readPower_125 ?_
                refine jo_putf (pc := 126) ok_5_9 okp_5_9 (ik_144 hw) gw_483 dX5_readPower_126 (fun σ34 => ?_)
                refine jo_iinc (pc := 129) (lv' := [(5, .int (i28 + 1)), (4, .int v32), (3, .int v12), (2, .int (b2i b7)), (0, .ref (adr w 144)), (1, .ref (adr w x0))]) 5 rfl dX5_readPower_129 (congrArg (fun z => i28 + z) (ic_i_1)) (ltb rfl) rfl ?_
                refine jo_goto (pc := 132) dX5_readPower_132 (tgt := 81) rfl ?_
                refine jo_lv (lv' := [(3, .int v12), (2, .int (b2i b7)), (0, .ref (adr w 144)), (1, .ref (adr w x0)), (4, .int v32), (5, .int (i28 + 1))]) [2, 3, 4, 5, 1, 0] rfl ?_
                exact jo_leaf (by rfl) (hF81_28 (σ34, v32, i28 + 1))
        · refine jo_aload_n (pc := 60) 1 rfl dX5_readPower_60 rfl ?_
          refine jo_iconst (pc := 61) dX5_readPower_61 (ic_i_1) ?_
          refine jo_aload_n (pc := 62) 1 rfl dX5_readPower_62 rfl ?_
          refine jo_getf (pc := 63) ok_5_9 (ik_144 hw) gw_483 dX5_readPower_63 (fun v35 => ?_)
          refine jo_cV_Z_i (pc := 66) (μ' := mu_X5_fail) (fx := f_X5_fail σ10 1 v35) (As := [.int 1, .int v35]) (c_X5_fail hw) (ok_X5_fail) (ltb rfl) (all3 gw_996 gw_998 gw_30) (ik_144 hw) (by decide) (q := (RX5, TX5, 11)) rfl rfl rfl rfl (Nat.le_of_ble_eq_true rfl) dX5_readPower_66 (fun b36 σ37 => ?_)
          exact jo_breturn (pc := 69) (b := b36) rfl rfl dX5_readPower_69
      · refine jo_ifz_eq (pc := 37) dX5_readPower_37 (tgt := 50) rfl ?_ ?_
        · exact jo_leaf (by rfl) (h50_8 σ6)
        · refine jo_aload_n (pc := 40) 1 rfl dX5_readPower_40 rfl ?_
          refine jo_dup (pc := 41) dX5_readPower_41 rfl ?_
          refine jo_getf (pc := 42) ok_5_9 (ik_144 hw) gw_483 dX5_readPower_42 (fun v38 => ?_)
          refine jo_iconst (pc := 45) dX5_readPower_45 (ic_i_1) ?_
          refine jo_iadd (pc := 46) dX5_readPower_46 ?_
          refine jo_putf (pc := 47) ok_5_9 okp_5_9 (ik_144 hw) gw_483 dX5_readPower_47 (fun σ39 => ?_)
          exact jo_leaf (by rfl) (h50_8 σ39)
    · refine jo_icmp_ne (pc := 27) dX5_readPower_27 (tgt := 34) rfl ?_ ?_
      · refine jo_iconst (pc := 34) dX5_readPower_34 (ic_i_0) ?_
        exact jo_leaf (by rfl) (h35_7 false)
      · refine jo_iconst (pc := 30) dX5_readPower_30 (ic_i_1) ?_
        refine jo_goto (pc := 31) dX5_readPower_31 (tgt := 35) rfl ?_
        exact jo_leaf (by rfl) (h35_7 true)
  · refine jo_iconst (pc := 9) dX5_readPower_9 (ic_i_1) ?_
    exact jo_breturn (pc := 10) (b := true) rfl rfl dX5_readPower_10
theorem c_X5_readPower {w : Wd} (hw : WOK w) {σ : Mem} {x0 : Nat} (hx0 : isk w x0 13) : ∀ r σ', f_X5_readPower σ x0 = some (r, σ') → MC w mu_X5_readPower (vB r) [.ref (adr w 144), .ref (adr w x0)] σ σ' := mc_of ok_X5_readPower rfl (Nat.le_of_ble_eq_true rfl) (t_X5_readPower hw hx0)
abbrev mu_X10_isRegister : MD := (yX10_isRegister, cX10_isRegister, 1, some .boolean, 0)
theorem ok_X10_isRegister : MOK mu_X10_isRegister 1 := ⟨gw_805, gw_158, (by decide +kernel : plainFor yX10_isRegister = true), ⟨(by decide +kernel : yX10_isRegister.cls ≠ "java/lang/invoke/MethodHandle"), (by decide +kernel : yX10_isRegister.cls ≠ "java/lang/invoke/VarHandle"), (by decide +kernel : (parseMethodDescriptor yX10_isRegister.desc).map (fun d => d.parameters.length) = some 1)⟩, Nat.le_of_ble_eq_true rfl⟩
noncomputable def j_X10_isRegister_14  : Option Bool :=
  some false
noncomputable def f_X10_isRegister (σ : Mem) (x0 : Int32) : Option Bool :=
  (if x0 < 0 then (some (Sum.inl ())) else (if 10 ≤ x0 then (some (Sum.inl ())) else (some (Sum.inr true))) : Option (Unit ⊕ Bool)).bind (Sum.elim (fun (z0 : Unit) => j_X10_isRegister_14) some)
theorem t_X10_isRegister {w : Wd} (hw : WOK w) {σ : Mem} {x0 : Int32} : JO w mu_X10_isRegister vB σ [(0, .int x0)] [] 0 (f_X10_isRegister σ x0) (fun z => some (z, σ)) := by
  unfold f_X10_isRegister
  refine jo_iload_n (pc := 0) 0 rfl dX10_isRegister_0 rfl ?_
  refine jo_joinS (S := Unit) (fun (z0 : Unit) => σ) (fun (z0 : Unit) => []) (fun (z0 : Unit) => []) 14 ?_ (fun h14_0 => ?_)
  · intro _
    show JO w mu_X10_isRegister vB σ [] [] 14 (j_X10_isRegister_14) _
    unfold j_X10_isRegister_14
    refine jo_iconst (pc := 14) dX10_isRegister_14 (ic_i_0) ?_
    exact jo_breturn (pc := 15) (b := false) rfl rfl dX10_isRegister_15
  · refine jo_if_lt (pc := 1) dX10_isRegister_1 (tgt := 14) rfl ?_ ?_
    · refine jo_lv (lv' := []) [] rfl ?_
      exact jo_leaf (by rfl) (h14_0 ())
    · refine jo_iload_n (pc := 4) 0 rfl dX10_isRegister_4 rfl ?_
      refine jo_bipush (pc := 5) dX10_isRegister_5 (ic_b_10) ?_
      refine jo_icmp_ge (pc := 7) dX10_isRegister_7 (tgt := 14) rfl ?_ ?_
      · refine jo_lv (lv' := []) [] rfl ?_
        exact jo_leaf (by rfl) (h14_0 ())
      · refine jo_iconst (pc := 10) dX10_isRegister_10 (ic_i_1) ?_
        refine jo_goto (pc := 11) dX10_isRegister_11 (tgt := 15) rfl ?_
        exact jo_breturn (pc := 15) (b := true) rfl rfl dX10_isRegister_15
theorem c_X10_isRegister {w : Wd} (hw : WOK w) {σ : Mem} {x0 : Int32} : ∀ r, f_X10_isRegister σ x0 = some r → MC w mu_X10_isRegister (vB r) [.int x0] σ σ := mc_ofP ok_X10_isRegister rfl (Nat.le_of_ble_eq_true rfl) (t_X10_isRegister hw)
abbrev mu_X5_passFactor : MD := (yX5_passFactor, cX5_passFactor, 1, some .boolean, 0)
theorem ok_X5_passFactor : MOK mu_X5_passFactor 0 := ⟨gw_1004, gw_168, (by decide +kernel : plainFor yX5_passFactor = true), ⟨(by decide +kernel : yX5_passFactor.cls ≠ "java/lang/invoke/MethodHandle"), (by decide +kernel : yX5_passFactor.cls ≠ "java/lang/invoke/VarHandle"), (by decide +kernel : (parseMethodDescriptor yX5_passFactor.desc).map (fun d => d.parameters.length) = some 0)⟩, Nat.le_of_ble_eq_true rfl⟩
noncomputable def f_X5_passFactor (σ : Mem) : Option (Bool × Mem) :=
  gF σ 144 9 (fun (v1 : Int32) => pF σ 144 9 (v1 + 1) (fun (σ2 : Mem) => gF σ2 144 9 (fun (v3 : Int32) => pF σ2 144 10 v3 (fun (σ4 : Mem) => some (true, σ4)))))
theorem t_X5_passFactor {w : Wd} (hw : WOK w) {σ : Mem} : JO w mu_X5_passFactor vB σ [(0, .ref (adr w 144))] [] 0 (f_X5_passFactor σ) some := by
  unfold f_X5_passFactor
  refine jo_aload_n (pc := 0) 0 rfl dX5_passFactor_0 rfl ?_
  refine jo_dup (pc := 1) dX5_passFactor_1 rfl ?_
  refine jo_getf (pc := 2) ok_5_9 (ik_144 hw) gw_483 dX5_passFactor_2 (fun v1 => ?_)
  refine jo_iconst (pc := 5) dX5_passFactor_5 (ic_i_1) ?_
  refine jo_iadd (pc := 6) dX5_passFactor_6 ?_
  refine jo_putf (pc := 7) ok_5_9 okp_5_9 (ik_144 hw) gw_483 dX5_passFactor_7 (fun σ2 => ?_)
  refine jo_aload_n (pc := 10) 0 rfl dX5_passFactor_10 rfl ?_
  refine jo_aload_n (pc := 11) 0 rfl dX5_passFactor_11 rfl ?_
  refine jo_getf (pc := 12) ok_5_9 (ik_144 hw) gw_483 dX5_passFactor_12 (fun v3 => ?_)
  refine jo_putf (pc := 15) ok_5_10 okp_5_10 (ik_144 hw) gw_484 dX5_passFactor_15 (fun σ4 => ?_)
  refine jo_iconst (pc := 18) dX5_passFactor_18 (ic_i_1) ?_
  exact jo_breturn (pc := 19) (b := true) rfl rfl dX5_passFactor_19
theorem c_X5_passFactor {w : Wd} (hw : WOK w) {σ : Mem} : ∀ r σ', f_X5_passFactor σ = some (r, σ') → MC w mu_X5_passFactor (vB r) [.ref (adr w 144)] σ σ' := mc_of ok_X5_passFactor rfl (Nat.le_of_ble_eq_true rfl) (t_X5_passFactor hw)
abbrev mu_X5_readRegister : MD := (yX5_readRegister, cX5_readRegister, 3, some .boolean, 2)
theorem ok_X5_readRegister : MOK mu_X5_readRegister 1 := ⟨gw_994, gw_168, (by decide +kernel : plainFor yX5_readRegister = true), ⟨(by decide +kernel : yX5_readRegister.cls ≠ "java/lang/invoke/MethodHandle"), (by decide +kernel : yX5_readRegister.cls ≠ "java/lang/invoke/VarHandle"), (by decide +kernel : (parseMethodDescriptor yX5_readRegister.desc).map (fun d => d.parameters.length) = some 1)⟩, Nat.le_of_ble_eq_true rfl⟩
noncomputable def f_X5_readRegister (σ : Mem) (x0 : Nat) : Option (Bool × Mem) :=
  gF σ 144 9 (fun (v1 : Int32) => pF σ 144 9 (v1 + 1) (fun (σ2 : Mem) => (f_X5_signHere σ2).bind (fun (v3 : Int32) => bd (v3 - 48) (fun (v4 : Int32) => (f_X10_isRegister σ2 v4).bind (fun (b5 : Bool) => if b5 then gR 5 v4 (fun (p6 : Nat) => (f_X0_copy σ2 p6 x0).bind (fun (σ7 : Mem) => bq (f_X5_passFactor σ7) (fun (b8 : Bool) (σ9 : Mem) => some (b8, σ9)))) else gF σ2 144 9 (fun (v10 : Int32) => bq (f_X5_fail σ2 1 v10) (fun (b11 : Bool) (σ12 : Mem) => some (b11, σ12))))))))
theorem t_X5_readRegister {w : Wd} (hw : WOK w) {σ : Mem} {x0 : Nat} (hx0 : isk w x0 13) : JO w mu_X5_readRegister vB σ [(0, .ref (adr w 144)), (1, .ref (adr w x0))] [] 0 (f_X5_readRegister σ x0) some := by
  unfold f_X5_readRegister
  refine jo_aload_n (pc := 0) 0 rfl dX5_readRegister_0 rfl ?_
  refine jo_dup (pc := 1) dX5_readRegister_1 rfl ?_
  refine jo_getf (pc := 2) ok_5_9 (ik_144 hw) gw_483 dX5_readRegister_2 (fun v1 => ?_)
  refine jo_iconst (pc := 5) dX5_readRegister_5 (ic_i_1) ?_
  refine jo_iadd (pc := 6) dX5_readRegister_6 ?_
  refine jo_putf (pc := 7) ok_5_9 okp_5_9 (ik_144 hw) gw_483 dX5_readRegister_7 (fun σ2 => ?_)
  refine jo_aload_n (pc := 10) 0 rfl dX5_readRegister_10 rfl ?_
  refine jo_cV_I_p (pc := 11) (μ' := mu_X5_signHere) (fx := f_X5_signHere σ2) (As := []) (c_X5_signHere hw) (ok_X5_signHere) (ltb rfl) (all3 gw_980 gw_982 gw_27) (ik_144 hw) (by decide) (q := (RX5, TX5, 11)) rfl rfl rfl rfl (Nat.le_of_ble_eq_true rfl) dX5_readRegister_11 (fun v3 => ?_)
  refine jo_bipush (pc := 14) dX5_readRegister_14 (ic_b_48) ?_
  refine jo_isub (pc := 16) dX5_readRegister_16 ?_
  refine jo_bd ?_
  refine jo_istore_n (pc := 17) (lv' := [(2, .int (v3 - 48)), (0, .ref (adr w 144)), (1, .ref (adr w x0))]) dX5_readRegister_17 rfl (ltb rfl) rfl ?_
  generalize (v3 - 48) = v4
  refine jo_iload_n (pc := 18) 0 rfl dX5_readRegister_18 rfl ?_
  refine jo_cSN_Z_p (pc := 19) (μ' := mu_X10_isRegister) (fx := f_X10_isRegister σ2 v4) (As := [.int v4]) (c_X10_isRegister hw) (ok_X10_isRegister) (ltb rfl) (host := "HallRegisters") (by decide +kernel) gw_804 rfl rfl (Nat.le_of_ble_eq_true rfl) dX5_readRegister_19 (fun b5 => ?_)
  refine jo_ifz_ne (pc := 22) dX5_readRegister_22 (tgt := 35) rfl ?_ ?_
  · refine jo_aload_n (pc := 35) 1 rfl dX5_readRegister_35 rfl ?_
    refine jo_getrE (pc := 36) ok_5_5 (ik_144 hw) rf_144_5 gw_479 dX5_readRegister_36 ?_
    refine jo_getrE (pc := 39) ok_8_1 (ik_1 hw) rf_1_1 gw_222 dX5_readRegister_39 ?_
    refine jo_iload_n (pc := 42) 0 rfl dX5_readRegister_42 rfl ?_
    refine jo_aaldG (pc := 43) (z := 13) hw (ik_5 hw) (by decide) (t := 4) rfl rfl (by decide) dX5_readRegister_43 (fun p6 hp6 => ?_)
    refine jo_aload_n (pc := 44) 2 rfl dX5_readRegister_44 rfl ?_
    refine jo_cS_V_i (pc := 45) (μ' := mu_X0_copy) (fx := f_X0_copy σ2 p6 x0) (As := [.ref (adr w p6), .ref (adr w x0)]) (c_X0_copy hw (hp6) (hx0)) (ok_X0_copy) (ltb rfl) (all2 gw_1000 gw_704) rfl rfl (Nat.le_of_ble_eq_true rfl) dX5_readRegister_45 (fun σ7 => ?_)
    refine jo_aload_n (pc := 48) 1 rfl dX5_readRegister_48 rfl ?_
    refine jo_cV_Z_i (pc := 49) (μ' := mu_X5_passFactor) (fx := f_X5_passFactor σ7) (As := []) (c_X5_passFactor hw) (ok_X5_passFactor) (ltb rfl) (all3 gw_1001 gw_1003 gw_31) (ik_144 hw) (by decide) (q := (RX5, TX5, 11)) rfl rfl rfl rfl (Nat.le_of_ble_eq_true rfl) dX5_readRegister_49 (fun b8 σ9 => ?_)
    exact jo_breturn (pc := 52) (b := b8) rfl rfl dX5_readRegister_52
  · refine jo_aload_n (pc := 25) 1 rfl dX5_readRegister_25 rfl ?_
    refine jo_iconst (pc := 26) dX5_readRegister_26 (ic_i_1) ?_
    refine jo_aload_n (pc := 27) 1 rfl dX5_readRegister_27 rfl ?_
    refine jo_getf (pc := 28) ok_5_9 (ik_144 hw) gw_483 dX5_readRegister_28 (fun v10 => ?_)
    refine jo_cV_Z_i (pc := 31) (μ' := mu_X5_fail) (fx := f_X5_fail σ2 1 v10) (As := [.int 1, .int v10]) (c_X5_fail hw) (ok_X5_fail) (ltb rfl) (all3 gw_996 gw_998 gw_30) (ik_144 hw) (by decide) (q := (RX5, TX5, 11)) rfl rfl rfl rfl (Nat.le_of_ble_eq_true rfl) dX5_readRegister_31 (fun b11 σ12 => ?_)
    exact jo_breturn (pc := 34) (b := b11) rfl rfl dX5_readRegister_34
theorem c_X5_readRegister {w : Wd} (hw : WOK w) {σ : Mem} {x0 : Nat} (hx0 : isk w x0 13) : ∀ r σ', f_X5_readRegister σ x0 = some (r, σ') → MC w mu_X5_readRegister (vB r) [.ref (adr w 144), .ref (adr w x0)] σ σ' := mc_of ok_X5_readRegister rfl (Nat.le_of_ble_eq_true rfl) (t_X5_readRegister hw hx0)
abbrev mu_X5_readLetter : MD := (yX5_readLetter, cX5_readLetter, 3, some .boolean, 2)
theorem ok_X5_readLetter : MOK mu_X5_readLetter 2 := ⟨gw_1008, gw_168, (by decide +kernel : plainFor yX5_readLetter = true), ⟨(by decide +kernel : yX5_readLetter.cls ≠ "java/lang/invoke/MethodHandle"), (by decide +kernel : yX5_readLetter.cls ≠ "java/lang/invoke/VarHandle"), (by decide +kernel : (parseMethodDescriptor yX5_readLetter.desc).map (fun d => d.parameters.length) = some 2)⟩, Nat.le_of_ble_eq_true rfl⟩
noncomputable def j_X5_readLetter_18 (σ : Mem) : Option (Bool × Mem) :=
  gF σ 144 9 (fun (v1 : Int32) => bq (f_X5_fail σ 3 v1) (fun (b2 : Bool) (σ3 : Mem) => some (b2, σ3)))
noncomputable def f_X5_readLetter (σ : Mem) (x0 : Int32) (x1 : Nat) : Option (Bool × Mem) :=
  (if x0 < 0 then (some (Sum.inl ())) else (gF σ 2 0 (fun (v4 : Int32) => if x0 < v4 then ((f_X0_makeGenerator σ x1 x0 1).bind (fun (σ5 : Mem) => bq (f_X5_passFactor σ5) (fun (b6 : Bool) (σ7 : Mem) => some (Sum.inr (b6, σ7))))) else (some (Sum.inl ())))) : Option (Unit ⊕ (Bool × Mem))).bind (Sum.elim (fun (z0 : Unit) => j_X5_readLetter_18 σ) some)
theorem t_X5_readLetter {w : Wd} (hw : WOK w) {σ : Mem} {x0 : Int32} {x1 : Nat} (hx1 : isk w x1 13) : JO w mu_X5_readLetter vB σ [(0, .ref (adr w 144)), (1, .int x0), (2, .ref (adr w x1))] [] 0 (f_X5_readLetter σ x0 x1) some := by
  unfold f_X5_readLetter
  refine jo_iload_n (pc := 0) 1 rfl dX5_readLetter_0 rfl ?_
  refine jo_joinS (S := Unit) (fun (z0 : Unit) => σ) (fun (z0 : Unit) => [(0, .ref (adr w 144))]) (fun (z0 : Unit) => []) 18 ?_ (fun h18_0 => ?_)
  · intro _
    show JO w mu_X5_readLetter vB σ [(0, .ref (adr w 144))] [] 18 (j_X5_readLetter_18 σ) _
    unfold j_X5_readLetter_18
    refine jo_aload_n (pc := 18) 0 rfl dX5_readLetter_18 rfl ?_
    refine jo_iconst (pc := 19) dX5_readLetter_19 (ic_i_3) ?_
    refine jo_aload_n (pc := 20) 0 rfl dX5_readLetter_20 rfl ?_
    refine jo_getf (pc := 21) ok_5_9 (ik_144 hw) gw_483 dX5_readLetter_21 (fun v1 => ?_)
    refine jo_cV_Z_i (pc := 24) (μ' := mu_X5_fail) (fx := f_X5_fail σ 3 v1) (As := [.int 3, .int v1]) (c_X5_fail hw) (ok_X5_fail) (ltb rfl) (all3 gw_996 gw_998 gw_30) (ik_144 hw) (by decide) (q := (RX5, TX5, 11)) rfl rfl rfl rfl (Nat.le_of_ble_eq_true rfl) dX5_readLetter_24 (fun b2 σ3 => ?_)
    exact jo_breturn (pc := 27) (b := b2) rfl rfl dX5_readLetter_27
  · refine jo_if_lt (pc := 1) dX5_readLetter_1 (tgt := 18) rfl ?_ ?_
    · refine jo_lv (lv' := [(0, .ref (adr w 144))]) [0] rfl ?_
      exact jo_leaf (by rfl) (h18_0 ())
    · refine jo_iload_n (pc := 4) 1 rfl dX5_readLetter_4 rfl ?_
      refine jo_aload_n (pc := 5) 0 rfl dX5_readLetter_5 rfl ?_
      refine jo_getrE (pc := 6) ok_5_5 (ik_144 hw) rf_144_5 gw_479 dX5_readLetter_6 ?_
      refine jo_getrE (pc := 9) ok_8_0 (ik_1 hw) rf_1_0 gw_219 dX5_readLetter_9 ?_
      refine jo_getf (pc := 12) ok_6_0 (ik_2 hw) gw_199 dX5_readLetter_12 (fun v4 => ?_)
      refine jo_icmp_lt (pc := 15) dX5_readLetter_15 (tgt := 28) rfl ?_ ?_
      · refine jo_aload_n (pc := 28) 2 rfl dX5_readLetter_28 rfl ?_
        refine jo_iload_n (pc := 29) 1 rfl dX5_readLetter_29 rfl ?_
        refine jo_lconst (pc := 30) dX5_readLetter_30 (ic_l_1) ?_
        refine jo_cS_V_i (pc := 31) (μ' := mu_X0_makeGenerator) (fx := f_X0_makeGenerator σ x1 x0 1) (As := [.ref (adr w x1), .int x0, .long 1]) (c_X0_makeGenerator hw (hx1)) (ok_X0_makeGenerator) (ltb rfl) (all2 gw_1009 gw_1010) rfl rfl (Nat.le_of_ble_eq_true rfl) dX5_readLetter_31 (fun σ5 => ?_)
        refine jo_aload_n (pc := 34) 0 rfl dX5_readLetter_34 rfl ?_
        refine jo_cV_Z_i (pc := 35) (μ' := mu_X5_passFactor) (fx := f_X5_passFactor σ5) (As := []) (c_X5_passFactor hw) (ok_X5_passFactor) (ltb rfl) (all3 gw_1001 gw_1003 gw_31) (ik_144 hw) (by decide) (q := (RX5, TX5, 11)) rfl rfl rfl rfl (Nat.le_of_ble_eq_true rfl) dX5_readLetter_35 (fun b6 σ7 => ?_)
        exact jo_breturn (pc := 38) (b := b6) rfl rfl dX5_readLetter_38
      · refine jo_lv (lv' := [(0, .ref (adr w 144))]) [0] rfl ?_
        exact jo_leaf (by rfl) (h18_0 ())
theorem c_X5_readLetter {w : Wd} (hw : WOK w) {σ : Mem} {x0 : Int32} {x1 : Nat} (hx1 : isk w x1 13) : ∀ r σ', f_X5_readLetter σ x0 x1 = some (r, σ') → MC w mu_X5_readLetter (vB r) [.ref (adr w 144), .int x0, .ref (adr w x1)] σ σ' := mc_of ok_X5_readLetter rfl (Nat.le_of_ble_eq_true rfl) (t_X5_readLetter hw hx1)
abbrev mu_X5_readWord (d : Nat) : MD := (yX5_readWord, cX5_readWord, 4, some .boolean, 5 + d)
theorem ok_X5_readWord (d : Nat) : MOK (mu_X5_readWord d) 1 := ⟨gw_974, gw_168, (by decide +kernel : plainFor yX5_readWord = true), ⟨(by decide +kernel : yX5_readWord.cls ≠ "java/lang/invoke/MethodHandle"), (by decide +kernel : yX5_readWord.cls ≠ "java/lang/invoke/VarHandle"), (by decide +kernel : (parseMethodDescriptor yX5_readWord.desc).map (fun d => d.parameters.length) = some 1)⟩, Nat.le_of_ble_eq_true rfl⟩
abbrev mu_X5_readRound (d : Nat) : MD := (yX5_readRound, cX5_readRound, 2, some .boolean, 5 + d + 1)
theorem ok_X5_readRound (d : Nat) : MOK (mu_X5_readRound d) 1 := ⟨gw_1016, gw_168, (by decide +kernel : plainFor yX5_readRound = true), ⟨(by decide +kernel : yX5_readRound.cls ≠ "java/lang/invoke/MethodHandle"), (by decide +kernel : yX5_readRound.cls ≠ "java/lang/invoke/VarHandle"), (by decide +kernel : (parseMethodDescriptor yX5_readRound.desc).map (fun d => d.parameters.length) = some 1)⟩, Nat.le_of_ble_eq_true rfl⟩
noncomputable def o_X5_readRound (rec : Mem → Int32 → Option (Bool × Mem)) (σ : Mem) (x0 : Int32) : Option (Bool × Mem) :=
  bq (rec σ (x0 + 1)) (fun (b1 : Bool) (σ2 : Mem) => if b1 then (f_X5_signHere σ2).bind (fun (v3 : Int32) => if v3 = 41 then (gR 145 (x0 + 1) (fun (p4 : Nat) => gR 155 x0 (fun (p5 : Nat) => (f_X0_copy σ2 p4 p5).bind (fun (σ6 : Mem) => bq (f_X5_passFactor σ6) (fun (b7 : Bool) (σ8 : Mem) => some (b7, σ8)))))) else (gF σ2 144 9 (fun (v9 : Int32) => bq (f_X5_fail σ2 1 v9) (fun (b10 : Bool) (σ11 : Mem) => some (b10, σ11))))) else some (false, σ2))
theorem t_X5_readRound {w : Wd} (hw : WOK w) {d : Nat} {rec : Mem → Int32 → Option (Bool × Mem)} (hrec : ∀ {τ0 : Mem} {y0 : Int32}, ∀ r τ, rec τ0 y0 = some (r, τ) → MC w (mu_X5_readWord d) (vB r) [.ref (adr w 144), .int y0] τ0 τ) {σ : Mem} {x0 : Int32} : JO w (mu_X5_readRound d) vB σ [(0, .ref (adr w 144)), (1, .int x0)] [] 0 (o_X5_readRound rec σ x0) some := by
  unfold o_X5_readRound
  refine jo_aload_n (pc := 0) 0 rfl dX5_readRound_0 rfl ?_
  refine jo_iload_n (pc := 1) 1 rfl dX5_readRound_1 rfl ?_
  refine jo_iconst (pc := 2) dX5_readRound_2 (ic_i_1) ?_
  refine jo_iadd (pc := 3) dX5_readRound_3 ?_
  refine jo_cV_Z_i (pc := 4) (μ' := (mu_X5_readWord d)) (fx := rec σ (x0 + 1)) (As := [.int (x0 + 1)]) (hrec) (ok_X5_readWord _) (by simp only [mu_X5_readRound, mu_X5_readWord]; omega) (all3 gw_971 gw_973 gw_25) (ik_144 hw) (by decide) (q := (RX5, TX5, 11)) rfl rfl rfl rfl (Nat.le_of_ble_eq_true rfl) dX5_readRound_4 (fun b1 σ2 => ?_)
  refine jo_ifz_ne (pc := 7) dX5_readRound_7 (tgt := 12) rfl ?_ ?_
  · refine jo_aload_n (pc := 12) 0 rfl dX5_readRound_12 rfl ?_
    refine jo_cV_I_p (pc := 13) (μ' := mu_X5_signHere) (fx := f_X5_signHere σ2) (As := []) (c_X5_signHere hw) (ok_X5_signHere) (by simp only [mu_X5_readRound, mu_X5_signHere]; omega) (all3 gw_980 gw_982 gw_27) (ik_144 hw) (by decide) (q := (RX5, TX5, 11)) rfl rfl rfl rfl (Nat.le_of_ble_eq_true rfl) dX5_readRound_13 (fun v3 => ?_)
    refine jo_bipush (pc := 16) dX5_readRound_16 (ic_b_41) ?_
    refine jo_icmp_eq (pc := 18) dX5_readRound_18 (tgt := 31) rfl ?_ ?_
    · refine jo_aload_n (pc := 31) 0 rfl dX5_readRound_31 rfl ?_
      refine jo_getrE (pc := 32) ok_5_2 (ik_144 hw) rf_144_2 gw_475 dX5_readRound_32 ?_
      refine jo_iload_n (pc := 35) 1 rfl dX5_readRound_35 rfl ?_
      refine jo_iconst (pc := 36) dX5_readRound_36 (ic_i_1) ?_
      refine jo_iadd (pc := 37) dX5_readRound_37 ?_
      refine jo_aaldG (pc := 38) (z := 13) hw (ik_145 hw) (by decide) (t := 4) rfl rfl (by decide) dX5_readRound_38 (fun p4 hp4 => ?_)
      refine jo_aload_n (pc := 39) 0 rfl dX5_readRound_39 rfl ?_
      refine jo_getrE (pc := 40) ok_5_3 (ik_144 hw) rf_144_3 gw_477 dX5_readRound_40 ?_
      refine jo_iload_n (pc := 43) 1 rfl dX5_readRound_43 rfl ?_
      refine jo_aaldG (pc := 44) (z := 13) hw (ik_155 hw) (by decide) (t := 4) rfl rfl (by decide) dX5_readRound_44 (fun p5 hp5 => ?_)
      refine jo_cS_V_i (pc := 45) (μ' := mu_X0_copy) (fx := f_X0_copy σ2 p4 p5) (As := [.ref (adr w p4), .ref (adr w p5)]) (c_X0_copy hw (hp4) (hp5)) (ok_X0_copy) (by simp only [mu_X5_readRound, mu_X0_copy]; omega) (all2 gw_1000 gw_704) rfl rfl (Nat.le_of_ble_eq_true rfl) dX5_readRound_45 (fun σ6 => ?_)
      refine jo_aload_n (pc := 48) 0 rfl dX5_readRound_48 rfl ?_
      refine jo_cV_Z_i (pc := 49) (μ' := mu_X5_passFactor) (fx := f_X5_passFactor σ6) (As := []) (c_X5_passFactor hw) (ok_X5_passFactor) (by simp only [mu_X5_readRound, mu_X5_passFactor]; omega) (all3 gw_1001 gw_1003 gw_31) (ik_144 hw) (by decide) (q := (RX5, TX5, 11)) rfl rfl rfl rfl (Nat.le_of_ble_eq_true rfl) dX5_readRound_49 (fun b7 σ8 => ?_)
      exact jo_breturn (pc := 52) (b := b7) rfl rfl dX5_readRound_52
    · refine jo_aload_n (pc := 21) 0 rfl dX5_readRound_21 rfl ?_
      refine jo_iconst (pc := 22) dX5_readRound_22 (ic_i_1) ?_
      refine jo_aload_n (pc := 23) 0 rfl dX5_readRound_23 rfl ?_
      refine jo_getf (pc := 24) ok_5_9 (ik_144 hw) gw_483 dX5_readRound_24 (fun v9 => ?_)
      refine jo_cV_Z_i (pc := 27) (μ' := mu_X5_fail) (fx := f_X5_fail σ2 1 v9) (As := [.int 1, .int v9]) (c_X5_fail hw) (ok_X5_fail) (by simp only [mu_X5_readRound, mu_X5_fail]; omega) (all3 gw_996 gw_998 gw_30) (ik_144 hw) (by decide) (q := (RX5, TX5, 11)) rfl rfl rfl rfl (Nat.le_of_ble_eq_true rfl) dX5_readRound_27 (fun b10 σ11 => ?_)
      exact jo_breturn (pc := 30) (b := b10) rfl rfl dX5_readRound_30
  · refine jo_iconst (pc := 10) dX5_readRound_10 (ic_i_0) ?_
    exact jo_breturn (pc := 11) (b := false) rfl rfl dX5_readRound_11
theorem co_X5_readRound {w : Wd} (hw : WOK w) {d : Nat} {rec : Mem → Int32 → Option (Bool × Mem)} (hrec : ∀ {τ0 : Mem} {y0 : Int32}, ∀ r τ, rec τ0 y0 = some (r, τ) → MC w (mu_X5_readWord d) (vB r) [.ref (adr w 144), .int y0] τ0 τ) {σ : Mem} {x0 : Int32} : ∀ r σ', o_X5_readRound rec σ x0 = some (r, σ') → MC w (mu_X5_readRound d) (vB r) [.ref (adr w 144), .int x0] σ σ' := mc_of (ok_X5_readRound _) rfl (Nat.le_of_ble_eq_true rfl) (t_X5_readRound hw hrec)
abbrev mu_X5_readSquare (d : Nat) : MD := (yX5_readSquare, cX5_readSquare, 4, some .boolean, 5 + d + 1)
theorem ok_X5_readSquare (d : Nat) : MOK (mu_X5_readSquare d) 1 := ⟨gw_1020, gw_168, (by decide +kernel : plainFor yX5_readSquare = true), ⟨(by decide +kernel : yX5_readSquare.cls ≠ "java/lang/invoke/MethodHandle"), (by decide +kernel : yX5_readSquare.cls ≠ "java/lang/invoke/VarHandle"), (by decide +kernel : (parseMethodDescriptor yX5_readSquare.desc).map (fun d => d.parameters.length) = some 1)⟩, Nat.le_of_ble_eq_true rfl⟩
noncomputable def j_X5_readSquare_133 (rec : Mem → Int32 → Option (Bool × Mem)) (x0 : Int32) (p1 : Nat) (σ7 : Mem) : Option (Bool × Mem) :=
  (f_X5_signHere σ7).bind (fun (v8 : Int32) => if v8 = 93 then (gR 155 x0 (fun (p9 : Nat) => (f_X0_copy σ7 p1 p9).bind (fun (σ10 : Mem) => bq (f_X5_passFactor σ10) (fun (b11 : Bool) (σ12 : Mem) => some (b11, σ12))))) else (gF σ7 144 9 (fun (v13 : Int32) => bq (f_X5_fail σ7 1 v13) (fun (b14 : Bool) (σ15 : Mem) => some (b14, σ15)))))
noncomputable def j_X5_readSquare_117 (rec : Mem → Int32 → Option (Bool × Mem)) (σ16 : Mem) : Option (Mem ⊕ (Bool × Mem)) :=
  gF σ16 144 10 (fun (v17 : Int32) => bq (f_X5_fail σ16 5 v17) (fun (b18 : Bool) (σ19 : Mem) => some (Sum.inr (b18, σ19))))
noncomputable def l_X5_readSquare_52 (rec : Mem → Int32 → Option (Bool × Mem)) (x0 : Int32) (p1 : Nat) (σ20 : Mem) (i21 : Int32) : Option ((Mem × Int32) ⊕ (Mem ⊕ (Mem ⊕ (Bool × Mem)))) :=
  if 200 ≤ i21 then (some (Sum.inr (Sum.inr (Sum.inl σ20)))) else ((f_X5_signHere σ20).bind (fun (v22 : Int32) => if v22 = 44 then (gF σ20 144 9 (fun (v23 : Int32) => pF σ20 144 9 (v23 + 1) (fun (σ24 : Mem) => bq (rec σ24 (x0 + 1)) (fun (b25 : Bool) (σ26 : Mem) => if b25 then gR 145 (x0 + 1) (fun (p27 : Nat) => (f_X0_commutator σ26 p1 p1 p27).bind (fun (σ28 : Mem) => (f_X0_isWithin σ28 p1 999).bind (fun (b29 : Bool) => if b29 then some (Sum.inl (σ28, i21 + 1)) else some (Sum.inr (Sum.inl σ28))))) else some (Sum.inr (Sum.inr (Sum.inr (false, σ26)))))))) else (some (Sum.inr (Sum.inr (Sum.inl σ20))))))
noncomputable def o_X5_readSquare (rec : Mem → Int32 → Option (Bool × Mem)) (σ : Mem) (x0 : Int32) : Option (Bool × Mem) :=
  gR 165 x0 (fun (p1 : Nat) => bq (rec σ (x0 + 1)) (fun (b2 : Bool) (σ3 : Mem) => if b2 then gR 145 (x0 + 1) (fun (p4 : Nat) => (f_X0_copy σ3 p4 p1).bind (fun (σ5 : Mem) => (f_X5_signHere σ5).bind (fun (v6 : Int32) => if v6 = 44 then (((loopO (fun (z21 : (Mem × Int32)) => l_X5_readSquare_52 rec x0 p1 z21.1 z21.2) (σ5, 0) : Option (Mem ⊕ (Mem ⊕ (Bool × Mem)))).bind (Sum.elim (fun (z16 : Mem) => j_X5_readSquare_117 rec z16) some) : Option (Mem ⊕ (Bool × Mem))).bind (Sum.elim (fun (z7 : Mem) => j_X5_readSquare_133 rec x0 p1 z7) some)) else (gF σ5 144 9 (fun (v30 : Int32) => bq (f_X5_fail σ5 1 v30) (fun (b31 : Bool) (σ32 : Mem) => some (b31, σ32))))))) else some (false, σ3)))
theorem t_X5_readSquare {w : Wd} (hw : WOK w) {d : Nat} {rec : Mem → Int32 → Option (Bool × Mem)} (hrec : ∀ {τ0 : Mem} {y0 : Int32}, ∀ r τ, rec τ0 y0 = some (r, τ) → MC w (mu_X5_readWord d) (vB r) [.ref (adr w 144), .int y0] τ0 τ) {σ : Mem} {x0 : Int32} : JO w (mu_X5_readSquare d) vB σ [(0, .ref (adr w 144)), (1, .int x0)] [] 0 (o_X5_readSquare rec σ x0) some := by
  unfold o_X5_readSquare
  refine jo_aload_n (pc := 0) 0 rfl dX5_readSquare_0 rfl ?_
  refine jo_getrE (pc := 1) ok_5_4 (ik_144 hw) rf_144_4 gw_478 dX5_readSquare_1 ?_
  refine jo_iload_n (pc := 4) 1 rfl dX5_readSquare_4 rfl ?_
  refine jo_aaldG (pc := 5) (z := 13) hw (ik_165 hw) (by decide) (t := 4) rfl rfl (by decide) dX5_readSquare_5 (fun p1 hp1 => ?_)
  refine jo_astore_n (pc := 6) (lv' := [(2, .ref (adr w p1)), (0, .ref (adr w 144)), (1, .int x0)]) dX5_readSquare_6 rfl (ltb rfl) rfl ?_
  refine jo_aload_n (pc := 7) 1 rfl dX5_readSquare_7 rfl ?_
  refine jo_iload_n (pc := 8) 2 rfl dX5_readSquare_8 rfl ?_
  refine jo_iconst (pc := 9) dX5_readSquare_9 (ic_i_1) ?_
  refine jo_iadd (pc := 10) dX5_readSquare_10 ?_
  refine jo_cV_Z_i (pc := 11) (μ' := (mu_X5_readWord d)) (fx := rec σ (x0 + 1)) (As := [.int (x0 + 1)]) (hrec) (ok_X5_readWord _) (by simp only [mu_X5_readSquare, mu_X5_readWord]; omega) (all3 gw_971 gw_973 gw_25) (ik_144 hw) (by decide) (q := (RX5, TX5, 11)) rfl rfl rfl rfl (Nat.le_of_ble_eq_true rfl) dX5_readSquare_11 (fun b2 σ3 => ?_)
  refine jo_ifz_ne (pc := 14) dX5_readSquare_14 (tgt := 19) rfl ?_ ?_
  · refine jo_aload_n (pc := 19) 1 rfl dX5_readSquare_19 rfl ?_
    refine jo_getrE (pc := 20) ok_5_2 (ik_144 hw) rf_144_2 gw_475 dX5_readSquare_20 ?_
    refine jo_iload_n (pc := 23) 2 rfl dX5_readSquare_23 rfl ?_
    refine jo_iconst (pc := 24) dX5_readSquare_24 (ic_i_1) ?_
    refine jo_iadd (pc := 25) dX5_readSquare_25 ?_
    refine jo_aaldG (pc := 26) (z := 13) hw (ik_145 hw) (by decide) (t := 4) rfl rfl (by decide) dX5_readSquare_26 (fun p4 hp4 => ?_)
    refine jo_aload_n (pc := 27) 0 rfl dX5_readSquare_27 rfl ?_
    refine jo_cS_V_i (pc := 28) (μ' := mu_X0_copy) (fx := f_X0_copy σ3 p4 p1) (As := [.ref (adr w p4), .ref (adr w p1)]) (c_X0_copy hw (hp4) (hp1)) (ok_X0_copy) (by simp only [mu_X5_readSquare, mu_X0_copy]; omega) (all2 gw_1000 gw_704) rfl rfl (Nat.le_of_ble_eq_true rfl) dX5_readSquare_28 (fun σ5 => ?_)
    refine jo_aload_n (pc := 31) 1 rfl dX5_readSquare_31 rfl ?_
    refine jo_cV_I_p (pc := 32) (μ' := mu_X5_signHere) (fx := f_X5_signHere σ5) (As := []) (c_X5_signHere hw) (ok_X5_signHere) (by simp only [mu_X5_readSquare, mu_X5_signHere]; omega) (all3 gw_980 gw_982 gw_27) (ik_144 hw) (by decide) (q := (RX5, TX5, 11)) rfl rfl rfl rfl (Nat.le_of_ble_eq_true rfl) dX5_readSquare_32 (fun v6 => ?_)
    refine jo_bipush (pc := 35) dX5_readSquare_35 (ic_b_44) ?_
    refine jo_icmp_eq (pc := 37) dX5_readSquare_37 (tgt := 50) rfl ?_ ?_
    · refine jo_iconst (pc := 50) dX5_readSquare_50 (ic_i_0) ?_
      refine jo_istore_n (pc := 51) (lv' := [(3, .int 0), (2, .ref (adr w p1)), (0, .ref (adr w 144)), (1, .int x0)]) dX5_readSquare_51 rfl (ltb rfl) rfl ?_
      refine jo_joinS (S := Mem) (fun (z7 : Mem) => z7) (fun (z7 : Mem) => [(2, .ref (adr w p1)), (0, .ref (adr w 144)), (1, .int x0)]) (fun (z7 : Mem) => []) 133 ?_ (fun h133_7 => ?_)
      · intro σ7
        show JO w (mu_X5_readSquare d) vB σ7 [(2, .ref (adr w p1)), (0, .ref (adr w 144)), (1, .int x0)] [] 133 (j_X5_readSquare_133 rec x0 p1 σ7) _
        unfold j_X5_readSquare_133
        refine jo_aload_n (pc := 133) 1 rfl dX5_readSquare_133 rfl ?_
        refine jo_cV_I_p (pc := 134) (μ' := mu_X5_signHere) (fx := f_X5_signHere σ7) (As := []) (c_X5_signHere hw) (ok_X5_signHere) (by simp only [mu_X5_readSquare, mu_X5_signHere]; omega) (all3 gw_980 gw_982 gw_27) (ik_144 hw) (by decide) (q := (RX5, TX5, 11)) rfl rfl rfl rfl (Nat.le_of_ble_eq_true rfl) dX5_readSquare_134 (fun v8 => ?_)
        refine jo_bipush (pc := 137) dX5_readSquare_137 (ic_b_93) ?_
        refine jo_icmp_eq (pc := 139) dX5_readSquare_139 (tgt := 152) rfl ?_ ?_
        · refine jo_aload_n (pc := 152) 0 rfl dX5_readSquare_152 rfl ?_
          refine jo_aload_n (pc := 153) 1 rfl dX5_readSquare_153 rfl ?_
          refine jo_getrE (pc := 154) ok_5_3 (ik_144 hw) rf_144_3 gw_477 dX5_readSquare_154 ?_
          refine jo_iload_n (pc := 157) 2 rfl dX5_readSquare_157 rfl ?_
          refine jo_aaldG (pc := 158) (z := 13) hw (ik_155 hw) (by decide) (t := 4) rfl rfl (by decide) dX5_readSquare_158 (fun p9 hp9 => ?_)
          refine jo_cS_V_i (pc := 159) (μ' := mu_X0_copy) (fx := f_X0_copy σ7 p1 p9) (As := [.ref (adr w p1), .ref (adr w p9)]) (c_X0_copy hw (hp1) (hp9)) (ok_X0_copy) (by simp only [mu_X5_readSquare, mu_X0_copy]; omega) (all2 gw_1000 gw_704) rfl rfl (Nat.le_of_ble_eq_true rfl) dX5_readSquare_159 (fun σ10 => ?_)
          refine jo_aload_n (pc := 162) 1 rfl dX5_readSquare_162 rfl ?_
          refine jo_cV_Z_i (pc := 163) (μ' := mu_X5_passFactor) (fx := f_X5_passFactor σ10) (As := []) (c_X5_passFactor hw) (ok_X5_passFactor) (by simp only [mu_X5_readSquare, mu_X5_passFactor]; omega) (all3 gw_1001 gw_1003 gw_31) (ik_144 hw) (by decide) (q := (RX5, TX5, 11)) rfl rfl rfl rfl (Nat.le_of_ble_eq_true rfl) dX5_readSquare_163 (fun b11 σ12 => ?_)
          exact jo_breturn (pc := 166) (b := b11) rfl rfl dX5_readSquare_166
        · refine jo_aload_n (pc := 142) 1 rfl dX5_readSquare_142 rfl ?_
          refine jo_iconst (pc := 143) dX5_readSquare_143 (ic_i_1) ?_
          refine jo_aload_n (pc := 144) 1 rfl dX5_readSquare_144 rfl ?_
          refine jo_getf (pc := 145) ok_5_9 (ik_144 hw) gw_483 dX5_readSquare_145 (fun v13 => ?_)
          refine jo_cV_Z_i (pc := 148) (μ' := mu_X5_fail) (fx := f_X5_fail σ7 1 v13) (As := [.int 1, .int v13]) (c_X5_fail hw) (ok_X5_fail) (by simp only [mu_X5_readSquare, mu_X5_fail]; omega) (all3 gw_996 gw_998 gw_30) (ik_144 hw) (by decide) (q := (RX5, TX5, 11)) rfl rfl rfl rfl (Nat.le_of_ble_eq_true rfl) dX5_readSquare_148 (fun b14 σ15 => ?_)
          exact jo_breturn (pc := 151) (b := b14) rfl rfl dX5_readSquare_151
      · refine jo_joinS (S := Mem) (fun (z16 : Mem) => z16) (fun (z16 : Mem) => [(0, .ref (adr w 144))]) (fun (z16 : Mem) => []) 117 ?_ (fun h117_16 => ?_)
        · intro σ16
          show JO w (mu_X5_readSquare d) vB σ16 [(0, .ref (adr w 144))] [] 117 (j_X5_readSquare_117 rec σ16) _
          unfold j_X5_readSquare_117
          refine jo_aload_n (pc := 117) 0 rfl dX5_readSquare_117 rfl ?_
          refine jo_iconst (pc := 118) dX5_readSquare_118 (ic_i_5) ?_
          refine jo_aload_n (pc := 119) 0 rfl dX5_readSquare_119 rfl ?_
          refine jo_getf (pc := 120) ok_5_10 (ik_144 hw) gw_484 dX5_readSquare_120 (fun v17 => ?_)
          refine jo_cV_Z_i (pc := 123) (μ' := mu_X5_fail) (fx := f_X5_fail σ16 5 v17) (As := [.int 5, .int v17]) (c_X5_fail hw) (ok_X5_fail) (by simp only [mu_X5_readSquare, mu_X5_fail]; omega) (all3 gw_996 gw_998 gw_30) (ik_144 hw) (by decide) (q := (RX5, TX5, 11)) rfl rfl rfl rfl (Nat.le_of_ble_eq_true rfl) dX5_readSquare_123 (fun b18 σ19 => ?_)
          exact jo_breturn (pc := 126) (b := b18) rfl rfl dX5_readSquare_126
        · refine jo_lv (lv' := [(2, .ref (adr w p1)), (0, .ref (adr w 144)), (1, .int x0), (3, .int 0)]) [1, 2, 3, 0] rfl ?_
          refine jo_loop (X := Mem ⊕ (Mem ⊕ (Bool × Mem))) (fun (z21 : (Mem × Int32)) => z21.1) (fun (z21 : (Mem × Int32)) => [(2, .ref (adr w p1)), (0, .ref (adr w 144)), (1, .int x0), (3, .int z21.2)]) (body := (fun (z21 : (Mem × Int32)) => l_X5_readSquare_52 rec x0 p1 z21.1 z21.2)) (fun F52_21 hF52_21 s => ?_) (σ5, 0)
          obtain ⟨σ20, i21⟩ := s
          show JO w (mu_X5_readSquare d) vB σ20 [(2, .ref (adr w p1)), (0, .ref (adr w 144)), (1, .int x0), (3, .int i21)] [] 52 (l_X5_readSquare_52 rec x0 p1 σ20 i21) _
          unfold l_X5_readSquare_52
          refine jo_iload_n (pc := 52) 3 rfl dX5_readSquare_52 rfl ?_
          refine jo_sipush (pc := 53) dX5_readSquare_53 (ic_s_200) ?_
          refine jo_icmp_ge (pc := 56) dX5_readSquare_56 (tgt := 133) rfl ?_ ?_
          · refine jo_lv (lv' := [(2, .ref (adr w p1)), (0, .ref (adr w 144)), (1, .int x0)]) [0, 1, 2] rfl ?_
            exact jo_leaf (by rfl) (h133_7 σ20)
          · refine jo_aload_n (pc := 59) 1 rfl dX5_readSquare_59 rfl ?_
            refine jo_cV_I_p (pc := 60) (μ' := mu_X5_signHere) (fx := f_X5_signHere σ20) (As := []) (c_X5_signHere hw) (ok_X5_signHere) (by simp only [mu_X5_readSquare, mu_X5_signHere]; omega) (all3 gw_980 gw_982 gw_27) (ik_144 hw) (by decide) (q := (RX5, TX5, 11)) rfl rfl rfl rfl (Nat.le_of_ble_eq_true rfl) dX5_readSquare_60 (fun v22 => ?_)
            refine jo_bipush (pc := 63) dX5_readSquare_63 (ic_b_44) ?_
            refine jo_icmp_ne (pc := 65) dX5_readSquare_65 (tgt := 133) rfl ?_ ?_
            · refine jo_lv (lv' := [(2, .ref (adr w p1)), (0, .ref (adr w 144)), (1, .int x0)]) [0, 1, 2] rfl ?_
              exact jo_leaf (by rfl) (h133_7 σ20)
            · refine jo_aload_n (pc := 68) 1 rfl dX5_readSquare_68 rfl ?_
              refine jo_dup (pc := 69) dX5_readSquare_69 rfl ?_
              refine jo_getf (pc := 70) ok_5_9 (ik_144 hw) gw_483 dX5_readSquare_70 (fun v23 => ?_)
              refine jo_iconst (pc := 73) dX5_readSquare_73 (ic_i_1) ?_
              refine jo_iadd (pc := 74) dX5_readSquare_74 ?_
              refine jo_putf (pc := 75) ok_5_9 okp_5_9 (ik_144 hw) gw_483 dX5_readSquare_75 (fun σ24 => ?_)
              refine jo_aload_n (pc := 78) 1 rfl dX5_readSquare_78 rfl ?_
              refine jo_iload_n (pc := 79) 2 rfl dX5_readSquare_79 rfl ?_
              refine jo_iconst (pc := 80) dX5_readSquare_80 (ic_i_1) ?_
              refine jo_iadd (pc := 81) dX5_readSquare_81 ?_
              refine jo_cV_Z_i (pc := 82) (μ' := (mu_X5_readWord d)) (fx := rec σ24 (x0 + 1)) (As := [.int (x0 + 1)]) (hrec) (ok_X5_readWord _) (by simp only [mu_X5_readSquare, mu_X5_readWord]; omega) (all3 gw_971 gw_973 gw_25) (ik_144 hw) (by decide) (q := (RX5, TX5, 11)) rfl rfl rfl rfl (Nat.le_of_ble_eq_true rfl) dX5_readSquare_82 (fun b25 σ26 => ?_)
              refine jo_ifz_ne (pc := 85) dX5_readSquare_85 (tgt := 90) rfl ?_ ?_
              · refine jo_aload_n (pc := 90) 1 rfl dX5_readSquare_90 rfl ?_
                refine jo_getrE (pc := 91) ok_5_6 (ik_144 hw) rf_144_6 gw_480 dX5_readSquare_91 ?_
                refine jo_aload_n (pc := 94) 0 rfl dX5_readSquare_94 rfl ?_
                refine jo_aload_n (pc := 95) 0 rfl dX5_readSquare_95 rfl ?_
                refine jo_aload_n (pc := 96) 1 rfl dX5_readSquare_96 rfl ?_
                refine jo_getrE (pc := 97) ok_5_2 (ik_144 hw) rf_144_2 gw_475 dX5_readSquare_97 ?_
                refine jo_iload_n (pc := 100) 2 rfl dX5_readSquare_100 rfl ?_
                refine jo_iconst (pc := 101) dX5_readSquare_101 (ic_i_1) ?_
                refine jo_iadd (pc := 102) dX5_readSquare_102 ?_
                refine jo_aaldG (pc := 103) (z := 13) hw (ik_145 hw) (by decide) (t := 4) rfl rfl (by decide) dX5_readSquare_103 (fun p27 hp27 => ?_)
                refine jo_cV_V_i (pc := 104) (μ' := mu_X0_commutator) (fx := f_X0_commutator σ26 p1 p1 p27) (As := [.ref (adr w p1), .ref (adr w p1), .ref (adr w p27)]) (c_X0_commutator hw (hp1) (hp1) (hp27)) (ok_X0_commutator) (by simp only [mu_X5_readSquare, mu_X0_commutator]; omega) (all3 gw_1021 gw_871 gw_872) (ik_72 hw) (by decide) (q := (RX0, TX0, 8)) rfl rfl rfl rfl (Nat.le_of_ble_eq_true rfl) dX5_readSquare_104 (fun σ28 => ?_)
                refine jo_aload_n (pc := 107) 0 rfl dX5_readSquare_107 rfl ?_
                refine jo_ldc2 (pc := 108) dX5_readSquare_108 gw_1022 ?_
                refine jo_cS_Z_p (pc := 111) (μ' := mu_X0_isWithin) (fx := f_X0_isWithin σ28 p1 999) (As := [.ref (adr w p1), .long 999]) (c_X0_isWithin hw (hp1)) (ok_X0_isWithin) (by simp only [mu_X5_readSquare, mu_X0_isWithin]; omega) (all2 gw_1023 gw_826) rfl rfl (Nat.le_of_ble_eq_true rfl) dX5_readSquare_111 (fun b29 => ?_)
                refine jo_ifz_ne (pc := 114) dX5_readSquare_114 (tgt := 127) rfl ?_ ?_
                · refine jo_iinc (pc := 127) (lv' := [(3, .int (i21 + 1)), (2, .ref (adr w p1)), (0, .ref (adr w 144)), (1, .int x0)]) 3 rfl dX5_readSquare_127 (congrArg (fun z => i21 + z) (ic_i_1)) (ltb rfl) rfl ?_
                  refine jo_goto (pc := 130) dX5_readSquare_130 (tgt := 52) rfl ?_
                  refine jo_lv (lv' := [(2, .ref (adr w p1)), (0, .ref (adr w 144)), (1, .int x0), (3, .int (i21 + 1))]) [1, 2, 3, 0] rfl ?_
                  exact jo_leaf (by rfl) (hF52_21 (σ28, i21 + 1))
                · refine jo_lv (lv' := [(0, .ref (adr w 144))]) [1] rfl ?_
                  exact jo_leaf (by rfl) (h117_16 σ28)
              · refine jo_iconst (pc := 88) dX5_readSquare_88 (ic_i_0) ?_
                exact jo_breturn (pc := 89) (b := false) rfl rfl dX5_readSquare_89
    · refine jo_aload_n (pc := 40) 1 rfl dX5_readSquare_40 rfl ?_
      refine jo_iconst (pc := 41) dX5_readSquare_41 (ic_i_1) ?_
      refine jo_aload_n (pc := 42) 1 rfl dX5_readSquare_42 rfl ?_
      refine jo_getf (pc := 43) ok_5_9 (ik_144 hw) gw_483 dX5_readSquare_43 (fun v30 => ?_)
      refine jo_cV_Z_i (pc := 46) (μ' := mu_X5_fail) (fx := f_X5_fail σ5 1 v30) (As := [.int 1, .int v30]) (c_X5_fail hw) (ok_X5_fail) (by simp only [mu_X5_readSquare, mu_X5_fail]; omega) (all3 gw_996 gw_998 gw_30) (ik_144 hw) (by decide) (q := (RX5, TX5, 11)) rfl rfl rfl rfl (Nat.le_of_ble_eq_true rfl) dX5_readSquare_46 (fun b31 σ32 => ?_)
      exact jo_breturn (pc := 49) (b := b31) rfl rfl dX5_readSquare_49
  · refine jo_iconst (pc := 17) dX5_readSquare_17 (ic_i_0) ?_
    exact jo_breturn (pc := 18) (b := false) rfl rfl dX5_readSquare_18
theorem co_X5_readSquare {w : Wd} (hw : WOK w) {d : Nat} {rec : Mem → Int32 → Option (Bool × Mem)} (hrec : ∀ {τ0 : Mem} {y0 : Int32}, ∀ r τ, rec τ0 y0 = some (r, τ) → MC w (mu_X5_readWord d) (vB r) [.ref (adr w 144), .int y0] τ0 τ) {σ : Mem} {x0 : Int32} : ∀ r σ', o_X5_readSquare rec σ x0 = some (r, σ') → MC w (mu_X5_readSquare d) (vB r) [.ref (adr w 144), .int x0] σ σ' := mc_of (ok_X5_readSquare _) rfl (Nat.le_of_ble_eq_true rfl) (t_X5_readSquare hw hrec)
abbrev mu_X5_readFactor (d : Nat) : MD := (yX5_readFactor, cX5_readFactor, 3, some .boolean, 5 + d + 2)
theorem ok_X5_readFactor (d : Nat) : MOK (mu_X5_readFactor d) 1 := ⟨gw_990, gw_168, (by decide +kernel : plainFor yX5_readFactor = true), ⟨(by decide +kernel : yX5_readFactor.cls ≠ "java/lang/invoke/MethodHandle"), (by decide +kernel : yX5_readFactor.cls ≠ "java/lang/invoke/VarHandle"), (by decide +kernel : (parseMethodDescriptor yX5_readFactor.desc).map (fun d => d.parameters.length) = some 1)⟩, Nat.le_of_ble_eq_true rfl⟩
noncomputable def j_X5_readFactor_49 (rec : Mem → Int32 → Option (Bool × Mem)) (σ : Mem) (x0 : Int32) (v1 : Int32) : Option (Bool × Mem) :=
  if x0 < 8 then (gF σ 144 9 (fun (v2 : Int32) => pF σ 144 9 (v2 + 1) (fun (σ3 : Mem) => if v1 = 40 then (bq (o_X5_readRound rec σ3 x0) (fun (b6 : Bool) (σ7 : Mem) => some (b6, σ7))) else (bq (o_X5_readSquare rec σ3 x0) (fun (b4 : Bool) (σ5 : Mem) => some (b4, σ5)))))) else (gF σ 144 9 (fun (v8 : Int32) => bq (f_X5_fail σ 4 v8) (fun (b9 : Bool) (σ10 : Mem) => some (b9, σ10))))
noncomputable def o_X5_readFactor (rec : Mem → Int32 → Option (Bool × Mem)) (σ : Mem) (x0 : Int32) : Option (Bool × Mem) :=
  (f_X5_signHere σ).bind (fun (v1 : Int32) => if v1 = 82 then (gR 155 x0 (fun (p14 : Nat) => bq (f_X5_readRegister σ p14) (fun (b15 : Bool) (σ16 : Mem) => some (b15, σ16)))) else ((if v1 = 40 then (some (Sum.inl ())) else (if v1 = 91 then (some (Sum.inl ())) else (gR 155 x0 (fun (p11 : Nat) => bq (f_X5_readLetter σ (v1 - 97) p11) (fun (b12 : Bool) (σ13 : Mem) => some (Sum.inr (b12, σ13)))))) : Option (Unit ⊕ (Bool × Mem))).bind (Sum.elim (fun (z1 : Unit) => j_X5_readFactor_49 rec σ x0 v1) some)))
theorem t_X5_readFactor {w : Wd} (hw : WOK w) {d : Nat} {rec : Mem → Int32 → Option (Bool × Mem)} (hrec : ∀ {τ0 : Mem} {y0 : Int32}, ∀ r τ, rec τ0 y0 = some (r, τ) → MC w (mu_X5_readWord d) (vB r) [.ref (adr w 144), .int y0] τ0 τ) {σ : Mem} {x0 : Int32} : JO w (mu_X5_readFactor d) vB σ [(0, .ref (adr w 144)), (1, .int x0)] [] 0 (o_X5_readFactor rec σ x0) some := by
  unfold o_X5_readFactor
  refine jo_aload_n (pc := 0) 0 rfl dX5_readFactor_0 rfl ?_
  refine jo_cV_I_p (pc := 1) (μ' := mu_X5_signHere) (fx := f_X5_signHere σ) (As := []) (c_X5_signHere hw) (ok_X5_signHere) (by simp only [mu_X5_readFactor, mu_X5_signHere]; omega) (all3 gw_980 gw_982 gw_27) (ik_144 hw) (by decide) (q := (RX5, TX5, 11)) rfl rfl rfl rfl (Nat.le_of_ble_eq_true rfl) dX5_readFactor_1 (fun v1 => ?_)
  refine jo_istore_n (pc := 4) (lv' := [(2, .int v1), (0, .ref (adr w 144)), (1, .int x0)]) dX5_readFactor_4 rfl (ltb rfl) rfl ?_
  refine jo_iload_n (pc := 5) 0 rfl dX5_readFactor_5 rfl ?_
  refine jo_bipush (pc := 6) dX5_readFactor_6 (ic_b_82) ?_
  refine jo_icmp_ne (pc := 8) dX5_readFactor_8 (tgt := 22) rfl ?_ ?_
  · refine jo_iload_n (pc := 22) 0 rfl dX5_readFactor_22 rfl ?_
    refine jo_bipush (pc := 23) dX5_readFactor_23 (ic_b_40) ?_
    refine jo_joinS (S := Unit) (fun (z1 : Unit) => σ) (fun (z1 : Unit) => [(2, .int v1), (0, .ref (adr w 144)), (1, .int x0)]) (fun (z1 : Unit) => []) 49 ?_ (fun h49_1 => ?_)
    · intro _
      show JO w (mu_X5_readFactor d) vB σ [(2, .int v1), (0, .ref (adr w 144)), (1, .int x0)] [] 49 (j_X5_readFactor_49 rec σ x0 v1) _
      unfold j_X5_readFactor_49
      refine jo_iload_n (pc := 49) 2 rfl dX5_readFactor_49 rfl ?_
      refine jo_bipush (pc := 50) dX5_readFactor_50 (ic_b_8) ?_
      refine jo_icmp_lt (pc := 52) dX5_readFactor_52 (tgt := 65) rfl ?_ ?_
      · refine jo_aload_n (pc := 65) 1 rfl dX5_readFactor_65 rfl ?_
        refine jo_dup (pc := 66) dX5_readFactor_66 rfl ?_
        refine jo_getf (pc := 67) ok_5_9 (ik_144 hw) gw_483 dX5_readFactor_67 (fun v2 => ?_)
        refine jo_iconst (pc := 70) dX5_readFactor_70 (ic_i_1) ?_
        refine jo_iadd (pc := 71) dX5_readFactor_71 ?_
        refine jo_putf (pc := 72) ok_5_9 okp_5_9 (ik_144 hw) gw_483 dX5_readFactor_72 (fun σ3 => ?_)
        refine jo_iload_n (pc := 75) 0 rfl dX5_readFactor_75 rfl ?_
        refine jo_bipush (pc := 76) dX5_readFactor_76 (ic_b_40) ?_
        refine jo_icmp_ne (pc := 78) dX5_readFactor_78 (tgt := 89) rfl ?_ ?_
        · refine jo_aload_n (pc := 89) 1 rfl dX5_readFactor_89 rfl ?_
          refine jo_iload_n (pc := 90) 2 rfl dX5_readFactor_90 rfl ?_
          refine jo_cV_Z_i (pc := 91) (μ' := (mu_X5_readSquare d)) (fx := o_X5_readSquare rec σ3 x0) (As := [.int x0]) (co_X5_readSquare hw hrec) (ok_X5_readSquare _) (by simp only [mu_X5_readFactor, mu_X5_readSquare]; omega) (all3 gw_1017 gw_1019 gw_34) (ik_144 hw) (by decide) (q := (RX5, TX5, 11)) rfl rfl rfl rfl (Nat.le_of_ble_eq_true rfl) dX5_readFactor_91 (fun b4 σ5 => ?_)
          exact jo_breturn (pc := 94) (b := b4) rfl rfl dX5_readFactor_94
        · refine jo_aload_n (pc := 81) 1 rfl dX5_readFactor_81 rfl ?_
          refine jo_iload_n (pc := 82) 2 rfl dX5_readFactor_82 rfl ?_
          refine jo_cV_Z_i (pc := 83) (μ' := (mu_X5_readRound d)) (fx := o_X5_readRound rec σ3 x0) (As := [.int x0]) (co_X5_readRound hw hrec) (ok_X5_readRound _) (by simp only [mu_X5_readFactor, mu_X5_readRound]; omega) (all3 gw_1013 gw_1015 gw_33) (ik_144 hw) (by decide) (q := (RX5, TX5, 11)) rfl rfl rfl rfl (Nat.le_of_ble_eq_true rfl) dX5_readFactor_83 (fun b6 σ7 => ?_)
          refine jo_goto (pc := 86) dX5_readFactor_86 (tgt := 94) rfl ?_
          exact jo_breturn (pc := 94) (b := b6) rfl rfl dX5_readFactor_94
      · refine jo_aload_n (pc := 55) 1 rfl dX5_readFactor_55 rfl ?_
        refine jo_iconst (pc := 56) dX5_readFactor_56 (ic_i_4) ?_
        refine jo_aload_n (pc := 57) 1 rfl dX5_readFactor_57 rfl ?_
        refine jo_getf (pc := 58) ok_5_9 (ik_144 hw) gw_483 dX5_readFactor_58 (fun v8 => ?_)
        refine jo_cV_Z_i (pc := 61) (μ' := mu_X5_fail) (fx := f_X5_fail σ 4 v8) (As := [.int 4, .int v8]) (c_X5_fail hw) (ok_X5_fail) (by simp only [mu_X5_readFactor, mu_X5_fail]; omega) (all3 gw_996 gw_998 gw_30) (ik_144 hw) (by decide) (q := (RX5, TX5, 11)) rfl rfl rfl rfl (Nat.le_of_ble_eq_true rfl) dX5_readFactor_61 (fun b9 σ10 => ?_)
        exact jo_breturn (pc := 64) (b := b9) rfl rfl dX5_readFactor_64
    · refine jo_icmp_eq (pc := 25) dX5_readFactor_25 (tgt := 49) rfl ?_ ?_
      · exact jo_leaf (by rfl) (h49_1 ())
      · refine jo_iload_n (pc := 28) 0 rfl dX5_readFactor_28 rfl ?_
        refine jo_bipush (pc := 29) dX5_readFactor_29 (ic_b_91) ?_
        refine jo_icmp_eq (pc := 31) dX5_readFactor_31 (tgt := 49) rfl ?_ ?_
        · exact jo_leaf (by rfl) (h49_1 ())
        · refine jo_aload_n (pc := 34) 1 rfl dX5_readFactor_34 rfl ?_
          refine jo_iload_n (pc := 35) 0 rfl dX5_readFactor_35 rfl ?_
          refine jo_bipush (pc := 36) dX5_readFactor_36 (ic_b_97) ?_
          refine jo_isub (pc := 38) dX5_readFactor_38 ?_
          refine jo_aload_n (pc := 39) 1 rfl dX5_readFactor_39 rfl ?_
          refine jo_getrE (pc := 40) ok_5_3 (ik_144 hw) rf_144_3 gw_477 dX5_readFactor_40 ?_
          refine jo_iload_n (pc := 43) 2 rfl dX5_readFactor_43 rfl ?_
          refine jo_aaldG (pc := 44) (z := 13) hw (ik_155 hw) (by decide) (t := 4) rfl rfl (by decide) dX5_readFactor_44 (fun p11 hp11 => ?_)
          refine jo_cV_Z_i (pc := 45) (μ' := mu_X5_readLetter) (fx := f_X5_readLetter σ (v1 - 97) p11) (As := [.int (v1 - 97), .ref (adr w p11)]) (c_X5_readLetter hw (hp11)) (ok_X5_readLetter) (by simp only [mu_X5_readFactor, mu_X5_readLetter]; omega) (all3 gw_1005 gw_1007 gw_32) (ik_144 hw) (by decide) (q := (RX5, TX5, 11)) rfl rfl rfl rfl (Nat.le_of_ble_eq_true rfl) dX5_readFactor_45 (fun b12 σ13 => ?_)
          exact jo_breturn (pc := 48) (b := b12) rfl rfl dX5_readFactor_48
  · refine jo_aload_n (pc := 11) 1 rfl dX5_readFactor_11 rfl ?_
    refine jo_aload_n (pc := 12) 1 rfl dX5_readFactor_12 rfl ?_
    refine jo_getrE (pc := 13) ok_5_3 (ik_144 hw) rf_144_3 gw_477 dX5_readFactor_13 ?_
    refine jo_iload_n (pc := 16) 2 rfl dX5_readFactor_16 rfl ?_
    refine jo_aaldG (pc := 17) (z := 13) hw (ik_155 hw) (by decide) (t := 4) rfl rfl (by decide) dX5_readFactor_17 (fun p14 hp14 => ?_)
    refine jo_cV_Z_i (pc := 18) (μ' := mu_X5_readRegister) (fx := f_X5_readRegister σ p14) (As := [.ref (adr w p14)]) (c_X5_readRegister hw (hp14)) (ok_X5_readRegister) (by simp only [mu_X5_readFactor, mu_X5_readRegister]; omega) (all3 gw_991 gw_993 gw_29) (ik_144 hw) (by decide) (q := (RX5, TX5, 11)) rfl rfl rfl rfl (Nat.le_of_ble_eq_true rfl) dX5_readFactor_18 (fun b15 σ16 => ?_)
    exact jo_breturn (pc := 21) (b := b15) rfl rfl dX5_readFactor_21
theorem co_X5_readFactor {w : Wd} (hw : WOK w) {d : Nat} {rec : Mem → Int32 → Option (Bool × Mem)} (hrec : ∀ {τ0 : Mem} {y0 : Int32}, ∀ r τ, rec τ0 y0 = some (r, τ) → MC w (mu_X5_readWord d) (vB r) [.ref (adr w 144), .int y0] τ0 τ) {σ : Mem} {x0 : Int32} : ∀ r σ', o_X5_readFactor rec σ x0 = some (r, σ') → MC w (mu_X5_readFactor d) (vB r) [.ref (adr w 144), .int x0] σ σ' := mc_of (ok_X5_readFactor _) rfl (Nat.le_of_ble_eq_true rfl) (t_X5_readFactor hw hrec)
noncomputable def j_X5_readWord_91 (rec : Mem → Int32 → Option (Bool × Mem)) (σ3 : Mem) : Option (Bool × Mem) :=
  gF σ3 144 10 (fun (v4 : Int32) => bq (f_X5_fail σ3 5 v4) (fun (b5 : Bool) (σ6 : Mem) => some (b5, σ6)))
noncomputable def l_X5_readWord_26 (rec : Mem → Int32 → Option (Bool × Mem)) (x0 : Int32) (p1 : Nat) (σ7 : Mem) (i8 : Int32) : Option ((Mem × Int32) ⊕ (Mem ⊕ (Bool × Mem))) :=
  if 200 ≤ i8 then (some (Sum.inr (Sum.inr (true, σ7)))) else (bq (f_X5_skipBlanks σ7) (fun (v9 : Int32) (σ10 : Mem) => (f_X5_beginsFactor σ10 v9).bind (fun (b11 : Bool) => if b11 then bq (o_X5_readFactor rec σ10 x0) (fun (b12 : Bool) (σ13 : Mem) => if b12 then gR 155 x0 (fun (p14 : Nat) => bq (f_X5_readPower σ13 p14) (fun (b15 : Bool) (σ16 : Mem) => if b15 then gR 155 x0 (fun (p17 : Nat) => (f_X0_product σ16 p1 p1 p17).bind (fun (σ18 : Mem) => (f_X0_isWithin σ18 p1 999).bind (fun (b19 : Bool) => if b19 then some (Sum.inl (σ18, i8 + 1)) else some (Sum.inr (Sum.inl σ18))))) else some (Sum.inr (Sum.inr (false, σ16))))) else some (Sum.inr (Sum.inr (false, σ13)))) else some (Sum.inr (Sum.inr (true, σ10))))))
noncomputable def o_X5_readWord (rec : Mem → Int32 → Option (Bool × Mem)) (σ : Mem) (x0 : Int32) : Option (Bool × Mem) :=
  if x0 < 0 then (some (false, σ)) else (if x0 ≤ 8 then (gR 145 x0 (fun (p1 : Nat) => (f_J7_fill_d0a16 σ p1 0).bind (fun (σ2 : Mem) => (loopO (fun (z8 : (Mem × Int32)) => l_X5_readWord_26 rec x0 p1 z8.1 z8.2) (σ2, 0) : Option (Mem ⊕ (Bool × Mem))).bind (Sum.elim (fun (z3 : Mem) => j_X5_readWord_91 rec z3) some)))) else (some (false, σ)))
theorem t_X5_readWord {w : Wd} (hw : WOK w) {d : Nat} {rec : Mem → Int32 → Option (Bool × Mem)} (hrec : ∀ {τ0 : Mem} {y0 : Int32}, ∀ r τ, rec τ0 y0 = some (r, τ) → MC w (mu_X5_readWord d) (vB r) [.ref (adr w 144), .int y0] τ0 τ) {σ : Mem} {x0 : Int32} : JO w (mu_X5_readWord (d + 3)) vB σ [(0, .ref (adr w 144)), (1, .int x0)] [] 0 (o_X5_readWord rec σ x0) some := by
  unfold o_X5_readWord
  refine jo_iload_n (pc := 0) 1 rfl dX5_readWord_0 rfl ?_
  refine jo_if_lt (pc := 1) dX5_readWord_1 (tgt := 10) rfl ?_ ?_
  · refine jo_iconst (pc := 10) dX5_readWord_10 (ic_i_0) ?_
    exact jo_breturn (pc := 11) (b := false) rfl rfl dX5_readWord_11
  · refine jo_iload_n (pc := 4) 1 rfl dX5_readWord_4 rfl ?_
    refine jo_bipush (pc := 5) dX5_readWord_5 (ic_b_8) ?_
    refine jo_icmp_le (pc := 7) dX5_readWord_7 (tgt := 12) rfl ?_ ?_
    · refine jo_aload_n (pc := 12) 0 rfl dX5_readWord_12 rfl ?_
      refine jo_getrE (pc := 13) ok_5_2 (ik_144 hw) rf_144_2 gw_475 dX5_readWord_13 ?_
      refine jo_iload_n (pc := 16) 1 rfl dX5_readWord_16 rfl ?_
      refine jo_aaldG (pc := 17) (z := 13) hw (ik_145 hw) (by decide) (t := 4) rfl rfl (by decide) dX5_readWord_17 (fun p1 hp1 => ?_)
      refine jo_astore_n (pc := 18) (lv' := [(2, .ref (adr w p1)), (0, .ref (adr w 144)), (1, .int x0)]) dX5_readWord_18 rfl (ltb rfl) rfl ?_
      refine jo_aload_n (pc := 19) 0 rfl dX5_readWord_19 rfl ?_
      refine jo_lconst (pc := 20) dX5_readWord_20 (ic_l_0) ?_
      refine jo_cS_V_i (pc := 21) (μ' := mu_J7_fill_d0a16) (fx := f_J7_fill_d0a16 σ p1 0) (As := [.ref (adr w p1), .long 0]) (c_J7_fill_d0a16 hw (hp1)) (ok_J7_fill_d0a16) (by simp only [mu_X5_readWord, mu_J7_fill_d0a16]; omega) (all2 gw_975 gw_715) rfl rfl (Nat.le_of_ble_eq_true rfl) dX5_readWord_21 (fun σ2 => ?_)
      refine jo_iconst (pc := 24) dX5_readWord_24 (ic_i_0) ?_
      refine jo_istore_n (pc := 25) (lv' := [(3, .int 0), (2, .ref (adr w p1)), (0, .ref (adr w 144)), (1, .int x0)]) dX5_readWord_25 rfl (ltb rfl) rfl ?_
      refine jo_joinS (S := Mem) (fun (z3 : Mem) => z3) (fun (z3 : Mem) => [(0, .ref (adr w 144))]) (fun (z3 : Mem) => []) 91 ?_ (fun h91_3 => ?_)
      · intro σ3
        show JO w (mu_X5_readWord (d + 3)) vB σ3 [(0, .ref (adr w 144))] [] 91 (j_X5_readWord_91 rec σ3) _
        unfold j_X5_readWord_91
        refine jo_aload_n (pc := 91) 0 rfl dX5_readWord_91 rfl ?_
        refine jo_iconst (pc := 92) dX5_readWord_92 (ic_i_5) ?_
        refine jo_aload_n (pc := 93) 0 rfl dX5_readWord_93 rfl ?_
        refine jo_getf (pc := 94) ok_5_10 (ik_144 hw) gw_484 dX5_readWord_94 (fun v4 => ?_)
        refine jo_cV_Z_i (pc := 97) (μ' := mu_X5_fail) (fx := f_X5_fail σ3 5 v4) (As := [.int 5, .int v4]) (c_X5_fail hw) (ok_X5_fail) (by simp only [mu_X5_readWord, mu_X5_fail]; omega) (all3 gw_996 gw_998 gw_30) (ik_144 hw) (by decide) (q := (RX5, TX5, 11)) rfl rfl rfl rfl (Nat.le_of_ble_eq_true rfl) dX5_readWord_97 (fun b5 σ6 => ?_)
        exact jo_breturn (pc := 100) (b := b5) rfl rfl dX5_readWord_100
      · refine jo_lv (lv' := [(2, .ref (adr w p1)), (0, .ref (adr w 144)), (1, .int x0), (3, .int 0)]) [1, 2, 3, 0] rfl ?_
        refine jo_loop (X := Mem ⊕ (Bool × Mem)) (fun (z8 : (Mem × Int32)) => z8.1) (fun (z8 : (Mem × Int32)) => [(2, .ref (adr w p1)), (0, .ref (adr w 144)), (1, .int x0), (3, .int z8.2)]) (body := (fun (z8 : (Mem × Int32)) => l_X5_readWord_26 rec x0 p1 z8.1 z8.2)) (fun F26_8 hF26_8 s => ?_) (σ2, 0)
        obtain ⟨σ7, i8⟩ := s
        show JO w (mu_X5_readWord (d + 3)) vB σ7 [(2, .ref (adr w p1)), (0, .ref (adr w 144)), (1, .int x0), (3, .int i8)] [] 26 (l_X5_readWord_26 rec x0 p1 σ7 i8) _
        unfold l_X5_readWord_26
        refine jo_iload_n (pc := 26) 3 rfl dX5_readWord_26 rfl ?_
        refine jo_sipush (pc := 27) dX5_readWord_27 (ic_s_200) ?_
        refine jo_icmp_ge (pc := 30) dX5_readWord_30 (tgt := 107) rfl ?_ ?_
        · refine jo_iconst (pc := 107) dX5_readWord_107 (ic_i_1) ?_
          exact jo_breturn (pc := 108) (b := true) rfl rfl dX5_readWord_108
        · refine jo_aload_n (pc := 33) 1 rfl dX5_readWord_33 rfl ?_
          refine jo_cV_I_i (pc := 34) (μ' := mu_X5_skipBlanks) (fx := f_X5_skipBlanks σ7) (As := []) (c_X5_skipBlanks hw) (ok_X5_skipBlanks) (by simp only [mu_X5_readWord, mu_X5_skipBlanks]; omega) (all3 gw_976 gw_978 gw_26) (ik_144 hw) (by decide) (q := (RX5, TX5, 11)) rfl rfl rfl rfl (Nat.le_of_ble_eq_true rfl) dX5_readWord_34 (fun v9 σ10 => ?_)
          refine jo_cS_Z_p (pc := 37) (μ' := mu_X5_beginsFactor) (fx := f_X5_beginsFactor σ10 v9) (As := [.int v9]) (c_X5_beginsFactor hw) (ok_X5_beginsFactor) (by simp only [mu_X5_readWord, mu_X5_beginsFactor]; omega) (all2 gw_984 gw_985) rfl rfl (Nat.le_of_ble_eq_true rfl) dX5_readWord_37 (fun b11 => ?_)
          refine jo_ifz_eq (pc := 40) dX5_readWord_40 (tgt := 107) rfl ?_ ?_
          · refine jo_iconst (pc := 107) dX5_readWord_107 (ic_i_1) ?_
            exact jo_breturn (pc := 108) (b := true) rfl rfl dX5_readWord_108
          · refine jo_aload_n (pc := 43) 1 rfl dX5_readWord_43 rfl ?_
            refine jo_iload_n (pc := 44) 2 rfl dX5_readWord_44 rfl ?_
            refine jo_cV_Z_i (pc := 45) (μ' := (mu_X5_readFactor d)) (fx := o_X5_readFactor rec σ10 x0) (As := [.int x0]) (co_X5_readFactor hw hrec) (ok_X5_readFactor _) (by simp only [mu_X5_readWord, mu_X5_readFactor]; omega) (all3 gw_987 gw_989 gw_28) (ik_144 hw) (by decide) (q := (RX5, TX5, 11)) rfl rfl rfl rfl (Nat.le_of_ble_eq_true rfl) dX5_readWord_45 (fun b12 σ13 => ?_)
            refine jo_ifz_eq (pc := 48) dX5_readWord_48 (tgt := 64) rfl ?_ ?_
            · refine jo_iconst (pc := 64) dX5_readWord_64 (ic_i_0) ?_
              exact jo_breturn (pc := 65) (b := false) rfl rfl dX5_readWord_65
            · refine jo_aload_n (pc := 51) 1 rfl dX5_readWord_51 rfl ?_
              refine jo_aload_n (pc := 52) 1 rfl dX5_readWord_52 rfl ?_
              refine jo_getrE (pc := 53) ok_5_3 (ik_144 hw) rf_144_3 gw_477 dX5_readWord_53 ?_
              refine jo_iload_n (pc := 56) 2 rfl dX5_readWord_56 rfl ?_
              refine jo_aaldG (pc := 57) (z := 13) hw (ik_155 hw) (by decide) (t := 4) rfl rfl (by decide) dX5_readWord_57 (fun p14 hp14 => ?_)
              refine jo_cV_Z_i (pc := 58) (μ' := mu_X5_readPower) (fx := f_X5_readPower σ13 p14) (As := [.ref (adr w p14)]) (c_X5_readPower hw (hp14)) (ok_X5_readPower) (by simp only [mu_X5_readWord, mu_X5_readPower]; omega) (all3 gw_1024 gw_1026 gw_35) (ik_144 hw) (by decide) (q := (RX5, TX5, 11)) rfl rfl rfl rfl (Nat.le_of_ble_eq_true rfl) dX5_readWord_58 (fun b15 σ16 => ?_)
              refine jo_ifz_ne (pc := 61) dX5_readWord_61 (tgt := 66) rfl ?_ ?_
              · refine jo_aload_n (pc := 66) 1 rfl dX5_readWord_66 rfl ?_
                refine jo_getrE (pc := 67) ok_5_6 (ik_144 hw) rf_144_6 gw_480 dX5_readWord_67 ?_
                refine jo_aload_n (pc := 70) 0 rfl dX5_readWord_70 rfl ?_
                refine jo_aload_n (pc := 71) 0 rfl dX5_readWord_71 rfl ?_
                refine jo_aload_n (pc := 72) 1 rfl dX5_readWord_72 rfl ?_
                refine jo_getrE (pc := 73) ok_5_3 (ik_144 hw) rf_144_3 gw_477 dX5_readWord_73 ?_
                refine jo_iload_n (pc := 76) 2 rfl dX5_readWord_76 rfl ?_
                refine jo_aaldG (pc := 77) (z := 13) hw (ik_155 hw) (by decide) (t := 4) rfl rfl (by decide) dX5_readWord_77 (fun p17 hp17 => ?_)
                refine jo_cV_V_i (pc := 78) (μ' := mu_X0_product) (fx := f_X0_product σ16 p1 p1 p17) (As := [.ref (adr w p1), .ref (adr w p1), .ref (adr w p17)]) (c_X0_product hw (hp1) (hp1) (hp17)) (ok_X0_product) (by simp only [mu_X5_readWord, mu_X0_product]; omega) (all3 gw_1032 gw_815 gw_816) (ik_72 hw) (by decide) (q := (RX0, TX0, 8)) rfl rfl rfl rfl (Nat.le_of_ble_eq_true rfl) dX5_readWord_78 (fun σ18 => ?_)
                refine jo_aload_n (pc := 81) 0 rfl dX5_readWord_81 rfl ?_
                refine jo_ldc2 (pc := 82) dX5_readWord_82 gw_1022 ?_
                refine jo_cS_Z_p (pc := 85) (μ' := mu_X0_isWithin) (fx := f_X0_isWithin σ18 p1 999) (As := [.ref (adr w p1), .long 999]) (c_X0_isWithin hw (hp1)) (ok_X0_isWithin) (by simp only [mu_X5_readWord, mu_X0_isWithin]; omega) (all2 gw_1023 gw_826) rfl rfl (Nat.le_of_ble_eq_true rfl) dX5_readWord_85 (fun b19 => ?_)
                refine jo_ifz_ne (pc := 88) dX5_readWord_88 (tgt := 101) rfl ?_ ?_
                · refine jo_iinc (pc := 101) (lv' := [(3, .int (i8 + 1)), (2, .ref (adr w p1)), (0, .ref (adr w 144)), (1, .int x0)]) 3 rfl dX5_readWord_101 (congrArg (fun z => i8 + z) (ic_i_1)) (ltb rfl) rfl ?_
                  refine jo_goto (pc := 104) dX5_readWord_104 (tgt := 26) rfl ?_
                  refine jo_lv (lv' := [(2, .ref (adr w p1)), (0, .ref (adr w 144)), (1, .int x0), (3, .int (i8 + 1))]) [1, 2, 3, 0] rfl ?_
                  exact jo_leaf (by rfl) (hF26_8 (σ18, i8 + 1))
                · refine jo_lv (lv' := [(0, .ref (adr w 144))]) [1] rfl ?_
                  exact jo_leaf (by rfl) (h91_3 σ18)
              · refine jo_iconst (pc := 64) dX5_readWord_64 (ic_i_0) ?_
                exact jo_breturn (pc := 65) (b := false) rfl rfl dX5_readWord_65
    · refine jo_iconst (pc := 10) dX5_readWord_10 (ic_i_0) ?_
      exact jo_breturn (pc := 11) (b := false) rfl rfl dX5_readWord_11
theorem co_X5_readWord {w : Wd} (hw : WOK w) {d : Nat} {rec : Mem → Int32 → Option (Bool × Mem)} (hrec : ∀ {τ0 : Mem} {y0 : Int32}, ∀ r τ, rec τ0 y0 = some (r, τ) → MC w (mu_X5_readWord d) (vB r) [.ref (adr w 144), .int y0] τ0 τ) {σ : Mem} {x0 : Int32} : ∀ r σ', o_X5_readWord rec σ x0 = some (r, σ') → MC w (mu_X5_readWord (d + 3)) (vB r) [.ref (adr w 144), .int x0] σ σ' := mc_of (ok_X5_readWord _) rfl (Nat.le_of_ble_eq_true rfl) (t_X5_readWord hw hrec)
noncomputable def f_X5_readWord : Nat → Mem → Int32 → Option (Bool × Mem)
  | 0 => fun _ _ => none
  | n + 1 => fun σ x0 => o_X5_readWord (f_X5_readWord n) σ x0
theorem c_X5_readWord (n : Nat) {w : Wd} (hw : WOK w) {σ : Mem} {x0 : Int32} : ∀ r σ', f_X5_readWord n σ x0 = some (r, σ') → MC w (mu_X5_readWord (3 * n)) (vB r) [.ref (adr w 144), .int x0] σ σ' := by
  induction n generalizing σ x0 with
  | zero => intro r σ' h; cases h
  | succ n ih => exact co_X5_readWord hw (rec := f_X5_readWord n) (d := 3 * n) ih
