abbrev mu_X10_feedNumber : MD := (yX10_feedNumber, cX10_feedNumber, 3, none, 0)
theorem ok_X10_feedNumber : MOK mu_X10_feedNumber 1 := ⟨gw_951, gw_158, (by decide +kernel : plainFor yX10_feedNumber = true), ⟨(by decide +kernel : yX10_feedNumber.cls ≠ "java/lang/invoke/MethodHandle"), (by decide +kernel : yX10_feedNumber.cls ≠ "java/lang/invoke/VarHandle"), (by decide +kernel : (parseMethodDescriptor yX10_feedNumber.desc).map (fun d => d.parameters.length) = some 1)⟩, Nat.le_of_ble_eq_true rfl⟩
noncomputable def l_X10_feedNumber_3 (x0 : Int32) (σ1 : Mem) (i2 : Int32) : Option ((Mem × Int32) ⊕ Mem) :=
  if i2 < 0 then (some (Sum.inr σ1)) else (gF σ1 0 7 (fun (v3 : Int32) => if 200 ≤ v3 then (some (Sum.inr σ1)) else (gF σ1 0 7 (fun (v4 : Int32) => pI σ1 34 v4 ((x0 >>> (i2 &&& 31)) &&& 255) (fun (σ5 : Mem) => gF σ5 0 7 (fun (v6 : Int32) => pF σ5 0 7 (v6 + 1) (fun (σ7 : Mem) => some (Sum.inl (σ7, i2 + (-8))))))))))
noncomputable def f_X10_feedNumber (σ : Mem) (x0 : Int32) : Option Mem :=
  loopO (fun (z2 : (Mem × Int32)) => l_X10_feedNumber_3 x0 z2.1 z2.2) (σ, 24)
theorem t_X10_feedNumber {w : Wd} (hw : WOK w) {σ : Mem} {x0 : Int32} : JO w mu_X10_feedNumber vV σ [(0, .ref (adr w 0)), (1, .int x0)] [] 0 (f_X10_feedNumber σ x0) (fun z => some ((), z)) := by
  unfold f_X10_feedNumber
  refine jo_bipush (pc := 0) dX10_feedNumber_0 (ic_b_24) ?_
  refine jo_istore_n (pc := 2) (lv' := [(2, .int 24), (0, .ref (adr w 0)), (1, .int x0)]) dX10_feedNumber_2 rfl (ltb rfl) rfl ?_
  refine jo_lv (lv' := [(0, .ref (adr w 0)), (1, .int x0), (2, .int 24)]) [1, 2, 0] rfl ?_
  refine jo_loop (X := Mem) (fun (z2 : (Mem × Int32)) => z2.1) (fun (z2 : (Mem × Int32)) => [(0, .ref (adr w 0)), (1, .int x0), (2, .int z2.2)]) (body := (fun (z2 : (Mem × Int32)) => l_X10_feedNumber_3 x0 z2.1 z2.2)) (fun F3_2 hF3_2 s => ?_) (σ, 24)
  obtain ⟨σ1, i2⟩ := s
  show JO w mu_X10_feedNumber vV σ1 [(0, .ref (adr w 0)), (1, .int x0), (2, .int i2)] [] 3 (l_X10_feedNumber_3 x0 σ1 i2) _
  unfold l_X10_feedNumber_3
  refine jo_iload_n (pc := 3) 2 rfl dX10_feedNumber_3 rfl ?_
  refine jo_if_lt (pc := 4) dX10_feedNumber_4 (tgt := 49) rfl ?_ ?_
  · exact jo_return (pc := 49) rfl rfl dX10_feedNumber_49
  · refine jo_aload_n (pc := 7) 0 rfl dX10_feedNumber_7 rfl ?_
    refine jo_getf (pc := 8) ok_10_7 (ik_0 hw) gw_638 dX10_feedNumber_8 (fun v3 => ?_)
    refine jo_sipush (pc := 11) dX10_feedNumber_11 (ic_s_200) ?_
    refine jo_icmp_ge (pc := 14) dX10_feedNumber_14 (tgt := 49) rfl ?_ ?_
    · exact jo_return (pc := 49) rfl rfl dX10_feedNumber_49
    · refine jo_aload_n (pc := 17) 0 rfl dX10_feedNumber_17 rfl ?_
      refine jo_getrE (pc := 18) ok_10_6 (ik_0 hw) rf_0_6 gw_637 dX10_feedNumber_18 ?_
      refine jo_aload_n (pc := 21) 0 rfl dX10_feedNumber_21 rfl ?_
      refine jo_getf (pc := 22) ok_10_7 (ik_0 hw) gw_638 dX10_feedNumber_22 (fun v4 => ?_)
      refine jo_iload_n (pc := 25) 1 rfl dX10_feedNumber_25 rfl ?_
      refine jo_iload_n (pc := 26) 2 rfl dX10_feedNumber_26 rfl ?_
      refine jo_ishr (pc := 27) dX10_feedNumber_27 ?_
      refine jo_sipush (pc := 28) dX10_feedNumber_28 (ic_s_255) ?_
      refine jo_iand (pc := 31) dX10_feedNumber_31 ?_
      refine jo_iast (pc := 32) (ik_34 hw) dX10_feedNumber_32 (fun σ5 => ?_)
      refine jo_aload_n (pc := 33) 0 rfl dX10_feedNumber_33 rfl ?_
      refine jo_dup (pc := 34) dX10_feedNumber_34 rfl ?_
      refine jo_getf (pc := 35) ok_10_7 (ik_0 hw) gw_638 dX10_feedNumber_35 (fun v6 => ?_)
      refine jo_iconst (pc := 38) dX10_feedNumber_38 (ic_i_1) ?_
      refine jo_iadd (pc := 39) dX10_feedNumber_39 ?_
      refine jo_putf (pc := 40) ok_10_7 okp_10_7 (ik_0 hw) gw_638 dX10_feedNumber_40 (fun σ7 => ?_)
      refine jo_iinc (pc := 43) (lv' := [(2, .int (i2 + (-8))), (0, .ref (adr w 0)), (1, .int x0)]) 2 rfl dX10_feedNumber_43 (congrArg (fun z => i2 + z) (ic_i_m8)) (ltb rfl) rfl ?_
      refine jo_goto (pc := 46) dX10_feedNumber_46 (tgt := 3) rfl ?_
      refine jo_lv (lv' := [(0, .ref (adr w 0)), (1, .int x0), (2, .int (i2 + (-8)))]) [1, 2, 0] rfl ?_
      exact jo_leaf (by rfl) (hF3_2 (σ7, i2 + (-8)))
theorem c_X10_feedNumber {w : Wd} (hw : WOK w) {σ : Mem} {x0 : Int32} : ∀ σ', f_X10_feedNumber σ x0 = some σ' → MC w mu_X10_feedNumber none [.ref (adr w 0), .int x0] σ σ' := mc_ofV ok_X10_feedNumber rfl (Nat.le_of_ble_eq_true rfl) (t_X10_feedNumber hw)
abbrev mu_X10_feed : MD := (yX10_feed, cX10_feed, 6, some .int, 1)
theorem ok_X10_feed : MOK mu_X10_feed 5 := ⟨gw_947, gw_158, (by decide +kernel : plainFor yX10_feed = true), ⟨(by decide +kernel : yX10_feed.cls ≠ "java/lang/invoke/MethodHandle"), (by decide +kernel : yX10_feed.cls ≠ "java/lang/invoke/VarHandle"), (by decide +kernel : (parseMethodDescriptor yX10_feed.desc).map (fun d => d.parameters.length) = some 5)⟩, Nat.le_of_ble_eq_true rfl⟩
noncomputable def f_X10_feed (σ : Mem) (x0 : Int32) (x1 : Int32) (x2 : Int32) (x3 : Int32) (x4 : Int32) : Option (Int32 × Mem) :=
  gF σ 0 7 (fun (v1 : Int32) => if v1 ≤ 180 then ((f_X10_feedNumber σ x0).bind (fun (σ2 : Mem) => (f_X10_feedNumber σ2 x1).bind (fun (σ3 : Mem) => (f_X10_feedNumber σ3 x2).bind (fun (σ4 : Mem) => (f_X10_feedNumber σ4 x3).bind (fun (σ5 : Mem) => (f_X10_feedNumber σ5 x4).bind (fun (σ6 : Mem) => gF σ6 0 7 (fun (v7 : Int32) => some (v7, σ6)))))))) else (some ((-1), σ)))
theorem t_X10_feed {w : Wd} (hw : WOK w) {σ : Mem} {x0 : Int32} {x1 : Int32} {x2 : Int32} {x3 : Int32} {x4 : Int32} : JO w mu_X10_feed vI σ [(0, .ref (adr w 0)), (1, .int x0), (2, .int x1), (3, .int x2), (4, .int x3), (5, .int x4)] [] 0 (f_X10_feed σ x0 x1 x2 x3 x4) some := by
  unfold f_X10_feed
  refine jo_aload_n (pc := 0) 0 rfl dX10_feed_0 rfl ?_
  refine jo_getf (pc := 1) ok_10_7 (ik_0 hw) gw_638 dX10_feed_1 (fun v1 => ?_)
  refine jo_sipush (pc := 4) dX10_feed_4 (ic_s_180) ?_
  refine jo_icmp_le (pc := 7) dX10_feed_7 (tgt := 12) rfl ?_ ?_
  · refine jo_aload_n (pc := 12) 0 rfl dX10_feed_12 rfl ?_
    refine jo_iload_n (pc := 13) 1 rfl dX10_feed_13 rfl ?_
    refine jo_cV_V_i (pc := 14) (μ' := mu_X10_feedNumber) (fx := f_X10_feedNumber σ x0) (As := [.int x0]) (c_X10_feedNumber hw) (ok_X10_feedNumber) (ltb rfl) (all3 gw_948 gw_950 gw_24) (ik_0 hw) (by decide) (q := (RX10, TX10, 17)) rfl rfl rfl rfl (Nat.le_of_ble_eq_true rfl) dX10_feed_14 (fun σ2 => ?_)
    refine jo_aload_n (pc := 17) 0 rfl dX10_feed_17 rfl ?_
    refine jo_iload_n (pc := 18) 2 rfl dX10_feed_18 rfl ?_
    refine jo_cV_V_i (pc := 19) (μ' := mu_X10_feedNumber) (fx := f_X10_feedNumber σ2 x1) (As := [.int x1]) (c_X10_feedNumber hw) (ok_X10_feedNumber) (ltb rfl) (all3 gw_948 gw_950 gw_24) (ik_0 hw) (by decide) (q := (RX10, TX10, 17)) rfl rfl rfl rfl (Nat.le_of_ble_eq_true rfl) dX10_feed_19 (fun σ3 => ?_)
    refine jo_aload_n (pc := 22) 0 rfl dX10_feed_22 rfl ?_
    refine jo_iload_n (pc := 23) 3 rfl dX10_feed_23 rfl ?_
    refine jo_cV_V_i (pc := 24) (μ' := mu_X10_feedNumber) (fx := f_X10_feedNumber σ3 x2) (As := [.int x2]) (c_X10_feedNumber hw) (ok_X10_feedNumber) (ltb rfl) (all3 gw_948 gw_950 gw_24) (ik_0 hw) (by decide) (q := (RX10, TX10, 17)) rfl rfl rfl rfl (Nat.le_of_ble_eq_true rfl) dX10_feed_24 (fun σ4 => ?_)
    refine jo_aload_n (pc := 27) 0 rfl dX10_feed_27 rfl ?_
    refine jo_iload (pc := 28) 4 rfl dX10_feed_28 ?_
    refine jo_cV_V_i (pc := 30) (μ' := mu_X10_feedNumber) (fx := f_X10_feedNumber σ4 x3) (As := [.int x3]) (c_X10_feedNumber hw) (ok_X10_feedNumber) (ltb rfl) (all3 gw_948 gw_950 gw_24) (ik_0 hw) (by decide) (q := (RX10, TX10, 17)) rfl rfl rfl rfl (Nat.le_of_ble_eq_true rfl) dX10_feed_30 (fun σ5 => ?_)
    refine jo_aload_n (pc := 33) 0 rfl dX10_feed_33 rfl ?_
    refine jo_iload (pc := 34) 5 rfl dX10_feed_34 ?_
    refine jo_cV_V_i (pc := 36) (μ' := mu_X10_feedNumber) (fx := f_X10_feedNumber σ5 x4) (As := [.int x4]) (c_X10_feedNumber hw) (ok_X10_feedNumber) (ltb rfl) (all3 gw_948 gw_950 gw_24) (ik_0 hw) (by decide) (q := (RX10, TX10, 17)) rfl rfl rfl rfl (Nat.le_of_ble_eq_true rfl) dX10_feed_36 (fun σ6 => ?_)
    refine jo_aload_n (pc := 39) 0 rfl dX10_feed_39 rfl ?_
    refine jo_getf (pc := 40) ok_10_7 (ik_0 hw) gw_638 dX10_feed_40 (fun v7 => ?_)
    exact jo_ireturn (pc := 43) rfl rfl dX10_feed_43
  · refine jo_iconst (pc := 10) dX10_feed_10 (ic_i_m1) ?_
    exact jo_ireturn (pc := 11) rfl rfl dX10_feed_11
theorem c_X10_feed {w : Wd} (hw : WOK w) {σ : Mem} {x0 : Int32} {x1 : Int32} {x2 : Int32} {x3 : Int32} {x4 : Int32} : ∀ r σ', f_X10_feed σ x0 x1 x2 x3 x4 = some (r, σ') → MC w mu_X10_feed (vI r) [.ref (adr w 0), .int x0, .int x1, .int x2, .int x3, .int x4] σ σ' := mc_of ok_X10_feed rfl (Nat.le_of_ble_eq_true rfl) (t_X10_feed hw)
abbrev mu_X10_end : MD := (yX10_end, cX10_end, 2, some .boolean, 0)
theorem ok_X10_end : MOK mu_X10_end 1 := ⟨gw_955, gw_158, (by decide +kernel : plainFor yX10_end = true), ⟨(by decide +kernel : yX10_end.cls ≠ "java/lang/invoke/MethodHandle"), (by decide +kernel : yX10_end.cls ≠ "java/lang/invoke/VarHandle"), (by decide +kernel : (parseMethodDescriptor yX10_end.desc).map (fun d => d.parameters.length) = some 1)⟩, Nat.le_of_ble_eq_true rfl⟩
noncomputable def f_X10_end (σ : Mem) (x0 : Int32) : Option (Bool × Mem) :=
  if x0 < 0 then (some (false, σ)) else (gF σ 0 7 (fun (v1 : Int32) => if x0 ≤ v1 then (pF σ 0 7 x0 (fun (σ2 : Mem) => some (true, σ2))) else (some (false, σ))))
theorem t_X10_end {w : Wd} (hw : WOK w) {σ : Mem} {x0 : Int32} : JO w mu_X10_end vB σ [(0, .ref (adr w 0)), (1, .int x0)] [] 0 (f_X10_end σ x0) some := by
  unfold f_X10_end
  refine jo_iload_n (pc := 0) 1 rfl dX10_end_0 rfl ?_
  refine jo_if_lt (pc := 1) dX10_end_1 (tgt := 12) rfl ?_ ?_
  · refine jo_iconst (pc := 12) dX10_end_12 (ic_i_0) ?_
    exact jo_breturn (pc := 13) (b := false) rfl rfl dX10_end_13
  · refine jo_iload_n (pc := 4) 1 rfl dX10_end_4 rfl ?_
    refine jo_aload_n (pc := 5) 0 rfl dX10_end_5 rfl ?_
    refine jo_getf (pc := 6) ok_10_7 (ik_0 hw) gw_638 dX10_end_6 (fun v1 => ?_)
    refine jo_icmp_le (pc := 9) dX10_end_9 (tgt := 14) rfl ?_ ?_
    · refine jo_aload_n (pc := 14) 0 rfl dX10_end_14 rfl ?_
      refine jo_iload_n (pc := 15) 1 rfl dX10_end_15 rfl ?_
      refine jo_putf (pc := 16) ok_10_7 okp_10_7 (ik_0 hw) gw_638 dX10_end_16 (fun σ2 => ?_)
      refine jo_iconst (pc := 19) dX10_end_19 (ic_i_1) ?_
      exact jo_breturn (pc := 20) (b := true) rfl rfl dX10_end_20
    · refine jo_iconst (pc := 12) dX10_end_12 (ic_i_0) ?_
      exact jo_breturn (pc := 13) (b := false) rfl rfl dX10_end_13
theorem c_X10_end {w : Wd} (hw : WOK w) {σ : Mem} {x0 : Int32} : ∀ r σ', f_X10_end σ x0 = some (r, σ') → MC w mu_X10_end (vB r) [.ref (adr w 0), .int x0] σ σ' := mc_of ok_X10_end rfl (Nat.le_of_ble_eq_true rfl) (t_X10_end hw)
abbrev mu_X10_text : MD := (yX10_text, cX10_text, 3, some .boolean, 37)
theorem ok_X10_text : MOK mu_X10_text 1 := ⟨gw_959, gw_158, (by decide +kernel : plainFor yX10_text = true), ⟨(by decide +kernel : yX10_text.cls ≠ "java/lang/invoke/MethodHandle"), (by decide +kernel : yX10_text.cls ≠ "java/lang/invoke/VarHandle"), (by decide +kernel : (parseMethodDescriptor yX10_text.desc).map (fun d => d.parameters.length) = some 1)⟩, Nat.le_of_ble_eq_true rfl⟩
noncomputable def f_X10_text (σ : Mem) (x0 : Int32) : Option (Bool × Mem) :=
  gF σ 0 7 (fun (v1 : Int32) => pF σ 0 7 0 (fun (σ2 : Mem) => (f_X5_forget σ2).bind (fun (σ3 : Mem) => (f_X10_isRegister σ3 x0).bind (fun (b4 : Bool) => if b4 then gZ σ3 40 3 (fun (b5 : Bool) => if b5 then bq (f_X5_read σ3 34 v1) (fun (b6 : Bool) (σ7 : Mem) => if b6 then gR 145 0 (fun (p11 : Nat) => (f_X0_copy σ7 p11 176).bind (fun (σ12 : Mem) => bq (f_X10_keep σ12 x0) (fun (b13 : Bool) (σ14 : Mem) => some (b13, σ14)))) else gF σ7 144 0 (fun (v8 : Int32) => if v8 = 5 then (gI σ7 16 0 (fun (v9 : Int32) => pI σ7 16 0 (v9 + 1) (fun (σ10 : Mem) => some (false, σ10)))) else (some (false, σ7)))) else some (false, σ3)) else some (false, σ3)))))
theorem t_X10_text {w : Wd} (hw : WOK w) {σ : Mem} {x0 : Int32} : JO w mu_X10_text vB σ [(0, .ref (adr w 0)), (1, .int x0)] [] 0 (f_X10_text σ x0) some := by
  unfold f_X10_text
  refine jo_aload_n (pc := 0) 0 rfl dX10_text_0 rfl ?_
  refine jo_getf (pc := 1) ok_10_7 (ik_0 hw) gw_638 dX10_text_1 (fun v1 => ?_)
  refine jo_istore_n (pc := 4) (lv' := [(2, .int v1), (0, .ref (adr w 0)), (1, .int x0)]) dX10_text_4 rfl (ltb rfl) rfl ?_
  refine jo_aload_n (pc := 5) 1 rfl dX10_text_5 rfl ?_
  refine jo_iconst (pc := 6) dX10_text_6 (ic_i_0) ?_
  refine jo_putf (pc := 7) ok_10_7 okp_10_7 (ik_0 hw) gw_638 dX10_text_7 (fun σ2 => ?_)
  refine jo_aload_n (pc := 10) 1 rfl dX10_text_10 rfl ?_
  refine jo_getrE (pc := 11) ok_10_14 (ik_0 hw) rf_0_14 gw_645 dX10_text_11 ?_
  refine jo_cV_V_i (pc := 14) (μ' := mu_X5_forget) (fx := f_X5_forget σ2) (As := []) (c_X5_forget hw) (ok_X5_forget) (ltb rfl) (all3 gw_960 gw_961 gw_962) (ik_144 hw) (by decide) (q := (RX5, TX5, 11)) rfl rfl rfl rfl (Nat.le_of_ble_eq_true rfl) dX10_text_14 (fun σ3 => ?_)
  refine jo_iload_n (pc := 17) 2 rfl dX10_text_17 rfl ?_
  refine jo_cS_Z_p (pc := 18) (μ' := mu_X10_isRegister) (fx := f_X10_isRegister σ3 x0) (As := [.int x0]) (c_X10_isRegister hw) (ok_X10_isRegister) (ltb rfl) (all2 gw_803 gw_804) rfl rfl (Nat.le_of_ble_eq_true rfl) dX10_text_18 (fun b4 => ?_)
  refine jo_ifz_eq (pc := 21) dX10_text_21 (tgt := 34) rfl ?_ ?_
  · refine jo_iconst (pc := 34) dX10_text_34 (ic_i_0) ?_
    exact jo_breturn (pc := 35) (b := false) rfl rfl dX10_text_35
  · refine jo_aload_n (pc := 24) 1 rfl dX10_text_24 rfl ?_
    refine jo_getrE (pc := 25) ok_10_9 (ik_0 hw) rf_0_9 gw_640 dX10_text_25 ?_
    refine jo_getz (pc := 28) ok_4_3 (ik_40 hw) gw_308 dX10_text_28 (fun b5 => ?_)
    refine jo_ifz_ne (pc := 31) dX10_text_31 (tgt := 36) rfl ?_ ?_
    · refine jo_aload_n (pc := 36) 1 rfl dX10_text_36 rfl ?_
      refine jo_getrE (pc := 37) ok_10_14 (ik_0 hw) rf_0_14 gw_645 dX10_text_37 ?_
      refine jo_aload_n (pc := 40) 1 rfl dX10_text_40 rfl ?_
      refine jo_getrE (pc := 41) ok_10_6 (ik_0 hw) rf_0_6 gw_637 dX10_text_41 ?_
      refine jo_iload_n (pc := 44) 0 rfl dX10_text_44 rfl ?_
      refine jo_cV_Z_i (pc := 45) (μ' := mu_X5_read) (fx := f_X5_read σ3 34 v1) (As := [.ref (adr w 34), .int v1]) (c_X5_read hw (ik_34 hw)) (ok_X5_read) (ltb rfl) (all3 gw_964 gw_965 gw_966) (ik_144 hw) (by decide) (q := (RX5, TX5, 11)) rfl rfl rfl rfl (Nat.le_of_ble_eq_true rfl) dX10_text_45 (fun b6 σ7 => ?_)
      refine jo_ifz_eq (pc := 48) dX10_text_48 (tgt := 73) rfl ?_ ?_
      · refine jo_aload_n (pc := 73) 1 rfl dX10_text_73 rfl ?_
        refine jo_getrE (pc := 74) ok_10_14 (ik_0 hw) rf_0_14 gw_645 dX10_text_74 ?_
        refine jo_getf (pc := 77) ok_5_0 (ik_144 hw) gw_472 dX10_text_77 (fun v8 => ?_)
        refine jo_iconst (pc := 80) dX10_text_80 (ic_i_5) ?_
        refine jo_icmp_ne (pc := 81) dX10_text_81 (tgt := 97) rfl ?_ ?_
        · refine jo_iconst (pc := 97) dX10_text_97 (ic_i_0) ?_
          exact jo_breturn (pc := 98) (b := false) rfl rfl dX10_text_98
        · refine jo_aload_n (pc := 84) 1 rfl dX10_text_84 rfl ?_
          refine jo_getrE (pc := 85) ok_10_0 (ik_0 hw) rf_0_0 gw_631 dX10_text_85 ?_
          refine jo_getrE (pc := 88) ok_8_2 (ik_1 hw) rf_1_2 gw_224 dX10_text_88 ?_
          refine jo_iconst (pc := 91) dX10_text_91 (ic_i_0) ?_
          refine jo_dup2 (pc := 92) dX10_text_92 rfl rfl ?_
          refine jo_iald (pc := 93) (ik_16 hw) dX10_text_93 (fun v9 => ?_)
          refine jo_iconst (pc := 94) dX10_text_94 (ic_i_1) ?_
          refine jo_iadd (pc := 95) dX10_text_95 ?_
          refine jo_iast (pc := 96) (ik_16 hw) dX10_text_96 (fun σ10 => ?_)
          refine jo_iconst (pc := 97) dX10_text_97 (ic_i_0) ?_
          exact jo_breturn (pc := 98) (b := false) rfl rfl dX10_text_98
      · refine jo_aload_n (pc := 51) 1 rfl dX10_text_51 rfl ?_
        refine jo_getrE (pc := 52) ok_10_14 (ik_0 hw) rf_0_14 gw_645 dX10_text_52 ?_
        refine jo_getrE (pc := 55) ok_5_2 (ik_144 hw) rf_144_2 gw_476 dX10_text_55 ?_
        refine jo_iconst (pc := 58) dX10_text_58 (ic_i_0) ?_
        refine jo_aaldG (pc := 59) (z := 13) hw (ik_145 hw) (by decide) (t := 4) rfl rfl (by decide) dX10_text_59 (fun p11 hp11 => ?_)
        refine jo_aload_n (pc := 60) 1 rfl dX10_text_60 rfl ?_
        refine jo_getrE (pc := 61) ok_10_15 (ik_0 hw) rf_0_15 gw_646 dX10_text_61 ?_
        refine jo_cS_V_i (pc := 64) (μ' := mu_X0_copy) (fx := f_X0_copy σ7 p11 176) (As := [.ref (adr w p11), .ref (adr w 176)]) (c_X0_copy hw (hp11) (ik_176 hw)) (ok_X0_copy) (ltb rfl) (all2 gw_832 gw_704) rfl rfl (Nat.le_of_ble_eq_true rfl) dX10_text_64 (fun σ12 => ?_)
        refine jo_aload_n (pc := 67) 1 rfl dX10_text_67 rfl ?_
        refine jo_iload_n (pc := 68) 2 rfl dX10_text_68 rfl ?_
        refine jo_cV_Z_i (pc := 69) (μ' := mu_X10_keep) (fx := f_X10_keep σ12 x0) (As := [.int x0]) (c_X10_keep hw) (ok_X10_keep) (ltb rfl) (all3 gw_828 gw_830 gw_15) (ik_0 hw) (by decide) (q := (RX10, TX10, 17)) rfl rfl rfl rfl (Nat.le_of_ble_eq_true rfl) dX10_text_69 (fun b13 σ14 => ?_)
        exact jo_breturn (pc := 72) (b := b13) rfl rfl dX10_text_72
    · refine jo_iconst (pc := 34) dX10_text_34 (ic_i_0) ?_
      exact jo_breturn (pc := 35) (b := false) rfl rfl dX10_text_35
theorem c_X10_text {w : Wd} (hw : WOK w) {σ : Mem} {x0 : Int32} : ∀ r σ', f_X10_text σ x0 = some (r, σ') → MC w mu_X10_text (vB r) [.ref (adr w 0), .int x0] σ σ' := mc_of ok_X10_text rfl (Nat.le_of_ble_eq_true rfl) (t_X10_text hw)
abbrev mu_X10_fault : MD := (yX10_fault, cX10_fault, 2, some .int, 0)
theorem ok_X10_fault : MOK mu_X10_fault 1 := ⟨gw_1036, gw_158, (by decide +kernel : plainFor yX10_fault = true), ⟨(by decide +kernel : yX10_fault.cls ≠ "java/lang/invoke/MethodHandle"), (by decide +kernel : yX10_fault.cls ≠ "java/lang/invoke/VarHandle"), (by decide +kernel : (parseMethodDescriptor yX10_fault.desc).map (fun d => d.parameters.length) = some 1)⟩, Nat.le_of_ble_eq_true rfl⟩
noncomputable def f_X10_fault (σ : Mem) (x0 : Int32) : Option Int32 :=
  if x0 = 0 then (gF σ 144 0 (fun (v2 : Int32) => some v2)) else if x0 = 1 then (gF σ 144 1 (fun (v4 : Int32) => some v4)) else (some (-1))
theorem t_X10_fault {w : Wd} (hw : WOK w) {σ : Mem} {x0 : Int32} : JO w mu_X10_fault vI σ [(0, .ref (adr w 0)), (1, .int x0)] [] 0 (f_X10_fault σ x0) (fun z => some (z, σ)) := by
  unfold f_X10_fault
  refine jo_iload_n (pc := 0) 1 rfl dX10_fault_0 rfl ?_
  refine jo_case (v := 0) (fun h1 => ?_) (fun h1 => ?_)
  · refine jo_lswHit (pc := 1) dX10_fault_1 h1 (by decide) (off := 27) (by rfl) (tgt := 28) rfl ?_
    refine jo_aload_n (pc := 28) 0 rfl dX10_fault_28 rfl ?_
    refine jo_getrE (pc := 29) ok_10_14 (ik_0 hw) rf_0_14 gw_645 dX10_fault_29 ?_
    refine jo_getf (pc := 32) ok_5_0 (ik_144 hw) gw_472 dX10_fault_32 (fun v2 => ?_)
    exact jo_ireturn (pc := 35) rfl rfl dX10_fault_35
  refine jo_case (v := 1) (fun h3 => ?_) (fun h3 => ?_)
  · refine jo_lswHit (pc := 1) dX10_fault_1 h3 (by decide) (off := 35) (by rfl) (tgt := 36) rfl ?_
    refine jo_aload_n (pc := 36) 0 rfl dX10_fault_36 rfl ?_
    refine jo_getrE (pc := 37) ok_10_14 (ik_0 hw) rf_0_14 gw_645 dX10_fault_37 ?_
    refine jo_getf (pc := 40) ok_5_1 (ik_144 hw) gw_474 dX10_fault_40 (fun v4 => ?_)
    exact jo_ireturn (pc := 43) rfl rfl dX10_fault_43
  have qh1 : (x0).toInt ≠ 0 := fun e => h1 (Int32.toInt_inj.mp (e.trans (by decide)))
  have qh3 : (x0).toInt ≠ 1 := fun e => h3 (Int32.toInt_inj.mp (e.trans (by decide)))
  refine jo_lookup (pc := 1) dX10_fault_1 (by decide) (off := 43) (by simp [Op.lookupswitch.offset]; omega) (tgt := 44) rfl ?_
  refine jo_iconst (pc := 44) dX10_fault_44 (ic_i_m1) ?_
  exact jo_ireturn (pc := 45) rfl rfl dX10_fault_45
theorem c_X10_fault {w : Wd} (hw : WOK w) {σ : Mem} {x0 : Int32} : ∀ r, f_X10_fault σ x0 = some r → MC w mu_X10_fault (vI r) [.ref (adr w 0), .int x0] σ σ := mc_ofP ok_X10_fault rfl (Nat.le_of_ble_eq_true rfl) (t_X10_fault hw)
abbrev mu_X10_collect : MD := (yX10_collect, cX10_collect, 4, some .int, 4)
theorem ok_X10_collect : MOK mu_X10_collect 0 := ⟨gw_1040, gw_158, (by decide +kernel : plainFor yX10_collect = true), ⟨(by decide +kernel : yX10_collect.cls ≠ "java/lang/invoke/MethodHandle"), (by decide +kernel : yX10_collect.cls ≠ "java/lang/invoke/VarHandle"), (by decide +kernel : (parseMethodDescriptor yX10_collect.desc).map (fun d => d.parameters.length) = some 0)⟩, Nat.le_of_ble_eq_true rfl⟩
noncomputable def j_X10_collect_76 (σ4 : Mem) : Option (Int32 × Mem) :=
  bq (f_X2_run σ4 2 1000) (fun (v5 : Int32) (σ6 : Mem) => if v5 = (-1) then (some ((-2), σ6)) else (gF σ6 2 0 (fun (v7 : Int32) => pI σ6 16 1 v7 (fun (σ8 : Mem) => cI σ8 39 0 16 2 6 (fun (σ9 : Mem) => some (v5, σ9))))))
noncomputable def l_X10_collect_27 (v1 : Int32) (σ10 : Mem) (i11 : Int32) : Option ((Mem × Int32) ⊕ (Mem ⊕ (Int32 × Mem))) :=
  if v1 ≤ i11 then (some (Sum.inr (Sum.inl σ10))) else (gI σ10 34 i11 (fun (v12 : Int32) => bd (v12 - 97) (fun (v13 : Int32) => if v13 < 0 then (some (Sum.inr (Sum.inr ((-1), σ10)))) else (gF σ10 2 0 (fun (v14 : Int32) => if v13 < v14 then ((f_X2_add σ10 v13).bind (fun (σ15 : Mem) => some (Sum.inl (σ15, i11 + 1)))) else (some (Sum.inr (Sum.inr ((-1), σ10)))))))))
noncomputable def f_X10_collect (σ : Mem) : Option (Int32 × Mem) :=
  gF σ 0 7 (fun (v1 : Int32) => pF σ 0 7 0 (fun (σ2 : Mem) => if v1 ≤ 24 then ((f_X2_begin σ2).bind (fun (σ3 : Mem) => (loopO (fun (z11 : (Mem × Int32)) => l_X10_collect_27 v1 z11.1 z11.2) (σ3, 0) : Option (Mem ⊕ (Int32 × Mem))).bind (Sum.elim (fun (z4 : Mem) => j_X10_collect_76 z4) some))) else (some ((-1), σ2))))
theorem t_X10_collect {w : Wd} (hw : WOK w) {σ : Mem} : JO w mu_X10_collect vI σ [(0, .ref (adr w 0))] [] 0 (f_X10_collect σ) some := by
  unfold f_X10_collect
  refine jo_aload_n (pc := 0) 0 rfl dX10_collect_0 rfl ?_
  refine jo_getf (pc := 1) ok_10_7 (ik_0 hw) gw_638 dX10_collect_1 (fun v1 => ?_)
  refine jo_istore_n (pc := 4) (lv' := [(1, .int v1), (0, .ref (adr w 0))]) dX10_collect_4 rfl (ltb rfl) rfl ?_
  refine jo_aload_n (pc := 5) 1 rfl dX10_collect_5 rfl ?_
  refine jo_iconst (pc := 6) dX10_collect_6 (ic_i_0) ?_
  refine jo_putf (pc := 7) ok_10_7 okp_10_7 (ik_0 hw) gw_638 dX10_collect_7 (fun σ2 => ?_)
  refine jo_iload_n (pc := 10) 0 rfl dX10_collect_10 rfl ?_
  refine jo_bipush (pc := 11) dX10_collect_11 (ic_b_24) ?_
  refine jo_icmp_le (pc := 13) dX10_collect_13 (tgt := 18) rfl ?_ ?_
  · refine jo_aload_n (pc := 18) 1 rfl dX10_collect_18 rfl ?_
    refine jo_getrE (pc := 19) ok_10_8 (ik_0 hw) rf_0_8 gw_639 dX10_collect_19 ?_
    refine jo_cV_V_i (pc := 22) (μ' := mu_X2_begin) (fx := f_X2_begin σ2) (As := []) (c_X2_begin hw) (ok_X2_begin) (ltb rfl) (all3 gw_1041 gw_557 gw_558) (ik_35 hw) (by decide) (q := (RX2, TX2, 7)) rfl rfl rfl rfl (Nat.le_of_ble_eq_true rfl) dX10_collect_22 (fun σ3 => ?_)
    refine jo_iconst (pc := 25) dX10_collect_25 (ic_i_0) ?_
    refine jo_istore_n (pc := 26) (lv' := [(2, .int 0), (1, .int v1), (0, .ref (adr w 0))]) dX10_collect_26 rfl (ltb rfl) rfl ?_
    refine jo_joinS (S := Mem) (fun (z4 : Mem) => z4) (fun (z4 : Mem) => [(0, .ref (adr w 0))]) (fun (z4 : Mem) => []) 76 ?_ (fun h76_4 => ?_)
    · intro σ4
      show JO w mu_X10_collect vI σ4 [(0, .ref (adr w 0))] [] 76 (j_X10_collect_76 σ4) _
      unfold j_X10_collect_76
      refine jo_aload_n (pc := 76) 0 rfl dX10_collect_76 rfl ?_
      refine jo_getrE (pc := 77) ok_10_8 (ik_0 hw) rf_0_8 gw_639 dX10_collect_77 ?_
      refine jo_aload_n (pc := 80) 0 rfl dX10_collect_80 rfl ?_
      refine jo_getrE (pc := 81) ok_10_0 (ik_0 hw) rf_0_0 gw_631 dX10_collect_81 ?_
      refine jo_getrE (pc := 84) ok_8_0 (ik_1 hw) rf_1_0 gw_218 dX10_collect_84 ?_
      refine jo_sipush (pc := 87) dX10_collect_87 (ic_s_1000) ?_
      refine jo_cV_I_i (pc := 90) (μ' := mu_X2_run) (fx := f_X2_run σ4 2 1000) (As := [.ref (adr w 2), .int 1000]) (c_X2_run hw (ik_2 hw)) (ok_X2_run) (ltb rfl) (all3 gw_1043 gw_574 gw_575) (ik_35 hw) (by decide) (q := (RX2, TX2, 7)) rfl rfl rfl rfl (Nat.le_of_ble_eq_true rfl) dX10_collect_90 (fun v5 σ6 => ?_)
      refine jo_istore_n (pc := 93) (lv' := [(2, .int v5), (0, .ref (adr w 0))]) dX10_collect_93 rfl (ltb rfl) rfl ?_
      refine jo_iload_n (pc := 94) 0 rfl dX10_collect_94 rfl ?_
      refine jo_iconst (pc := 95) dX10_collect_95 (ic_i_m1) ?_
      refine jo_icmp_ne (pc := 96) dX10_collect_96 (tgt := 102) rfl ?_ ?_
      · refine jo_aload_n (pc := 102) 1 rfl dX10_collect_102 rfl ?_
        refine jo_getrE (pc := 103) ok_10_0 (ik_0 hw) rf_0_0 gw_631 dX10_collect_103 ?_
        refine jo_getrE (pc := 106) ok_8_2 (ik_1 hw) rf_1_2 gw_224 dX10_collect_106 ?_
        refine jo_iconst (pc := 109) dX10_collect_109 (ic_i_1) ?_
        refine jo_aload_n (pc := 110) 1 rfl dX10_collect_110 rfl ?_
        refine jo_getrE (pc := 111) ok_10_0 (ik_0 hw) rf_0_0 gw_631 dX10_collect_111 ?_
        refine jo_getrE (pc := 114) ok_8_0 (ik_1 hw) rf_1_0 gw_218 dX10_collect_114 ?_
        refine jo_getf (pc := 117) ok_6_0 (ik_2 hw) gw_198 dX10_collect_117 (fun v7 => ?_)
        refine jo_iast (pc := 120) (ik_16 hw) dX10_collect_120 (fun σ8 => ?_)
        refine jo_aload_n (pc := 121) 1 rfl dX10_collect_121 rfl ?_
        refine jo_getrE (pc := 122) ok_10_8 (ik_0 hw) rf_0_8 gw_639 dX10_collect_122 ?_
        refine jo_getrE (pc := 125) ok_2_6 (ik_35 hw) rf_35_6 gw_248 dX10_collect_125 ?_
        refine jo_iconst (pc := 128) dX10_collect_128 (ic_i_0) ?_
        refine jo_aload_n (pc := 129) 1 rfl dX10_collect_129 rfl ?_
        refine jo_getrE (pc := 130) ok_10_0 (ik_0 hw) rf_0_0 gw_631 dX10_collect_130 ?_
        refine jo_getrE (pc := 133) ok_8_2 (ik_1 hw) rf_1_2 gw_224 dX10_collect_133 ?_
        refine jo_iconst (pc := 136) dX10_collect_136 (ic_i_2) ?_
        refine jo_bipush (pc := 137) dX10_collect_137 (ic_b_6) ?_
        refine jo_acI (pc := 139) (ik_39 hw) (ik_16 hw) (all4 gw_1044 gw_547 gw_546 gw_170) (ltb rfl) (Nat.le_of_ble_eq_true rfl) dX10_collect_139 (fun σ9 => ?_)
        refine jo_iload_n (pc := 142) 0 rfl dX10_collect_142 rfl ?_
        exact jo_ireturn (pc := 143) rfl rfl dX10_collect_143
      · refine jo_bipush (pc := 99) dX10_collect_99 (ic_b_m2) ?_
        exact jo_ireturn (pc := 101) rfl rfl dX10_collect_101
    · refine jo_lv (lv' := [(1, .int v1), (0, .ref (adr w 0)), (2, .int 0)]) [1, 2, 0] rfl ?_
      refine jo_loop (X := Mem ⊕ (Int32 × Mem)) (fun (z11 : (Mem × Int32)) => z11.1) (fun (z11 : (Mem × Int32)) => [(1, .int v1), (0, .ref (adr w 0)), (2, .int z11.2)]) (body := (fun (z11 : (Mem × Int32)) => l_X10_collect_27 v1 z11.1 z11.2)) (fun F27_11 hF27_11 s => ?_) (σ3, 0)
      obtain ⟨σ10, i11⟩ := s
      show JO w mu_X10_collect vI σ10 [(1, .int v1), (0, .ref (adr w 0)), (2, .int i11)] [] 27 (l_X10_collect_27 v1 σ10 i11) _
      unfold l_X10_collect_27
      refine jo_iload_n (pc := 27) 2 rfl dX10_collect_27 rfl ?_
      refine jo_iload_n (pc := 28) 0 rfl dX10_collect_28 rfl ?_
      refine jo_icmp_ge (pc := 29) dX10_collect_29 (tgt := 76) rfl ?_ ?_
      · refine jo_lv (lv' := [(0, .ref (adr w 0))]) [1] rfl ?_
        exact jo_leaf (by rfl) (h76_4 σ10)
      · refine jo_aload_n (pc := 32) 1 rfl dX10_collect_32 rfl ?_
        refine jo_getrE (pc := 33) ok_10_6 (ik_0 hw) rf_0_6 gw_637 dX10_collect_33 ?_
        refine jo_iload_n (pc := 36) 2 rfl dX10_collect_36 rfl ?_
        refine jo_iald (pc := 37) (ik_34 hw) dX10_collect_37 (fun v12 => ?_)
        refine jo_bipush (pc := 38) dX10_collect_38 (ic_b_97) ?_
        refine jo_isub (pc := 40) dX10_collect_40 ?_
        refine jo_bd ?_
        refine jo_istore_n (pc := 41) (lv' := [(3, .int (v12 - 97)), (1, .int v1), (0, .ref (adr w 0)), (2, .int i11)]) dX10_collect_41 rfl (ltb rfl) rfl ?_
        generalize (v12 - 97) = v13
        refine jo_iload_n (pc := 42) 0 rfl dX10_collect_42 rfl ?_
        refine jo_if_lt (pc := 43) dX10_collect_43 (tgt := 60) rfl ?_ ?_
        · refine jo_iconst (pc := 60) dX10_collect_60 (ic_i_m1) ?_
          exact jo_ireturn (pc := 61) rfl rfl dX10_collect_61
        · refine jo_iload_n (pc := 46) 0 rfl dX10_collect_46 rfl ?_
          refine jo_aload_n (pc := 47) 2 rfl dX10_collect_47 rfl ?_
          refine jo_getrE (pc := 48) ok_10_0 (ik_0 hw) rf_0_0 gw_631 dX10_collect_48 ?_
          refine jo_getrE (pc := 51) ok_8_0 (ik_1 hw) rf_1_0 gw_218 dX10_collect_51 ?_
          refine jo_getf (pc := 54) ok_6_0 (ik_2 hw) gw_198 dX10_collect_54 (fun v14 => ?_)
          refine jo_icmp_lt (pc := 57) dX10_collect_57 (tgt := 62) rfl ?_ ?_
          · refine jo_aload_n (pc := 62) 2 rfl dX10_collect_62 rfl ?_
            refine jo_getrE (pc := 63) ok_10_8 (ik_0 hw) rf_0_8 gw_639 dX10_collect_63 ?_
            refine jo_iload_n (pc := 66) 0 rfl dX10_collect_66 rfl ?_
            refine jo_cV_V_i (pc := 67) (μ' := mu_X2_add) (fx := f_X2_add σ10 v13) (As := [.int v13]) (c_X2_add hw) (ok_X2_add) (ltb rfl) (all3 gw_1042 gw_561 gw_562) (ik_35 hw) (by decide) (q := (RX2, TX2, 7)) rfl rfl rfl rfl (Nat.le_of_ble_eq_true rfl) dX10_collect_67 (fun σ15 => ?_)
            refine jo_iinc (pc := 70) (lv' := [(2, .int (i11 + 1)), (3, .int v13), (1, .int v1), (0, .ref (adr w 0))]) 3 rfl dX10_collect_70 (congrArg (fun z => i11 + z) (ic_i_1)) (ltb rfl) rfl ?_
            refine jo_goto (pc := 73) dX10_collect_73 (tgt := 27) rfl ?_
            refine jo_lv (lv' := [(1, .int v1), (0, .ref (adr w 0)), (2, .int (i11 + 1))]) [2, 3, 0] rfl ?_
            exact jo_leaf (by rfl) (hF27_11 (σ15, i11 + 1))
          · refine jo_iconst (pc := 60) dX10_collect_60 (ic_i_m1) ?_
            exact jo_ireturn (pc := 61) rfl rfl dX10_collect_61
  · refine jo_iconst (pc := 16) dX10_collect_16 (ic_i_m1) ?_
    exact jo_ireturn (pc := 17) rfl rfl dX10_collect_17
theorem c_X10_collect {w : Wd} (hw : WOK w) {σ : Mem} : ∀ r σ', f_X10_collect σ = some (r, σ') → MC w mu_X10_collect (vI r) [.ref (adr w 0)] σ σ' := mc_of ok_X10_collect rfl (Nat.le_of_ble_eq_true rfl) (t_X10_collect hw)
abbrev mu_X10_collected : MD := (yX10_collected, cX10_collected, 2, some .int, 0)
theorem ok_X10_collected : MOK mu_X10_collected 1 := ⟨gw_1048, gw_158, (by decide +kernel : plainFor yX10_collected = true), ⟨(by decide +kernel : yX10_collected.cls ≠ "java/lang/invoke/MethodHandle"), (by decide +kernel : yX10_collected.cls ≠ "java/lang/invoke/VarHandle"), (by decide +kernel : (parseMethodDescriptor yX10_collected.desc).map (fun d => d.parameters.length) = some 1)⟩, Nat.le_of_ble_eq_true rfl⟩
noncomputable def f_X10_collected (σ : Mem) (x0 : Int32) : Option Int32 :=
  if x0 < 1 then (some (-1)) else (gI σ 16 1 (fun (v1 : Int32) => if v1 < x0 then (some (-1)) else (if x0 ≤ 6 then (gI σ 16 ((2 + x0) - 1) (fun (v2 : Int32) => some v2)) else (some (-1)))))
theorem t_X10_collected {w : Wd} (hw : WOK w) {σ : Mem} {x0 : Int32} : JO w mu_X10_collected vI σ [(0, .ref (adr w 0)), (1, .int x0)] [] 0 (f_X10_collected σ x0) (fun z => some (z, σ)) := by
  unfold f_X10_collected
  refine jo_iload_n (pc := 0) 1 rfl dX10_collected_0 rfl ?_
  refine jo_iconst (pc := 1) dX10_collected_1 (ic_i_1) ?_
  refine jo_icmp_lt (pc := 2) dX10_collected_2 (tgt := 24) rfl ?_ ?_
  · refine jo_iconst (pc := 24) dX10_collected_24 (ic_i_m1) ?_
    exact jo_ireturn (pc := 25) rfl rfl dX10_collected_25
  · refine jo_iload_n (pc := 5) 1 rfl dX10_collected_5 rfl ?_
    refine jo_aload_n (pc := 6) 0 rfl dX10_collected_6 rfl ?_
    refine jo_getrE (pc := 7) ok_10_0 (ik_0 hw) rf_0_0 gw_631 dX10_collected_7 ?_
    refine jo_getrE (pc := 10) ok_8_2 (ik_1 hw) rf_1_2 gw_224 dX10_collected_10 ?_
    refine jo_iconst (pc := 13) dX10_collected_13 (ic_i_1) ?_
    refine jo_iald (pc := 14) (ik_16 hw) dX10_collected_14 (fun v1 => ?_)
    refine jo_icmp_gt (pc := 15) dX10_collected_15 (tgt := 24) rfl ?_ ?_
    · refine jo_iconst (pc := 24) dX10_collected_24 (ic_i_m1) ?_
      exact jo_ireturn (pc := 25) rfl rfl dX10_collected_25
    · refine jo_iload_n (pc := 18) 1 rfl dX10_collected_18 rfl ?_
      refine jo_bipush (pc := 19) dX10_collected_19 (ic_b_6) ?_
      refine jo_icmp_le (pc := 21) dX10_collected_21 (tgt := 26) rfl ?_ ?_
      · refine jo_aload_n (pc := 26) 0 rfl dX10_collected_26 rfl ?_
        refine jo_getrE (pc := 27) ok_10_0 (ik_0 hw) rf_0_0 gw_631 dX10_collected_27 ?_
        refine jo_getrE (pc := 30) ok_8_2 (ik_1 hw) rf_1_2 gw_224 dX10_collected_30 ?_
        refine jo_iconst (pc := 33) dX10_collected_33 (ic_i_2) ?_
        refine jo_iload_n (pc := 34) 1 rfl dX10_collected_34 rfl ?_
        refine jo_iadd (pc := 35) dX10_collected_35 ?_
        refine jo_iconst (pc := 36) dX10_collected_36 (ic_i_1) ?_
        refine jo_isub (pc := 37) dX10_collected_37 ?_
        refine jo_iald (pc := 38) (ik_16 hw) dX10_collected_38 (fun v2 => ?_)
        exact jo_ireturn (pc := 39) rfl rfl dX10_collected_39
      · refine jo_iconst (pc := 24) dX10_collected_24 (ic_i_m1) ?_
        exact jo_ireturn (pc := 25) rfl rfl dX10_collected_25
theorem c_X10_collected {w : Wd} (hw : WOK w) {σ : Mem} {x0 : Int32} : ∀ r, f_X10_collected σ x0 = some r → MC w mu_X10_collected (vI r) [.ref (adr w 0), .int x0] σ σ := mc_ofP ok_X10_collected rfl (Nat.le_of_ble_eq_true rfl) (t_X10_collected hw)
abbrev mu_X10_exponent : MD := (yX10_exponent, cX10_exponent, 3, some .int, 1)
theorem ok_X10_exponent : MOK mu_X10_exponent 2 := ⟨gw_1052, gw_158, (by decide +kernel : plainFor yX10_exponent = true), ⟨(by decide +kernel : yX10_exponent.cls ≠ "java/lang/invoke/MethodHandle"), (by decide +kernel : yX10_exponent.cls ≠ "java/lang/invoke/VarHandle"), (by decide +kernel : (parseMethodDescriptor yX10_exponent.desc).map (fun d => d.parameters.length) = some 2)⟩, Nat.le_of_ble_eq_true rfl⟩
noncomputable def f_X10_exponent (σ : Mem) (x0 : Int32) (x1 : Int32) : Option Int32 :=
  (f_X10_isRegister σ x0).bind (fun (b1 : Bool) => if b1 then (f_X10_isGenerator σ x1).bind (fun (b2 : Bool) => if b2 then gR 5 x0 (fun (p3 : Nat) => gL σ p3 (x1 - 1) (fun (v4 : Int64) => some (Int64.toInt32 v4))) else some (-10000)) else some (-10000))
theorem t_X10_exponent {w : Wd} (hw : WOK w) {σ : Mem} {x0 : Int32} {x1 : Int32} : JO w mu_X10_exponent vI σ [(0, .ref (adr w 0)), (1, .int x0), (2, .int x1)] [] 0 (f_X10_exponent σ x0 x1) (fun z => some (z, σ)) := by
  unfold f_X10_exponent
  refine jo_iload_n (pc := 0) 1 rfl dX10_exponent_0 rfl ?_
  refine jo_cS_Z_p (pc := 1) (μ' := mu_X10_isRegister) (fx := f_X10_isRegister σ x0) (As := [.int x0]) (c_X10_isRegister hw) (ok_X10_isRegister) (ltb rfl) (all2 gw_803 gw_804) rfl rfl (Nat.le_of_ble_eq_true rfl) dX10_exponent_1 (fun b1 => ?_)
  refine jo_ifz_eq (pc := 4) dX10_exponent_4 (tgt := 15) rfl ?_ ?_
  · refine jo_sipush (pc := 15) dX10_exponent_15 (ic_s_m10000) ?_
    exact jo_ireturn (pc := 18) rfl rfl dX10_exponent_18
  · refine jo_aload_n (pc := 7) 0 rfl dX10_exponent_7 rfl ?_
    refine jo_iload_n (pc := 8) 2 rfl dX10_exponent_8 rfl ?_
    refine jo_cV_Z_p (pc := 9) (μ' := mu_X10_isGenerator) (fx := f_X10_isGenerator σ x1) (As := [.int x1]) (c_X10_isGenerator hw) (ok_X10_isGenerator) (ltb rfl) (all3 gw_743 gw_745 gw_11) (ik_0 hw) (by decide) (q := (RX10, TX10, 17)) rfl rfl rfl rfl (Nat.le_of_ble_eq_true rfl) dX10_exponent_9 (fun b2 => ?_)
    refine jo_ifz_ne (pc := 12) dX10_exponent_12 (tgt := 19) rfl ?_ ?_
    · refine jo_aload_n (pc := 19) 0 rfl dX10_exponent_19 rfl ?_
      refine jo_getrE (pc := 20) ok_10_0 (ik_0 hw) rf_0_0 gw_631 dX10_exponent_20 ?_
      refine jo_getrE (pc := 23) ok_8_1 (ik_1 hw) rf_1_1 gw_221 dX10_exponent_23 ?_
      refine jo_iload_n (pc := 26) 1 rfl dX10_exponent_26 rfl ?_
      refine jo_aaldG (pc := 27) (z := 13) hw (ik_5 hw) (by decide) (t := 4) rfl rfl (by decide) dX10_exponent_27 (fun p3 hp3 => ?_)
      refine jo_iload_n (pc := 28) 2 rfl dX10_exponent_28 rfl ?_
      refine jo_iconst (pc := 29) dX10_exponent_29 (ic_i_1) ?_
      refine jo_isub (pc := 30) dX10_exponent_30 ?_
      refine jo_lald (pc := 31) (hp3) dX10_exponent_31 (fun v4 => ?_)
      refine jo_l2i (pc := 32) dX10_exponent_32 ?_
      exact jo_ireturn (pc := 33) rfl rfl dX10_exponent_33
    · refine jo_sipush (pc := 15) dX10_exponent_15 (ic_s_m10000) ?_
      exact jo_ireturn (pc := 18) rfl rfl dX10_exponent_18
theorem c_X10_exponent {w : Wd} (hw : WOK w) {σ : Mem} {x0 : Int32} {x1 : Int32} : ∀ r, f_X10_exponent σ x0 x1 = some r → MC w mu_X10_exponent (vI r) [.ref (adr w 0), .int x0, .int x1] σ σ := mc_ofP ok_X10_exponent rfl (Nat.le_of_ble_eq_true rfl) (t_X10_exponent hw)
abbrev mu_X10_layerOf : MD := (yX10_layerOf, cX10_layerOf, 3, some .int, 1)
theorem ok_X10_layerOf : MOK mu_X10_layerOf 1 := ⟨gw_1060, gw_158, (by decide +kernel : plainFor yX10_layerOf = true), ⟨(by decide +kernel : yX10_layerOf.cls ≠ "java/lang/invoke/MethodHandle"), (by decide +kernel : yX10_layerOf.cls ≠ "java/lang/invoke/VarHandle"), (by decide +kernel : (parseMethodDescriptor yX10_layerOf.desc).map (fun d => d.parameters.length) = some 1)⟩, Nat.le_of_ble_eq_true rfl⟩
noncomputable def j_X10_layerOf_43 (σ : Mem) : Option Int32 :=
  (f_X6_top σ 2).bind (fun (v1 : Int32) => some (v1 + 1))
noncomputable def j_X10_layerOf_24 (σ : Mem) (i2 : Int32) : Option (Unit ⊕ Int32) :=
  gI σ 3 i2 (fun (v3 : Int32) => some (Sum.inr v3))
noncomputable def l_X10_layerOf_2 (σ : Mem) (x0 : Nat) (i4 : Int32) : Option (Int32 ⊕ (Int32 ⊕ (Unit ⊕ Int32))) :=
  gF σ 2 0 (fun (v5 : Int32) => if v5 ≤ i4 then (some (Sum.inr (Sum.inr (Sum.inl ())))) else (gL σ x0 i4 (fun (v6 : Int64) => if v6 = 0 then (some (Sum.inl (i4 + 1))) else (some (Sum.inr (Sum.inl i4))))))
noncomputable def f_X10_layerOf (σ : Mem) (x0 : Nat) : Option Int32 :=
  ((loopO (fun (z4 : Int32) => l_X10_layerOf_2 σ x0 z4) 0 : Option (Int32 ⊕ (Unit ⊕ Int32))).bind (Sum.elim (fun (z2 : Int32) => j_X10_layerOf_24 σ z2) some) : Option (Unit ⊕ Int32)).bind (Sum.elim (fun (z0 : Unit) => j_X10_layerOf_43 σ) some)
theorem t_X10_layerOf {w : Wd} (hw : WOK w) {σ : Mem} {x0 : Nat} (hx0 : isk w x0 13) : JO w mu_X10_layerOf vI σ [(0, .ref (adr w 0)), (1, .ref (adr w x0))] [] 0 (f_X10_layerOf σ x0) (fun z => some (z, σ)) := by
  unfold f_X10_layerOf
  refine jo_iconst (pc := 0) dX10_layerOf_0 (ic_i_0) ?_
  refine jo_istore_n (pc := 1) (lv' := [(2, .int 0), (0, .ref (adr w 0)), (1, .ref (adr w x0))]) dX10_layerOf_1 rfl (ltb rfl) rfl ?_
  refine jo_joinS (S := Unit) (fun (z0 : Unit) => σ) (fun (z0 : Unit) => [(0, .ref (adr w 0))]) (fun (z0 : Unit) => []) 43 ?_ (fun h43_0 => ?_)
  · intro _
    show JO w mu_X10_layerOf vI σ [(0, .ref (adr w 0))] [] 43 (j_X10_layerOf_43 σ) _
    unfold j_X10_layerOf_43
    refine jo_aload_n (pc := 43) 0 rfl dX10_layerOf_43 rfl ?_
    refine jo_getrE (pc := 44) ok_10_0 (ik_0 hw) rf_0_0 gw_631 dX10_layerOf_44 ?_
    refine jo_getrE (pc := 47) ok_8_0 (ik_1 hw) rf_1_0 gw_218 dX10_layerOf_47 ?_
    refine jo_cV_I_p (pc := 50) (μ' := mu_X6_top) (fx := f_X6_top σ 2) (As := []) (c_X6_top hw (ik_2 hw)) (ok_X6_top) (ltb rfl) (all3 gw_1061 gw_606 gw_607) (ik_2 hw) (by decide) (q := (RX6, TX6, 3)) rfl rfl rfl rfl (Nat.le_of_ble_eq_true rfl) dX10_layerOf_50 (fun v1 => ?_)
    refine jo_iconst (pc := 53) dX10_layerOf_53 (ic_i_1) ?_
    refine jo_iadd (pc := 54) dX10_layerOf_54 ?_
    exact jo_ireturn (pc := 55) rfl rfl dX10_layerOf_55
  · refine jo_joinS (S := Int32) (fun (z2 : Int32) => σ) (fun (z2 : Int32) => [(0, .ref (adr w 0)), (2, .int z2)]) (fun (z2 : Int32) => []) 24 ?_ (fun h24_2 => ?_)
    · intro i2
      show JO w mu_X10_layerOf vI σ [(0, .ref (adr w 0)), (2, .int i2)] [] 24 (j_X10_layerOf_24 σ i2) _
      unfold j_X10_layerOf_24
      refine jo_aload_n (pc := 24) 0 rfl dX10_layerOf_24 rfl ?_
      refine jo_getrE (pc := 25) ok_10_0 (ik_0 hw) rf_0_0 gw_631 dX10_layerOf_25 ?_
      refine jo_getrE (pc := 28) ok_8_0 (ik_1 hw) rf_1_0 gw_218 dX10_layerOf_28 ?_
      refine jo_getrE (pc := 31) ok_6_1 (ik_2 hw) rf_2_1 gw_203 dX10_layerOf_31 ?_
      refine jo_iload_n (pc := 34) 1 rfl dX10_layerOf_34 rfl ?_
      refine jo_iald (pc := 35) (ik_3 hw) dX10_layerOf_35 (fun v3 => ?_)
      exact jo_ireturn (pc := 36) rfl rfl dX10_layerOf_36
    · refine jo_lv (lv' := [(0, .ref (adr w 0)), (1, .ref (adr w x0)), (2, .int 0)]) [1, 2, 0] rfl ?_
      refine jo_loop (X := Int32 ⊕ (Unit ⊕ Int32)) (fun (z4 : Int32) => σ) (fun (z4 : Int32) => [(0, .ref (adr w 0)), (1, .ref (adr w x0)), (2, .int z4)]) (body := (fun (z4 : Int32) => l_X10_layerOf_2 σ x0 z4)) (fun F2_4 hF2_4 s => ?_) 0
      revert s; intro i4
      show JO w mu_X10_layerOf vI σ [(0, .ref (adr w 0)), (1, .ref (adr w x0)), (2, .int i4)] [] 2 (l_X10_layerOf_2 σ x0 i4) _
      unfold l_X10_layerOf_2
      refine jo_iload_n (pc := 2) 2 rfl dX10_layerOf_2 rfl ?_
      refine jo_aload_n (pc := 3) 0 rfl dX10_layerOf_3 rfl ?_
      refine jo_getrE (pc := 4) ok_10_0 (ik_0 hw) rf_0_0 gw_631 dX10_layerOf_4 ?_
      refine jo_getrE (pc := 7) ok_8_0 (ik_1 hw) rf_1_0 gw_218 dX10_layerOf_7 ?_
      refine jo_getf (pc := 10) ok_6_0 (ik_2 hw) gw_198 dX10_layerOf_10 (fun v5 => ?_)
      refine jo_icmp_ge (pc := 13) dX10_layerOf_13 (tgt := 43) rfl ?_ ?_
      · refine jo_lv (lv' := [(0, .ref (adr w 0))]) [0] rfl ?_
        exact jo_leaf (by rfl) (h43_0 ())
      · refine jo_aload_n (pc := 16) 1 rfl dX10_layerOf_16 rfl ?_
        refine jo_iload_n (pc := 17) 2 rfl dX10_layerOf_17 rfl ?_
        refine jo_lald (pc := 18) (hx0) dX10_layerOf_18 (fun v6 => ?_)
        refine jo_lconst (pc := 19) dX10_layerOf_19 (ic_l_0) ?_
        refine jo_lcmp_eq (pc := 20) dX10_layerOf_20 dX10_layerOf_21 (tgt := 37) rfl ?_ ?_
        · refine jo_iinc (pc := 37) (lv' := [(2, .int (i4 + 1)), (0, .ref (adr w 0)), (1, .ref (adr w x0))]) 2 rfl dX10_layerOf_37 (congrArg (fun z => i4 + z) (ic_i_1)) (ltb rfl) rfl ?_
          refine jo_goto (pc := 40) dX10_layerOf_40 (tgt := 2) rfl ?_
          refine jo_lv (lv' := [(0, .ref (adr w 0)), (1, .ref (adr w x0)), (2, .int (i4 + 1))]) [1, 2, 0] rfl ?_
          exact jo_leaf (by rfl) (hF2_4 (i4 + 1))
        · refine jo_lv (lv' := [(0, .ref (adr w 0)), (2, .int i4)]) [0, 2] rfl ?_
          exact jo_leaf (by rfl) (h24_2 i4)
theorem c_X10_layerOf {w : Wd} (hw : WOK w) {σ : Mem} {x0 : Nat} (hx0 : isk w x0 13) : ∀ r, f_X10_layerOf σ x0 = some r → MC w mu_X10_layerOf (vI r) [.ref (adr w 0), .ref (adr w x0)] σ σ := mc_ofP ok_X10_layerOf rfl (Nat.le_of_ble_eq_true rfl) (t_X10_layerOf hw hx0)
abbrev mu_X10_commutesWithAll : MD := (yX10_commutesWithAll, cX10_commutesWithAll, 3, some .boolean, 3)
theorem ok_X10_commutesWithAll : MOK mu_X10_commutesWithAll 1 := ⟨gw_1065, gw_158, (by decide +kernel : plainFor yX10_commutesWithAll = true), ⟨(by decide +kernel : yX10_commutesWithAll.cls ≠ "java/lang/invoke/MethodHandle"), (by decide +kernel : yX10_commutesWithAll.cls ≠ "java/lang/invoke/VarHandle"), (by decide +kernel : (parseMethodDescriptor yX10_commutesWithAll.desc).map (fun d => d.parameters.length) = some 1)⟩, Nat.le_of_ble_eq_true rfl⟩
noncomputable def l_X10_commutesWithAll_2 (x0 : Nat) (σ1 : Mem) (i2 : Int32) : Option ((Mem × Int32) ⊕ (Bool × Mem)) :=
  gF σ1 2 0 (fun (v3 : Int32) => if v3 ≤ i2 then (some (Sum.inr (true, σ1))) else ((f_X0_makeGenerator σ1 177 i2 1).bind (fun (σ4 : Mem) => bq (f_X0_doCommute σ4 x0 177) (fun (b5 : Bool) (σ6 : Mem) => if b5 then some (Sum.inl (σ6, i2 + 1)) else some (Sum.inr (false, σ6))))))
noncomputable def f_X10_commutesWithAll (σ : Mem) (x0 : Nat) : Option (Bool × Mem) :=
  loopO (fun (z2 : (Mem × Int32)) => l_X10_commutesWithAll_2 x0 z2.1 z2.2) (σ, 0)
theorem t_X10_commutesWithAll {w : Wd} (hw : WOK w) {σ : Mem} {x0 : Nat} (hx0 : isk w x0 13) : JO w mu_X10_commutesWithAll vB σ [(0, .ref (adr w 0)), (1, .ref (adr w x0))] [] 0 (f_X10_commutesWithAll σ x0) some := by
  unfold f_X10_commutesWithAll
  refine jo_iconst (pc := 0) dX10_commutesWithAll_0 (ic_i_0) ?_
  refine jo_istore_n (pc := 1) (lv' := [(2, .int 0), (0, .ref (adr w 0)), (1, .ref (adr w x0))]) dX10_commutesWithAll_1 rfl (ltb rfl) rfl ?_
  refine jo_lv (lv' := [(0, .ref (adr w 0)), (1, .ref (adr w x0)), (2, .int 0)]) [1, 2, 0] rfl ?_
  refine jo_loop (X := (Bool × Mem)) (fun (z2 : (Mem × Int32)) => z2.1) (fun (z2 : (Mem × Int32)) => [(0, .ref (adr w 0)), (1, .ref (adr w x0)), (2, .int z2.2)]) (body := (fun (z2 : (Mem × Int32)) => l_X10_commutesWithAll_2 x0 z2.1 z2.2)) (fun F2_2 hF2_2 s => ?_) (σ, 0)
  obtain ⟨σ1, i2⟩ := s
  show JO w mu_X10_commutesWithAll vB σ1 [(0, .ref (adr w 0)), (1, .ref (adr w x0)), (2, .int i2)] [] 2 (l_X10_commutesWithAll_2 x0 σ1 i2) _
  unfold l_X10_commutesWithAll_2
  refine jo_iload_n (pc := 2) 2 rfl dX10_commutesWithAll_2 rfl ?_
  refine jo_aload_n (pc := 3) 0 rfl dX10_commutesWithAll_3 rfl ?_
  refine jo_getrE (pc := 4) ok_10_0 (ik_0 hw) rf_0_0 gw_631 dX10_commutesWithAll_4 ?_
  refine jo_getrE (pc := 7) ok_8_0 (ik_1 hw) rf_1_0 gw_218 dX10_commutesWithAll_7 ?_
  refine jo_getf (pc := 10) ok_6_0 (ik_2 hw) gw_198 dX10_commutesWithAll_10 (fun v3 => ?_)
  refine jo_icmp_ge (pc := 13) dX10_commutesWithAll_13 (tgt := 48) rfl ?_ ?_
  · refine jo_iconst (pc := 48) dX10_commutesWithAll_48 (ic_i_1) ?_
    exact jo_breturn (pc := 49) (b := true) rfl rfl dX10_commutesWithAll_49
  · refine jo_aload_n (pc := 16) 0 rfl dX10_commutesWithAll_16 rfl ?_
    refine jo_getrE (pc := 17) ok_10_16 (ik_0 hw) rf_0_16 gw_647 dX10_commutesWithAll_17 ?_
    refine jo_iload_n (pc := 20) 2 rfl dX10_commutesWithAll_20 rfl ?_
    refine jo_lconst (pc := 21) dX10_commutesWithAll_21 (ic_l_1) ?_
    refine jo_cS_V_i (pc := 22) (μ' := mu_X0_makeGenerator) (fx := f_X0_makeGenerator σ1 177 i2 1) (As := [.ref (adr w 177), .int i2, .long 1]) (c_X0_makeGenerator hw (ik_177 hw)) (ok_X0_makeGenerator) (ltb rfl) (all2 gw_1066 gw_1010) rfl rfl (Nat.le_of_ble_eq_true rfl) dX10_commutesWithAll_22 (fun σ4 => ?_)
    refine jo_aload_n (pc := 25) 0 rfl dX10_commutesWithAll_25 rfl ?_
    refine jo_getrE (pc := 26) ok_10_10 (ik_0 hw) rf_0_10 gw_641 dX10_commutesWithAll_26 ?_
    refine jo_aload_n (pc := 29) 1 rfl dX10_commutesWithAll_29 rfl ?_
    refine jo_aload_n (pc := 30) 0 rfl dX10_commutesWithAll_30 rfl ?_
    refine jo_getrE (pc := 31) ok_10_16 (ik_0 hw) rf_0_16 gw_647 dX10_commutesWithAll_31 ?_
    refine jo_cV_Z_i (pc := 34) (μ' := mu_X0_doCommute) (fx := f_X0_doCommute σ4 x0 177) (As := [.ref (adr w x0), .ref (adr w 177)]) (c_X0_doCommute hw (hx0) (ik_177 hw)) (ok_X0_doCommute) (ltb rfl) (all3 gw_1067 gw_1068 gw_1069) (ik_72 hw) (by decide) (q := (RX0, TX0, 8)) rfl rfl rfl rfl (Nat.le_of_ble_eq_true rfl) dX10_commutesWithAll_34 (fun b5 σ6 => ?_)
    refine jo_ifz_ne (pc := 37) dX10_commutesWithAll_37 (tgt := 42) rfl ?_ ?_
    · refine jo_iinc (pc := 42) (lv' := [(2, .int (i2 + 1)), (0, .ref (adr w 0)), (1, .ref (adr w x0))]) 2 rfl dX10_commutesWithAll_42 (congrArg (fun z => i2 + z) (ic_i_1)) (ltb rfl) rfl ?_
      refine jo_goto (pc := 45) dX10_commutesWithAll_45 (tgt := 2) rfl ?_
      refine jo_lv (lv' := [(0, .ref (adr w 0)), (1, .ref (adr w x0)), (2, .int (i2 + 1))]) [1, 2, 0] rfl ?_
      exact jo_leaf (by rfl) (hF2_2 (σ6, i2 + 1))
    · refine jo_iconst (pc := 40) dX10_commutesWithAll_40 (ic_i_0) ?_
      exact jo_breturn (pc := 41) (b := false) rfl rfl dX10_commutesWithAll_41
theorem c_X10_commutesWithAll {w : Wd} (hw : WOK w) {σ : Mem} {x0 : Nat} (hx0 : isk w x0 13) : ∀ r σ', f_X10_commutesWithAll σ x0 = some (r, σ') → MC w mu_X10_commutesWithAll (vB r) [.ref (adr w 0), .ref (adr w x0)] σ σ' := mc_of ok_X10_commutesWithAll rfl (Nat.le_of_ble_eq_true rfl) (t_X10_commutesWithAll hw hx0)
abbrev mu_X10_greatestRoot : MD := (yX10_greatestRoot, cX10_greatestRoot, 3, some .int, 3)
theorem ok_X10_greatestRoot : MOK mu_X10_greatestRoot 1 := ⟨gw_1115, gw_158, (by decide +kernel : plainFor yX10_greatestRoot = true), ⟨(by decide +kernel : yX10_greatestRoot.cls ≠ "java/lang/invoke/MethodHandle"), (by decide +kernel : yX10_greatestRoot.cls ≠ "java/lang/invoke/VarHandle"), (by decide +kernel : (parseMethodDescriptor yX10_greatestRoot.desc).map (fun d => d.parameters.length) = some 1)⟩, Nat.le_of_ble_eq_true rfl⟩
noncomputable def l_X10_greatestRoot_3 (x0 : Nat) (σ1 : Mem) (i2 : Int32) : Option ((Mem × Int32) ⊕ (Int32 × Mem)) :=
  if i2 ≤ 1 then (some (Sum.inr (1, σ1))) else (bq (f_X0_extract σ1 176 x0 (Int32.toInt64 i2)) (fun (b3 : Bool) (σ4 : Mem) => if b3 then some (Sum.inr (i2, σ4)) else some (Sum.inl (σ4, i2 + (-1)))))
noncomputable def f_X10_greatestRoot (σ : Mem) (x0 : Nat) : Option (Int32 × Mem) :=
  loopO (fun (z2 : (Mem × Int32)) => l_X10_greatestRoot_3 x0 z2.1 z2.2) (σ, 99)
theorem t_X10_greatestRoot {w : Wd} (hw : WOK w) {σ : Mem} {x0 : Nat} (hx0 : isk w x0 13) : JO w mu_X10_greatestRoot vI σ [(0, .ref (adr w 0)), (1, .ref (adr w x0))] [] 0 (f_X10_greatestRoot σ x0) some := by
  unfold f_X10_greatestRoot
  refine jo_bipush (pc := 0) dX10_greatestRoot_0 (ic_b_99) ?_
  refine jo_istore_n (pc := 2) (lv' := [(2, .int 99), (0, .ref (adr w 0)), (1, .ref (adr w x0))]) dX10_greatestRoot_2 rfl (ltb rfl) rfl ?_
  refine jo_lv (lv' := [(0, .ref (adr w 0)), (1, .ref (adr w x0)), (2, .int 99)]) [1, 2, 0] rfl ?_
  refine jo_loop (X := (Int32 × Mem)) (fun (z2 : (Mem × Int32)) => z2.1) (fun (z2 : (Mem × Int32)) => [(0, .ref (adr w 0)), (1, .ref (adr w x0)), (2, .int z2.2)]) (body := (fun (z2 : (Mem × Int32)) => l_X10_greatestRoot_3 x0 z2.1 z2.2)) (fun F3_2 hF3_2 s => ?_) (σ, 99)
  obtain ⟨σ1, i2⟩ := s
  show JO w mu_X10_greatestRoot vI σ1 [(0, .ref (adr w 0)), (1, .ref (adr w x0)), (2, .int i2)] [] 3 (l_X10_greatestRoot_3 x0 σ1 i2) _
  unfold l_X10_greatestRoot_3
  refine jo_iload_n (pc := 3) 2 rfl dX10_greatestRoot_3 rfl ?_
  refine jo_iconst (pc := 4) dX10_greatestRoot_4 (ic_i_1) ?_
  refine jo_icmp_le (pc := 5) dX10_greatestRoot_5 (tgt := 33) rfl ?_ ?_
  · refine jo_iconst (pc := 33) dX10_greatestRoot_33 (ic_i_1) ?_
    exact jo_ireturn (pc := 34) rfl rfl dX10_greatestRoot_34
  · refine jo_aload_n (pc := 8) 0 rfl dX10_greatestRoot_8 rfl ?_
    refine jo_getrE (pc := 9) ok_10_10 (ik_0 hw) rf_0_10 gw_641 dX10_greatestRoot_9 ?_
    refine jo_aload_n (pc := 12) 0 rfl dX10_greatestRoot_12 rfl ?_
    refine jo_getrE (pc := 13) ok_10_15 (ik_0 hw) rf_0_15 gw_646 dX10_greatestRoot_13 ?_
    refine jo_aload_n (pc := 16) 1 rfl dX10_greatestRoot_16 rfl ?_
    refine jo_iload_n (pc := 17) 2 rfl dX10_greatestRoot_17 rfl ?_
    refine jo_i2l (pc := 18) dX10_greatestRoot_18 ?_
    refine jo_cV_Z_i (pc := 19) (μ' := mu_X0_extract) (fx := f_X0_extract σ1 176 x0 (Int32.toInt64 i2)) (As := [.ref (adr w 176), .ref (adr w x0), .long (Int32.toInt64 i2)]) (c_X0_extract hw (ik_176 hw) (hx0)) (ok_X0_extract) (ltb rfl) (all3 gw_887 gw_888 gw_889) (ik_72 hw) (by decide) (q := (RX0, TX0, 8)) rfl rfl rfl rfl (Nat.le_of_ble_eq_true rfl) dX10_greatestRoot_19 (fun b3 σ4 => ?_)
    refine jo_ifz_eq (pc := 22) dX10_greatestRoot_22 (tgt := 27) rfl ?_ ?_
    · refine jo_iinc (pc := 27) (lv' := [(2, .int (i2 + (-1))), (0, .ref (adr w 0)), (1, .ref (adr w x0))]) 2 rfl dX10_greatestRoot_27 (congrArg (fun z => i2 + z) (ic_i_m1)) (ltb rfl) rfl ?_
      refine jo_goto (pc := 30) dX10_greatestRoot_30 (tgt := 3) rfl ?_
      refine jo_lv (lv' := [(0, .ref (adr w 0)), (1, .ref (adr w x0)), (2, .int (i2 + (-1)))]) [1, 2, 0] rfl ?_
      exact jo_leaf (by rfl) (hF3_2 (σ4, i2 + (-1)))
    · refine jo_iload_n (pc := 25) 2 rfl dX10_greatestRoot_25 rfl ?_
      exact jo_ireturn (pc := 26) rfl rfl dX10_greatestRoot_26
theorem c_X10_greatestRoot {w : Wd} (hw : WOK w) {σ : Mem} {x0 : Nat} (hx0 : isk w x0 13) : ∀ r σ', f_X10_greatestRoot σ x0 = some (r, σ') → MC w mu_X10_greatestRoot (vI r) [.ref (adr w 0), .ref (adr w x0)] σ σ' := mc_of ok_X10_greatestRoot rfl (Nat.le_of_ble_eq_true rfl) (t_X10_greatestRoot hw hx0)
abbrev mu_X10_sameAs : MD := (yX10_sameAs, cX10_sameAs, 4, some .int, 1)
theorem ok_X10_sameAs : MOK mu_X10_sameAs 1 := ⟨gw_1119, gw_158, (by decide +kernel : plainFor yX10_sameAs = true), ⟨(by decide +kernel : yX10_sameAs.cls ≠ "java/lang/invoke/MethodHandle"), (by decide +kernel : yX10_sameAs.cls ≠ "java/lang/invoke/VarHandle"), (by decide +kernel : (parseMethodDescriptor yX10_sameAs.desc).map (fun d => d.parameters.length) = some 1)⟩, Nat.le_of_ble_eq_true rfl⟩
noncomputable def j_X10_sameAs_32 (i2 : Int32) (i5 : Int32) : Option ((Int32 × Int32) ⊕ Int32) :=
  some (Sum.inl (i5, i2 + 1))
noncomputable def l_X10_sameAs_4 (σ : Mem) (x0 : Nat) (i1 : Int32) (i2 : Int32) : Option ((Int32 × Int32) ⊕ Int32) :=
  if 10 ≤ i2 then (some (Sum.inr i1)) else (gR 5 i2 (fun (p3 : Nat) => (f_X0_areSame σ x0 p3).bind (fun (b4 : Bool) => (if b4 then bd (i1 ||| (1 <<< (i2 &&& 31))) (fun (v6 : Int32) => some v6) else some i1 : Option Int32).bind (fun (z5 : Int32) => j_X10_sameAs_32 i2 z5))))
noncomputable def f_X10_sameAs (σ : Mem) (x0 : Nat) : Option Int32 :=
  loopO (fun (z2 : (Int32 × Int32)) => l_X10_sameAs_4 σ x0 z2.1 z2.2) (0, 0)
theorem t_X10_sameAs {w : Wd} (hw : WOK w) {σ : Mem} {x0 : Nat} (hx0 : isk w x0 13) : JO w mu_X10_sameAs vI σ [(0, .ref (adr w 0)), (1, .ref (adr w x0))] [] 0 (f_X10_sameAs σ x0) (fun z => some (z, σ)) := by
  unfold f_X10_sameAs
  refine jo_iconst (pc := 0) dX10_sameAs_0 (ic_i_0) ?_
  refine jo_istore_n (pc := 1) (lv' := [(2, .int 0), (0, .ref (adr w 0)), (1, .ref (adr w x0))]) dX10_sameAs_1 rfl (ltb rfl) rfl ?_
  refine jo_iconst (pc := 2) dX10_sameAs_2 (ic_i_0) ?_
  refine jo_istore_n (pc := 3) (lv' := [(3, .int 0), (2, .int 0), (0, .ref (adr w 0)), (1, .ref (adr w x0))]) dX10_sameAs_3 rfl (ltb rfl) rfl ?_
  refine jo_lv (lv' := [(0, .ref (adr w 0)), (1, .ref (adr w x0)), (2, .int 0), (3, .int 0)]) [2, 3, 1, 0] rfl ?_
  refine jo_loop (X := Int32) (fun (z2 : (Int32 × Int32)) => σ) (fun (z2 : (Int32 × Int32)) => [(0, .ref (adr w 0)), (1, .ref (adr w x0)), (2, .int z2.1), (3, .int z2.2)]) (body := (fun (z2 : (Int32 × Int32)) => l_X10_sameAs_4 σ x0 z2.1 z2.2)) (fun F4_2 hF4_2 s => ?_) (0, 0)
  obtain ⟨i1, i2⟩ := s
  show JO w mu_X10_sameAs vI σ [(0, .ref (adr w 0)), (1, .ref (adr w x0)), (2, .int i1), (3, .int i2)] [] 4 (l_X10_sameAs_4 σ x0 i1 i2) _
  unfold l_X10_sameAs_4
  refine jo_iload_n (pc := 4) 3 rfl dX10_sameAs_4 rfl ?_
  refine jo_bipush (pc := 5) dX10_sameAs_5 (ic_b_10) ?_
  refine jo_icmp_ge (pc := 7) dX10_sameAs_7 (tgt := 38) rfl ?_ ?_
  · refine jo_iload_n (pc := 38) 2 rfl dX10_sameAs_38 rfl ?_
    exact jo_ireturn (pc := 39) rfl rfl dX10_sameAs_39
  · refine jo_aload_n (pc := 10) 1 rfl dX10_sameAs_10 rfl ?_
    refine jo_aload_n (pc := 11) 0 rfl dX10_sameAs_11 rfl ?_
    refine jo_getrE (pc := 12) ok_10_0 (ik_0 hw) rf_0_0 gw_631 dX10_sameAs_12 ?_
    refine jo_getrE (pc := 15) ok_8_1 (ik_1 hw) rf_1_1 gw_221 dX10_sameAs_15 ?_
    refine jo_iload_n (pc := 18) 3 rfl dX10_sameAs_18 rfl ?_
    refine jo_aaldG (pc := 19) (z := 13) hw (ik_5 hw) (by decide) (t := 4) rfl rfl (by decide) dX10_sameAs_19 (fun p3 hp3 => ?_)
    refine jo_cS_Z_p (pc := 20) (μ' := mu_X0_areSame) (fx := f_X0_areSame σ x0 p3) (As := [.ref (adr w x0), .ref (adr w p3)]) (c_X0_areSame hw (hx0) (hp3)) (ok_X0_areSame) (ltb rfl) (all2 gw_1120 gw_1072) rfl rfl (Nat.le_of_ble_eq_true rfl) dX10_sameAs_20 (fun b4 => ?_)
    refine jo_join1 (S := Int32) (fun (z5 : Int32) => σ) (fun (z5 : Int32) => [(0, .ref (adr w 0)), (1, .ref (adr w x0)), (3, .int i2), (2, .int z5)]) (fun (z5 : Int32) => []) 32 ?_ (fun h32_5 => ?_)
    · intro i5
      show JO w mu_X10_sameAs vI σ [(0, .ref (adr w 0)), (1, .ref (adr w x0)), (3, .int i2), (2, .int i5)] [] 32 (j_X10_sameAs_32 i2 i5) _
      unfold j_X10_sameAs_32
      refine jo_iinc (pc := 32) (lv' := [(3, .int (i2 + 1)), (0, .ref (adr w 0)), (1, .ref (adr w x0)), (2, .int i5)]) 2 rfl dX10_sameAs_32 (congrArg (fun z => i2 + z) (ic_i_1)) (ltb rfl) rfl ?_
      refine jo_goto (pc := 35) dX10_sameAs_35 (tgt := 4) rfl ?_
      refine jo_lv (lv' := [(0, .ref (adr w 0)), (1, .ref (adr w x0)), (2, .int i5), (3, .int (i2 + 1))]) [1, 2, 3, 0] rfl ?_
      exact jo_leaf (by rfl) (hF4_2 (i5, i2 + 1))
    · refine jo_ifz_eq (pc := 23) dX10_sameAs_23 (tgt := 32) rfl ?_ ?_
      · refine jo_lv (lv' := [(0, .ref (adr w 0)), (1, .ref (adr w x0)), (3, .int i2), (2, .int i1)]) [0, 1, 3, 2] rfl ?_
        exact jo_leaf (by rfl) (h32_5 i1)
      · refine jo_iload_n (pc := 26) 2 rfl dX10_sameAs_26 rfl ?_
        refine jo_iconst (pc := 27) dX10_sameAs_27 (ic_i_1) ?_
        refine jo_iload_n (pc := 28) 3 rfl dX10_sameAs_28 rfl ?_
        refine jo_ishl (pc := 29) dX10_sameAs_29 ?_
        refine jo_ior (pc := 30) dX10_sameAs_30 ?_
        refine jo_bd ?_
        refine jo_istore_n (pc := 31) (lv' := [(2, .int (i1 ||| (1 <<< (i2 &&& 31)))), (0, .ref (adr w 0)), (1, .ref (adr w x0)), (3, .int i2)]) dX10_sameAs_31 rfl (ltb rfl) rfl ?_
        generalize (i1 ||| (1 <<< (i2 &&& 31))) = v6
        refine jo_lv (lv' := [(0, .ref (adr w 0)), (1, .ref (adr w x0)), (3, .int i2), (2, .int v6)]) [1, 2, 3, 0] rfl ?_
        exact jo_leaf (by rfl) (h32_5 v6)
theorem c_X10_sameAs {w : Wd} (hw : WOK w) {σ : Mem} {x0 : Nat} (hx0 : isk w x0 13) : ∀ r, f_X10_sameAs σ x0 = some r → MC w mu_X10_sameAs (vI r) [.ref (adr w 0), .ref (adr w x0)] σ σ := mc_ofP ok_X10_sameAs rfl (Nat.le_of_ble_eq_true rfl) (t_X10_sameAs hw hx0)
abbrev mu_X10_leastMade : MD := (yX10_leastMade, cX10_leastMade, 5, some .int, 4)
theorem ok_X10_leastMade : MOK mu_X10_leastMade 2 := ⟨gw_1124, gw_158, (by decide +kernel : plainFor yX10_leastMade = true), ⟨(by decide +kernel : yX10_leastMade.cls ≠ "java/lang/invoke/MethodHandle"), (by decide +kernel : yX10_leastMade.cls ≠ "java/lang/invoke/VarHandle"), (by decide +kernel : (parseMethodDescriptor yX10_leastMade.desc).map (fun d => d.parameters.length) = some 2)⟩, Nat.le_of_ble_eq_true rfl⟩
noncomputable def l_X10_leastMade_76 (x0 : Nat) (x1 : Int32) (σ3 : Mem) (i4 : Int32) : Option ((Mem × Int32) ⊕ (Int32 × Mem)) :=
  if x1 < i4 then (some (Sum.inr (0, σ3))) else ((f_X0_raise σ3 176 x0 (Int32.toInt64 i4)).bind (fun (σ5 : Mem) => bq (f_X3_reduce σ5 135 176) (fun (b6 : Bool) (σ7 : Mem) => if b6 then some (Sum.inr (i4, σ7)) else some (Sum.inl (σ7, i4 + 1)))))
noncomputable def j_X10_leastMade_74 (x0 : Nat) (x1 : Int32) (σ2 : Mem) : Option (Int32 × Mem) :=
  loopO (fun (z4 : (Mem × Int32)) => l_X10_leastMade_76 x0 x1 z4.1 z4.2) (σ2, 1)
noncomputable def j_X10_leastMade_68 (i9 : Int32) (σ11 : Mem) : Option ((Mem × Int32) ⊕ Mem) :=
  some (Sum.inl (σ11, i9 + 1))
noncomputable def l_X10_leastMade_28 (i9 : Int32) (σ12 : Mem) (i13 : Int32) : Option ((Mem × Int32) ⊕ Mem) :=
  if i9 ≤ i13 then (some (Sum.inr σ12)) else ((f_X6_copyTails σ12 2 i9 i13 176).bind (fun (σ14 : Mem) => (f_X3_insert σ14 135 176).bind (fun (σ15 : Mem) => some (Sum.inl (σ15, i13 + 1)))))
noncomputable def l_X10_leastMade_11 (σ8 : Mem) (i9 : Int32) : Option ((Mem × Int32) ⊕ Mem) :=
  gF σ8 2 0 (fun (v10 : Int32) => if v10 ≤ i9 then (some (Sum.inr σ8)) else ((loopO (fun (z13 : (Mem × Int32)) => l_X10_leastMade_28 i9 z13.1 z13.2) (σ8, 0) : Option Mem).bind (fun (z11 : Mem) => j_X10_leastMade_68 i9 z11)))
noncomputable def f_X10_leastMade (σ : Mem) (x0 : Nat) (x1 : Int32) : Option (Int32 × Mem) :=
  (f_X3_clear σ 135 6).bind (fun (σ1 : Mem) => (loopO (fun (z9 : (Mem × Int32)) => l_X10_leastMade_11 z9.1 z9.2) (σ1, 1) : Option Mem).bind (fun (z2 : Mem) => j_X10_leastMade_74 x0 x1 z2))
theorem t_X10_leastMade {w : Wd} (hw : WOK w) {σ : Mem} {x0 : Nat} {x1 : Int32} (hx0 : isk w x0 13) : JO w mu_X10_leastMade vI σ [(0, .ref (adr w 0)), (1, .ref (adr w x0)), (2, .int x1)] [] 0 (f_X10_leastMade σ x0 x1) some := by
  unfold f_X10_leastMade
  refine jo_aload_n (pc := 0) 0 rfl dX10_leastMade_0 rfl ?_
  refine jo_getrE (pc := 1) ok_10_13 (ik_0 hw) rf_0_13 gw_644 dX10_leastMade_1 ?_
  refine jo_bipush (pc := 4) dX10_leastMade_4 (ic_b_6) ?_
  refine jo_cV_V_i (pc := 6) (μ' := mu_X3_clear) (fx := f_X3_clear σ 135 6) (As := [.int 6]) (c_X3_clear hw (ik_135 hw)) (ok_X3_clear) (ltb rfl) (all3 gw_1125 gw_1126 gw_1127) (ik_135 hw) (by decide) (q := (RX3, TX3, 3)) rfl rfl rfl rfl (Nat.le_of_ble_eq_true rfl) dX10_leastMade_6 (fun σ1 => ?_)
  refine jo_iconst (pc := 9) dX10_leastMade_9 (ic_i_1) ?_
  refine jo_istore_n (pc := 10) (lv' := [(3, .int 1), (0, .ref (adr w 0)), (1, .ref (adr w x0)), (2, .int x1)]) dX10_leastMade_10 rfl (ltb rfl) rfl ?_
  refine jo_join1 (S := Mem) (fun (z2 : Mem) => z2) (fun (z2 : Mem) => [(0, .ref (adr w 0)), (1, .ref (adr w x0)), (2, .int x1)]) (fun (z2 : Mem) => []) 74 ?_ (fun h74_2 => ?_)
  · intro σ2
    show JO w mu_X10_leastMade vI σ2 [(0, .ref (adr w 0)), (1, .ref (adr w x0)), (2, .int x1)] [] 74 (j_X10_leastMade_74 x0 x1 σ2) _
    unfold j_X10_leastMade_74
    refine jo_iconst (pc := 74) dX10_leastMade_74 (ic_i_1) ?_
    refine jo_istore_n (pc := 75) (lv' := [(3, .int 1), (0, .ref (adr w 0)), (1, .ref (adr w x0)), (2, .int x1)]) dX10_leastMade_75 rfl (ltb rfl) rfl ?_
    refine jo_lv (lv' := [(0, .ref (adr w 0)), (1, .ref (adr w x0)), (2, .int x1), (3, .int 1)]) [1, 2, 3, 0] rfl ?_
    refine jo_loop (X := (Int32 × Mem)) (fun (z4 : (Mem × Int32)) => z4.1) (fun (z4 : (Mem × Int32)) => [(0, .ref (adr w 0)), (1, .ref (adr w x0)), (2, .int x1), (3, .int z4.2)]) (body := (fun (z4 : (Mem × Int32)) => l_X10_leastMade_76 x0 x1 z4.1 z4.2)) (fun F76_4 hF76_4 s => ?_) (σ2, 1)
    obtain ⟨σ3, i4⟩ := s
    show JO w mu_X10_leastMade vI σ3 [(0, .ref (adr w 0)), (1, .ref (adr w x0)), (2, .int x1), (3, .int i4)] [] 76 (l_X10_leastMade_76 x0 x1 σ3 i4) _
    unfold l_X10_leastMade_76
    refine jo_iload_n (pc := 76) 3 rfl dX10_leastMade_76 rfl ?_
    refine jo_iload_n (pc := 77) 2 rfl dX10_leastMade_77 rfl ?_
    refine jo_icmp_gt (pc := 78) dX10_leastMade_78 (tgt := 117) rfl ?_ ?_
    · refine jo_iconst (pc := 117) dX10_leastMade_117 (ic_i_0) ?_
      exact jo_ireturn (pc := 118) rfl rfl dX10_leastMade_118
    · refine jo_aload_n (pc := 81) 0 rfl dX10_leastMade_81 rfl ?_
      refine jo_getrE (pc := 82) ok_10_10 (ik_0 hw) rf_0_10 gw_641 dX10_leastMade_82 ?_
      refine jo_aload_n (pc := 85) 0 rfl dX10_leastMade_85 rfl ?_
      refine jo_getrE (pc := 86) ok_10_15 (ik_0 hw) rf_0_15 gw_646 dX10_leastMade_86 ?_
      refine jo_aload_n (pc := 89) 1 rfl dX10_leastMade_89 rfl ?_
      refine jo_iload_n (pc := 90) 3 rfl dX10_leastMade_90 rfl ?_
      refine jo_i2l (pc := 91) dX10_leastMade_91 ?_
      refine jo_cV_V_i (pc := 92) (μ' := mu_X0_raise) (fx := f_X0_raise σ3 176 x0 (Int32.toInt64 i4)) (As := [.ref (adr w 176), .ref (adr w x0), .long (Int32.toInt64 i4)]) (c_X0_raise hw (ik_176 hw) (hx0)) (ok_X0_raise) (ltb rfl) (all3 gw_845 gw_846 gw_847) (ik_72 hw) (by decide) (q := (RX0, TX0, 8)) rfl rfl rfl rfl (Nat.le_of_ble_eq_true rfl) dX10_leastMade_92 (fun σ5 => ?_)
      refine jo_aload_n (pc := 95) 0 rfl dX10_leastMade_95 rfl ?_
      refine jo_getrE (pc := 96) ok_10_13 (ik_0 hw) rf_0_13 gw_644 dX10_leastMade_96 ?_
      refine jo_aload_n (pc := 99) 0 rfl dX10_leastMade_99 rfl ?_
      refine jo_getrE (pc := 100) ok_10_15 (ik_0 hw) rf_0_15 gw_646 dX10_leastMade_100 ?_
      refine jo_cV_Z_i (pc := 103) (μ' := mu_X3_reduce) (fx := f_X3_reduce σ5 135 176) (As := [.ref (adr w 176)]) (c_X3_reduce hw (ik_135 hw) (ik_176 hw)) (ok_X3_reduce) (ltb rfl) (all3 gw_1168 gw_1169 gw_1170) (ik_135 hw) (by decide) (q := (RX3, TX3, 3)) rfl rfl rfl rfl (Nat.le_of_ble_eq_true rfl) dX10_leastMade_103 (fun b6 σ7 => ?_)
      refine jo_ifz_eq (pc := 106) dX10_leastMade_106 (tgt := 111) rfl ?_ ?_
      · refine jo_iinc (pc := 111) (lv' := [(3, .int (i4 + 1)), (0, .ref (adr w 0)), (1, .ref (adr w x0)), (2, .int x1)]) 3 rfl dX10_leastMade_111 (congrArg (fun z => i4 + z) (ic_i_1)) (ltb rfl) rfl ?_
        refine jo_goto (pc := 114) dX10_leastMade_114 (tgt := 76) rfl ?_
        refine jo_lv (lv' := [(0, .ref (adr w 0)), (1, .ref (adr w x0)), (2, .int x1), (3, .int (i4 + 1))]) [1, 2, 3, 0] rfl ?_
        exact jo_leaf (by rfl) (hF76_4 (σ7, i4 + 1))
      · refine jo_iload_n (pc := 109) 3 rfl dX10_leastMade_109 rfl ?_
        exact jo_ireturn (pc := 110) rfl rfl dX10_leastMade_110
  · refine jo_lv (lv' := [(0, .ref (adr w 0)), (1, .ref (adr w x0)), (2, .int x1), (3, .int 1)]) [1, 2, 3, 0] rfl ?_
    refine jo_loop (X := Mem) (fun (z9 : (Mem × Int32)) => z9.1) (fun (z9 : (Mem × Int32)) => [(0, .ref (adr w 0)), (1, .ref (adr w x0)), (2, .int x1), (3, .int z9.2)]) (body := (fun (z9 : (Mem × Int32)) => l_X10_leastMade_11 z9.1 z9.2)) (fun F11_9 hF11_9 s => ?_) (σ1, 1)
    obtain ⟨σ8, i9⟩ := s
    show JO w mu_X10_leastMade vI σ8 [(0, .ref (adr w 0)), (1, .ref (adr w x0)), (2, .int x1), (3, .int i9)] [] 11 (l_X10_leastMade_11 σ8 i9) _
    unfold l_X10_leastMade_11
    refine jo_iload_n (pc := 11) 3 rfl dX10_leastMade_11 rfl ?_
    refine jo_aload_n (pc := 12) 0 rfl dX10_leastMade_12 rfl ?_
    refine jo_getrE (pc := 13) ok_10_0 (ik_0 hw) rf_0_0 gw_631 dX10_leastMade_13 ?_
    refine jo_getrE (pc := 16) ok_8_0 (ik_1 hw) rf_1_0 gw_218 dX10_leastMade_16 ?_
    refine jo_getf (pc := 19) ok_6_0 (ik_2 hw) gw_198 dX10_leastMade_19 (fun v10 => ?_)
    refine jo_icmp_ge (pc := 22) dX10_leastMade_22 (tgt := 74) rfl ?_ ?_
    · refine jo_lv (lv' := [(0, .ref (adr w 0)), (1, .ref (adr w x0)), (2, .int x1)]) [0, 1, 2] rfl ?_
      exact jo_leaf (by rfl) (h74_2 σ8)
    · refine jo_iconst (pc := 25) dX10_leastMade_25 (ic_i_0) ?_
      refine jo_istore (pc := 26) (lv' := [(4, .int 0), (0, .ref (adr w 0)), (1, .ref (adr w x0)), (2, .int x1), (3, .int i9)]) dX10_leastMade_26 (ltb rfl) rfl ?_
      refine jo_join1 (S := Mem) (fun (z11 : Mem) => z11) (fun (z11 : Mem) => [(0, .ref (adr w 0)), (1, .ref (adr w x0)), (2, .int x1), (3, .int i9)]) (fun (z11 : Mem) => []) 68 ?_ (fun h68_11 => ?_)
      · intro σ11
        show JO w mu_X10_leastMade vI σ11 [(0, .ref (adr w 0)), (1, .ref (adr w x0)), (2, .int x1), (3, .int i9)] [] 68 (j_X10_leastMade_68 i9 σ11) _
        unfold j_X10_leastMade_68
        refine jo_iinc (pc := 68) (lv' := [(3, .int (i9 + 1)), (0, .ref (adr w 0)), (1, .ref (adr w x0)), (2, .int x1)]) 3 rfl dX10_leastMade_68 (congrArg (fun z => i9 + z) (ic_i_1)) (ltb rfl) rfl ?_
        refine jo_goto (pc := 71) dX10_leastMade_71 (tgt := 11) rfl ?_
        refine jo_lv (lv' := [(0, .ref (adr w 0)), (1, .ref (adr w x0)), (2, .int x1), (3, .int (i9 + 1))]) [1, 2, 3, 0] rfl ?_
        exact jo_leaf (by rfl) (hF11_9 (σ11, i9 + 1))
      · refine jo_lv (lv' := [(0, .ref (adr w 0)), (1, .ref (adr w x0)), (2, .int x1), (3, .int i9), (4, .int 0)]) [1, 2, 3, 4, 0] rfl ?_
        refine jo_loop (X := Mem) (fun (z13 : (Mem × Int32)) => z13.1) (fun (z13 : (Mem × Int32)) => [(0, .ref (adr w 0)), (1, .ref (adr w x0)), (2, .int x1), (3, .int i9), (4, .int z13.2)]) (body := (fun (z13 : (Mem × Int32)) => l_X10_leastMade_28 i9 z13.1 z13.2)) (fun F28_13 hF28_13 s => ?_) (σ8, 0)
        obtain ⟨σ12, i13⟩ := s
        show JO w mu_X10_leastMade vI σ12 [(0, .ref (adr w 0)), (1, .ref (adr w x0)), (2, .int x1), (3, .int i9), (4, .int i13)] [] 28 (l_X10_leastMade_28 i9 σ12 i13) _
        unfold l_X10_leastMade_28
        refine jo_iload (pc := 28) 4 rfl dX10_leastMade_28 ?_
        refine jo_iload_n (pc := 30) 3 rfl dX10_leastMade_30 rfl ?_
        refine jo_icmp_ge (pc := 31) dX10_leastMade_31 (tgt := 68) rfl ?_ ?_
        · refine jo_lv (lv' := [(0, .ref (adr w 0)), (1, .ref (adr w x0)), (2, .int x1), (3, .int i9)]) [0, 1, 2, 3] rfl ?_
          exact jo_leaf (by rfl) (h68_11 σ12)
        · refine jo_aload_n (pc := 34) 0 rfl dX10_leastMade_34 rfl ?_
          refine jo_getrE (pc := 35) ok_10_0 (ik_0 hw) rf_0_0 gw_631 dX10_leastMade_35 ?_
          refine jo_getrE (pc := 38) ok_8_0 (ik_1 hw) rf_1_0 gw_218 dX10_leastMade_38 ?_
          refine jo_iload_n (pc := 41) 3 rfl dX10_leastMade_41 rfl ?_
          refine jo_iload (pc := 42) 4 rfl dX10_leastMade_42 ?_
          refine jo_aload_n (pc := 44) 0 rfl dX10_leastMade_44 rfl ?_
          refine jo_getrE (pc := 45) ok_10_15 (ik_0 hw) rf_0_15 gw_646 dX10_leastMade_45 ?_
          refine jo_cV_V_i (pc := 48) (μ' := mu_X6_copyTails) (fx := f_X6_copyTails σ12 2 i9 i13 176) (As := [.int i9, .int i13, .ref (adr w 176)]) (c_X6_copyTails hw (ik_2 hw) (ik_176 hw)) (ok_X6_copyTails) (ltb rfl) (all3 gw_1132 gw_1133 gw_1134) (ik_2 hw) (by decide) (q := (RX6, TX6, 3)) rfl rfl rfl rfl (Nat.le_of_ble_eq_true rfl) dX10_leastMade_48 (fun σ14 => ?_)
          refine jo_aload_n (pc := 51) 0 rfl dX10_leastMade_51 rfl ?_
          refine jo_getrE (pc := 52) ok_10_13 (ik_0 hw) rf_0_13 gw_644 dX10_leastMade_52 ?_
          refine jo_aload_n (pc := 55) 0 rfl dX10_leastMade_55 rfl ?_
          refine jo_getrE (pc := 56) ok_10_15 (ik_0 hw) rf_0_15 gw_646 dX10_leastMade_56 ?_
          refine jo_cV_V_i (pc := 59) (μ' := mu_X3_insert) (fx := f_X3_insert σ14 135 176) (As := [.ref (adr w 176)]) (c_X3_insert hw (ik_135 hw) (ik_176 hw)) (ok_X3_insert) (ltb rfl) (all3 gw_1136 gw_1137 gw_1138) (ik_135 hw) (by decide) (q := (RX3, TX3, 3)) rfl rfl rfl rfl (Nat.le_of_ble_eq_true rfl) dX10_leastMade_59 (fun σ15 => ?_)
          refine jo_iinc (pc := 62) (lv' := [(4, .int (i13 + 1)), (0, .ref (adr w 0)), (1, .ref (adr w x0)), (2, .int x1), (3, .int i9)]) 4 rfl dX10_leastMade_62 (congrArg (fun z => i13 + z) (ic_i_1)) (ltb rfl) rfl ?_
          refine jo_goto (pc := 65) dX10_leastMade_65 (tgt := 28) rfl ?_
          refine jo_lv (lv' := [(0, .ref (adr w 0)), (1, .ref (adr w x0)), (2, .int x1), (3, .int i9), (4, .int (i13 + 1))]) [1, 2, 3, 4, 0] rfl ?_
          exact jo_leaf (by rfl) (hF28_13 (σ15, i13 + 1))
theorem c_X10_leastMade {w : Wd} (hw : WOK w) {σ : Mem} {x0 : Nat} {x1 : Int32} (hx0 : isk w x0 13) : ∀ r σ', f_X10_leastMade σ x0 x1 = some (r, σ') → MC w mu_X10_leastMade (vI r) [.ref (adr w 0), .ref (adr w x0), .int x1] σ σ' := mc_of ok_X10_leastMade rfl (Nat.le_of_ble_eq_true rfl) (t_X10_leastMade hw hx0)
abbrev mu_X10_register : MD := (yX10_register, cX10_register, 4, some .int, 7)
theorem ok_X10_register : MOK mu_X10_register 2 := ⟨gw_1056, gw_158, (by decide +kernel : plainFor yX10_register = true), ⟨(by decide +kernel : yX10_register.cls ≠ "java/lang/invoke/MethodHandle"), (by decide +kernel : yX10_register.cls ≠ "java/lang/invoke/VarHandle"), (by decide +kernel : (parseMethodDescriptor yX10_register.desc).map (fun d => d.parameters.length) = some 2)⟩, Nat.le_of_ble_eq_true rfl⟩
noncomputable def f_X10_register (σ : Mem) (x0 : Int32) (x1 : Int32) : Option (Int32 × Mem) :=
  (f_X10_isRegister σ x0).bind (fun (b1 : Bool) => if b1 then gZ σ 40 3 (fun (b2 : Bool) => if b2 then gR 5 x0 (fun (p3 : Nat) => if x1 = 0 then ((f_X10_layerOf σ p3).bind (fun (v5 : Int32) => some (v5, σ))) else if x1 = 1 then (bq (f_X10_commutesWithAll σ p3) (fun (b7 : Bool) (σ8 : Mem) => (f_X10_bit σ8 b7).bind (fun (v9 : Int32) => some (v9, σ8)))) else if x1 = 2 then ((f_X0_isOne σ p3).bind (fun (b11 : Bool) => (f_X10_bit σ b11).bind (fun (v12 : Int32) => some (v12, σ)))) else if x1 = 3 then (bq (f_X1_levelOf σ p3) (fun (v14 : Int32) (σ15 : Mem) => some (v14, σ15))) else if x1 = 4 then (bq (f_X10_greatestRoot σ p3) (fun (v17 : Int32) (σ18 : Mem) => some (v17, σ18))) else if x1 = 5 then ((f_X10_sameAs σ p3).bind (fun (v20 : Int32) => some (v20, σ))) else if x1 = 6 then (bq (f_X10_leastMade σ p3 1) (fun (v22 : Int32) (σ23 : Mem) => some (v22, σ23))) else if x1 = 7 then (bq (f_X10_leastMade σ p3 99) (fun (v25 : Int32) (σ26 : Mem) => some (v25, σ26))) else (some ((-1), σ))) else some ((-1), σ)) else some ((-1), σ))
theorem t_X10_register {w : Wd} (hw : WOK w) {σ : Mem} {x0 : Int32} {x1 : Int32} : JO w mu_X10_register vI σ [(0, .ref (adr w 0)), (1, .int x0), (2, .int x1)] [] 0 (f_X10_register σ x0 x1) some := by
  unfold f_X10_register
  refine jo_iload_n (pc := 0) 1 rfl dX10_register_0 rfl ?_
  refine jo_cS_Z_p (pc := 1) (μ' := mu_X10_isRegister) (fx := f_X10_isRegister σ x0) (As := [.int x0]) (c_X10_isRegister hw) (ok_X10_isRegister) (ltb rfl) (all2 gw_803 gw_804) rfl rfl (Nat.le_of_ble_eq_true rfl) dX10_register_1 (fun b1 => ?_)
  refine jo_ifz_eq (pc := 4) dX10_register_4 (tgt := 17) rfl ?_ ?_
  · refine jo_iconst (pc := 17) dX10_register_17 (ic_i_m1) ?_
    exact jo_ireturn (pc := 18) rfl rfl dX10_register_18
  · refine jo_aload_n (pc := 7) 0 rfl dX10_register_7 rfl ?_
    refine jo_getrE (pc := 8) ok_10_9 (ik_0 hw) rf_0_9 gw_640 dX10_register_8 ?_
    refine jo_getz (pc := 11) ok_4_3 (ik_40 hw) gw_308 dX10_register_11 (fun b2 => ?_)
    refine jo_ifz_ne (pc := 14) dX10_register_14 (tgt := 19) rfl ?_ ?_
    · refine jo_aload_n (pc := 19) 0 rfl dX10_register_19 rfl ?_
      refine jo_getrE (pc := 20) ok_10_0 (ik_0 hw) rf_0_0 gw_631 dX10_register_20 ?_
      refine jo_getrE (pc := 23) ok_8_1 (ik_1 hw) rf_1_1 gw_221 dX10_register_23 ?_
      refine jo_iload_n (pc := 26) 1 rfl dX10_register_26 rfl ?_
      refine jo_aaldG (pc := 27) (z := 13) hw (ik_5 hw) (by decide) (t := 4) rfl rfl (by decide) dX10_register_27 (fun p3 hp3 => ?_)
      refine jo_astore_n (pc := 28) (lv' := [(3, .ref (adr w p3)), (0, .ref (adr w 0)), (1, .int x0), (2, .int x1)]) dX10_register_28 rfl (ltb rfl) rfl ?_
      refine jo_iload_n (pc := 29) 3 rfl dX10_register_29 rfl ?_
      refine jo_case (v := 0) (fun h4 => ?_) (fun h4 => ?_)
      · refine jo_tswHit (pc := 30) dX10_register_30 h4 (by decide) (by decide) (off := 46) (by rfl) (tgt := 76) rfl ?_
        refine jo_aload_n (pc := 76) 1 rfl dX10_register_76 rfl ?_
        refine jo_aload_n (pc := 77) 0 rfl dX10_register_77 rfl ?_
        refine jo_cV_I_p (pc := 78) (μ' := mu_X10_layerOf) (fx := f_X10_layerOf σ p3) (As := [.ref (adr w p3)]) (c_X10_layerOf hw (hp3)) (ok_X10_layerOf) (ltb rfl) (all3 gw_1057 gw_1059 gw_36) (ik_0 hw) (by decide) (q := (RX10, TX10, 17)) rfl rfl rfl rfl (Nat.le_of_ble_eq_true rfl) dX10_register_78 (fun v5 => ?_)
        exact jo_ireturn (pc := 81) rfl rfl dX10_register_81
      refine jo_case (v := 1) (fun h6 => ?_) (fun h6 => ?_)
      · refine jo_tswHit (pc := 30) dX10_register_30 h6 (by decide) (by decide) (off := 52) (by rfl) (tgt := 82) rfl ?_
        refine jo_aload_n (pc := 82) 1 rfl dX10_register_82 rfl ?_
        refine jo_aload_n (pc := 83) 0 rfl dX10_register_83 rfl ?_
        refine jo_cV_Z_i (pc := 84) (μ' := mu_X10_commutesWithAll) (fx := f_X10_commutesWithAll σ p3) (As := [.ref (adr w p3)]) (c_X10_commutesWithAll hw (hp3)) (ok_X10_commutesWithAll) (ltb rfl) (all3 gw_1062 gw_1064 gw_37) (ik_0 hw) (by decide) (q := (RX10, TX10, 17)) rfl rfl rfl rfl (Nat.le_of_ble_eq_true rfl) dX10_register_84 (fun b7 σ8 => ?_)
        refine jo_cS_I_p (pc := 87) (μ' := mu_X10_bit) (fx := f_X10_bit σ8 b7) (As := [.int (b2i b7)]) (c_X10_bit hw) (ok_X10_bit) (ltb rfl) (all2 gw_736 gw_737) rfl rfl (Nat.le_of_ble_eq_true rfl) dX10_register_87 (fun v9 => ?_)
        exact jo_ireturn (pc := 90) rfl rfl dX10_register_90
      refine jo_case (v := 2) (fun h10 => ?_) (fun h10 => ?_)
      · refine jo_tswHit (pc := 30) dX10_register_30 h10 (by decide) (by decide) (off := 61) (by rfl) (tgt := 91) rfl ?_
        refine jo_aload_n (pc := 91) 0 rfl dX10_register_91 rfl ?_
        refine jo_cS_Z_p (pc := 92) (μ' := mu_X0_isOne) (fx := f_X0_isOne σ p3) (As := [.ref (adr w p3)]) (c_X0_isOne hw (hp3)) (ok_X0_isOne) (ltb rfl) (all2 gw_1074 gw_1075) rfl rfl (Nat.le_of_ble_eq_true rfl) dX10_register_92 (fun b11 => ?_)
        refine jo_cS_I_p (pc := 95) (μ' := mu_X10_bit) (fx := f_X10_bit σ b11) (As := [.int (b2i b11)]) (c_X10_bit hw) (ok_X10_bit) (ltb rfl) (all2 gw_736 gw_737) rfl rfl (Nat.le_of_ble_eq_true rfl) dX10_register_95 (fun v12 => ?_)
        exact jo_ireturn (pc := 98) rfl rfl dX10_register_98
      refine jo_case (v := 3) (fun h13 => ?_) (fun h13 => ?_)
      · refine jo_tswHit (pc := 30) dX10_register_30 h13 (by decide) (by decide) (off := 69) (by rfl) (tgt := 99) rfl ?_
        refine jo_aload_n (pc := 99) 1 rfl dX10_register_99 rfl ?_
        refine jo_getrE (pc := 100) ok_10_12 (ik_0 hw) rf_0_12 gw_643 dX10_register_100 ?_
        refine jo_aload_n (pc := 103) 0 rfl dX10_register_103 rfl ?_
        refine jo_cV_I_i (pc := 104) (μ' := mu_X1_levelOf) (fx := f_X1_levelOf σ p3) (As := [.ref (adr w p3)]) (c_X1_levelOf hw (hp3)) (ok_X1_levelOf) (ltb rfl) (all3 gw_1078 gw_1079 gw_1080) (ik_128 hw) (by decide) (q := (RX1, TX1, 10)) rfl rfl rfl rfl (Nat.le_of_ble_eq_true rfl) dX10_register_104 (fun v14 σ15 => ?_)
        exact jo_ireturn (pc := 107) rfl rfl dX10_register_107
      refine jo_case (v := 4) (fun h16 => ?_) (fun h16 => ?_)
      · refine jo_tswHit (pc := 30) dX10_register_30 h16 (by decide) (by decide) (off := 78) (by rfl) (tgt := 108) rfl ?_
        refine jo_aload_n (pc := 108) 1 rfl dX10_register_108 rfl ?_
        refine jo_aload_n (pc := 109) 0 rfl dX10_register_109 rfl ?_
        refine jo_cV_I_i (pc := 110) (μ' := mu_X10_greatestRoot) (fx := f_X10_greatestRoot σ p3) (As := [.ref (adr w p3)]) (c_X10_greatestRoot hw (hp3)) (ok_X10_greatestRoot) (ltb rfl) (all3 gw_1112 gw_1114 gw_44) (ik_0 hw) (by decide) (q := (RX10, TX10, 17)) rfl rfl rfl rfl (Nat.le_of_ble_eq_true rfl) dX10_register_110 (fun v17 σ18 => ?_)
        exact jo_ireturn (pc := 113) rfl rfl dX10_register_113
      refine jo_case (v := 5) (fun h19 => ?_) (fun h19 => ?_)
      · refine jo_tswHit (pc := 30) dX10_register_30 h19 (by decide) (by decide) (off := 84) (by rfl) (tgt := 114) rfl ?_
        refine jo_aload_n (pc := 114) 1 rfl dX10_register_114 rfl ?_
        refine jo_aload_n (pc := 115) 0 rfl dX10_register_115 rfl ?_
        refine jo_cV_I_p (pc := 116) (μ' := mu_X10_sameAs) (fx := f_X10_sameAs σ p3) (As := [.ref (adr w p3)]) (c_X10_sameAs hw (hp3)) (ok_X10_sameAs) (ltb rfl) (all3 gw_1116 gw_1118 gw_45) (ik_0 hw) (by decide) (q := (RX10, TX10, 17)) rfl rfl rfl rfl (Nat.le_of_ble_eq_true rfl) dX10_register_116 (fun v20 => ?_)
        exact jo_ireturn (pc := 119) rfl rfl dX10_register_119
      refine jo_case (v := 6) (fun h21 => ?_) (fun h21 => ?_)
      · refine jo_tswHit (pc := 30) dX10_register_30 h21 (by decide) (by decide) (off := 90) (by rfl) (tgt := 120) rfl ?_
        refine jo_aload_n (pc := 120) 1 rfl dX10_register_120 rfl ?_
        refine jo_aload_n (pc := 121) 0 rfl dX10_register_121 rfl ?_
        refine jo_iconst (pc := 122) dX10_register_122 (ic_i_1) ?_
        refine jo_cV_I_i (pc := 123) (μ' := mu_X10_leastMade) (fx := f_X10_leastMade σ p3 1) (As := [.ref (adr w p3), .int 1]) (c_X10_leastMade hw (hp3)) (ok_X10_leastMade) (ltb rfl) (all3 gw_1121 gw_1123 gw_46) (ik_0 hw) (by decide) (q := (RX10, TX10, 17)) rfl rfl rfl rfl (Nat.le_of_ble_eq_true rfl) dX10_register_123 (fun v22 σ23 => ?_)
        exact jo_ireturn (pc := 126) rfl rfl dX10_register_126
      refine jo_case (v := 7) (fun h24 => ?_) (fun h24 => ?_)
      · refine jo_tswHit (pc := 30) dX10_register_30 h24 (by decide) (by decide) (off := 97) (by rfl) (tgt := 127) rfl ?_
        refine jo_aload_n (pc := 127) 1 rfl dX10_register_127 rfl ?_
        refine jo_aload_n (pc := 128) 0 rfl dX10_register_128 rfl ?_
        refine jo_bipush (pc := 129) dX10_register_129 (ic_b_99) ?_
        refine jo_cV_I_i (pc := 131) (μ' := mu_X10_leastMade) (fx := f_X10_leastMade σ p3 99) (As := [.ref (adr w p3), .int 99]) (c_X10_leastMade hw (hp3)) (ok_X10_leastMade) (ltb rfl) (all3 gw_1121 gw_1123 gw_46) (ik_0 hw) (by decide) (q := (RX10, TX10, 17)) rfl rfl rfl rfl (Nat.le_of_ble_eq_true rfl) dX10_register_131 (fun v25 σ26 => ?_)
        exact jo_ireturn (pc := 134) rfl rfl dX10_register_134
      have qh4 : (x1).toInt ≠ 0 := fun e => h4 (Int32.toInt_inj.mp (e.trans (by decide)))
      have qh6 : (x1).toInt ≠ 1 := fun e => h6 (Int32.toInt_inj.mp (e.trans (by decide)))
      have qh10 : (x1).toInt ≠ 2 := fun e => h10 (Int32.toInt_inj.mp (e.trans (by decide)))
      have qh13 : (x1).toInt ≠ 3 := fun e => h13 (Int32.toInt_inj.mp (e.trans (by decide)))
      have qh16 : (x1).toInt ≠ 4 := fun e => h16 (Int32.toInt_inj.mp (e.trans (by decide)))
      have qh19 : (x1).toInt ≠ 5 := fun e => h19 (Int32.toInt_inj.mp (e.trans (by decide)))
      have qh21 : (x1).toInt ≠ 6 := fun e => h21 (Int32.toInt_inj.mp (e.trans (by decide)))
      have qh24 : (x1).toInt ≠ 7 := fun e => h24 (Int32.toInt_inj.mp (e.trans (by decide)))
      refine jo_tableOut (pc := 30) dX10_register_30 (by omega) (tgt := 135) rfl ?_
      refine jo_iconst (pc := 135) dX10_register_135 (ic_i_m1) ?_
      exact jo_ireturn (pc := 136) rfl rfl dX10_register_136
    · refine jo_iconst (pc := 17) dX10_register_17 (ic_i_m1) ?_
      exact jo_ireturn (pc := 18) rfl rfl dX10_register_18
theorem c_X10_register {w : Wd} (hw : WOK w) {σ : Mem} {x0 : Int32} {x1 : Int32} : ∀ r σ', f_X10_register σ x0 x1 = some (r, σ') → MC w mu_X10_register (vI r) [.ref (adr w 0), .int x0, .int x1] σ σ' := mc_of ok_X10_register rfl (Nat.le_of_ble_eq_true rfl) (t_X10_register hw)
abbrev mu_X10_firstDifference : MD := (yX10_firstDifference, cX10_firstDifference, 4, some .int, 0)
theorem ok_X10_firstDifference : MOK mu_X10_firstDifference 2 := ⟨gw_1179, gw_158, (by decide +kernel : plainFor yX10_firstDifference = true), ⟨(by decide +kernel : yX10_firstDifference.cls ≠ "java/lang/invoke/MethodHandle"), (by decide +kernel : yX10_firstDifference.cls ≠ "java/lang/invoke/VarHandle"), (by decide +kernel : (parseMethodDescriptor yX10_firstDifference.desc).map (fun d => d.parameters.length) = some 2)⟩, Nat.le_of_ble_eq_true rfl⟩
noncomputable def j_X10_firstDifference_26 (i1 : Int32) : Option Int32 :=
  some (i1 + 1)
noncomputable def l_X10_firstDifference_2 (σ : Mem) (x0 : Nat) (x1 : Nat) (i2 : Int32) : Option (Int32 ⊕ (Int32 ⊕ Int32)) :=
  gF σ 2 0 (fun (v3 : Int32) => if v3 ≤ i2 then (some (Sum.inr (Sum.inr 0))) else (gL σ x0 i2 (fun (v4 : Int64) => gL σ x1 i2 (fun (v5 : Int64) => if v4 = v5 then (some (Sum.inl (i2 + 1))) else (some (Sum.inr (Sum.inl i2)))))))
noncomputable def f_X10_firstDifference (σ : Mem) (x0 : Nat) (x1 : Nat) : Option Int32 :=
  (loopO (fun (z2 : Int32) => l_X10_firstDifference_2 σ x0 x1 z2) 0 : Option (Int32 ⊕ Int32)).bind (Sum.elim (fun (z1 : Int32) => j_X10_firstDifference_26 z1) some)
theorem t_X10_firstDifference {w : Wd} (hw : WOK w) {σ : Mem} {x0 : Nat} {x1 : Nat} (hx0 : isk w x0 13) (hx1 : isk w x1 13) : JO w mu_X10_firstDifference vI σ [(0, .ref (adr w 0)), (1, .ref (adr w x0)), (2, .ref (adr w x1))] [] 0 (f_X10_firstDifference σ x0 x1) (fun z => some (z, σ)) := by
  unfold f_X10_firstDifference
  refine jo_iconst (pc := 0) dX10_firstDifference_0 (ic_i_0) ?_
  refine jo_istore_n (pc := 1) (lv' := [(3, .int 0), (0, .ref (adr w 0)), (1, .ref (adr w x0)), (2, .ref (adr w x1))]) dX10_firstDifference_1 rfl (ltb rfl) rfl ?_
  refine jo_joinS (S := Int32) (fun (z1 : Int32) => σ) (fun (z1 : Int32) => [(3, .int z1)]) (fun (z1 : Int32) => []) 26 ?_ (fun h26_1 => ?_)
  · intro i1
    show JO w mu_X10_firstDifference vI σ [(3, .int i1)] [] 26 (j_X10_firstDifference_26 i1) _
    unfold j_X10_firstDifference_26
    refine jo_iload_n (pc := 26) 0 rfl dX10_firstDifference_26 rfl ?_
    refine jo_iconst (pc := 27) dX10_firstDifference_27 (ic_i_1) ?_
    refine jo_iadd (pc := 28) dX10_firstDifference_28 ?_
    exact jo_ireturn (pc := 29) rfl rfl dX10_firstDifference_29
  · refine jo_lv (lv' := [(0, .ref (adr w 0)), (1, .ref (adr w x0)), (2, .ref (adr w x1)), (3, .int 0)]) [1, 2, 3, 0] rfl ?_
    refine jo_loop (X := Int32 ⊕ Int32) (fun (z2 : Int32) => σ) (fun (z2 : Int32) => [(0, .ref (adr w 0)), (1, .ref (adr w x0)), (2, .ref (adr w x1)), (3, .int z2)]) (body := (fun (z2 : Int32) => l_X10_firstDifference_2 σ x0 x1 z2)) (fun F2_2 hF2_2 s => ?_) 0
    revert s; intro i2
    show JO w mu_X10_firstDifference vI σ [(0, .ref (adr w 0)), (1, .ref (adr w x0)), (2, .ref (adr w x1)), (3, .int i2)] [] 2 (l_X10_firstDifference_2 σ x0 x1 i2) _
    unfold l_X10_firstDifference_2
    refine jo_iload_n (pc := 2) 3 rfl dX10_firstDifference_2 rfl ?_
    refine jo_aload_n (pc := 3) 0 rfl dX10_firstDifference_3 rfl ?_
    refine jo_getrE (pc := 4) ok_10_0 (ik_0 hw) rf_0_0 gw_631 dX10_firstDifference_4 ?_
    refine jo_getrE (pc := 7) ok_8_0 (ik_1 hw) rf_1_0 gw_218 dX10_firstDifference_7 ?_
    refine jo_getf (pc := 10) ok_6_0 (ik_2 hw) gw_198 dX10_firstDifference_10 (fun v3 => ?_)
    refine jo_icmp_ge (pc := 13) dX10_firstDifference_13 (tgt := 36) rfl ?_ ?_
    · refine jo_iconst (pc := 36) dX10_firstDifference_36 (ic_i_0) ?_
      exact jo_ireturn (pc := 37) rfl rfl dX10_firstDifference_37
    · refine jo_aload_n (pc := 16) 1 rfl dX10_firstDifference_16 rfl ?_
      refine jo_iload_n (pc := 17) 3 rfl dX10_firstDifference_17 rfl ?_
      refine jo_lald (pc := 18) (hx0) dX10_firstDifference_18 (fun v4 => ?_)
      refine jo_aload_n (pc := 19) 2 rfl dX10_firstDifference_19 rfl ?_
      refine jo_iload_n (pc := 20) 3 rfl dX10_firstDifference_20 rfl ?_
      refine jo_lald (pc := 21) (hx1) dX10_firstDifference_21 (fun v5 => ?_)
      refine jo_lcmp_eq (pc := 22) dX10_firstDifference_22 dX10_firstDifference_23 (tgt := 30) rfl ?_ ?_
      · refine jo_iinc (pc := 30) (lv' := [(3, .int (i2 + 1)), (0, .ref (adr w 0)), (1, .ref (adr w x0)), (2, .ref (adr w x1))]) 3 rfl dX10_firstDifference_30 (congrArg (fun z => i2 + z) (ic_i_1)) (ltb rfl) rfl ?_
        refine jo_goto (pc := 33) dX10_firstDifference_33 (tgt := 2) rfl ?_
        refine jo_lv (lv' := [(0, .ref (adr w 0)), (1, .ref (adr w x0)), (2, .ref (adr w x1)), (3, .int (i2 + 1))]) [1, 2, 3, 0] rfl ?_
        exact jo_leaf (by rfl) (hF2_2 (i2 + 1))
      · refine jo_lv (lv' := [(3, .int i2)]) [3] rfl ?_
        exact jo_leaf (by rfl) (h26_1 i2)
theorem c_X10_firstDifference {w : Wd} (hw : WOK w) {σ : Mem} {x0 : Nat} {x1 : Nat} (hx0 : isk w x0 13) (hx1 : isk w x1 13) : ∀ r, f_X10_firstDifference σ x0 x1 = some r → MC w mu_X10_firstDifference (vI r) [.ref (adr w 0), .ref (adr w x0), .ref (adr w x1)] σ σ := mc_ofP ok_X10_firstDifference rfl (Nat.le_of_ble_eq_true rfl) (t_X10_firstDifference hw hx0 hx1)
abbrev mu_X10_both : MD := (yX10_both, cX10_both, 6, some .int, 3)
theorem ok_X10_both : MOK mu_X10_both 3 := ⟨gw_1175, gw_158, (by decide +kernel : plainFor yX10_both = true), ⟨(by decide +kernel : yX10_both.cls ≠ "java/lang/invoke/MethodHandle"), (by decide +kernel : yX10_both.cls ≠ "java/lang/invoke/VarHandle"), (by decide +kernel : (parseMethodDescriptor yX10_both.desc).map (fun d => d.parameters.length) = some 3)⟩, Nat.le_of_ble_eq_true rfl⟩
noncomputable def f_X10_both (σ : Mem) (x0 : Int32) (x1 : Int32) (x2 : Int32) : Option (Int32 × Mem) :=
  (f_X10_areUsable σ x0 x1).bind (fun (b1 : Bool) => if b1 then gR 5 x0 (fun (p2 : Nat) => gR 5 x1 (fun (p3 : Nat) => if x2 = 0 then (bq (f_X0_doCommute σ p2 p3) (fun (b5 : Bool) (σ6 : Mem) => (f_X10_bit σ6 b5).bind (fun (v7 : Int32) => some (v7, σ6)))) else if x2 = 1 then ((f_X0_commutator σ 176 p2 p3).bind (fun (σ9 : Mem) => (f_X10_layerOf σ9 176).bind (fun (v10 : Int32) => some (v10, σ9)))) else if x2 = 2 then ((f_X10_firstDifference σ p2 p3).bind (fun (v12 : Int32) => some (v12, σ))) else (some ((-1), σ)))) else some ((-1), σ))
theorem t_X10_both {w : Wd} (hw : WOK w) {σ : Mem} {x0 : Int32} {x1 : Int32} {x2 : Int32} : JO w mu_X10_both vI σ [(0, .ref (adr w 0)), (1, .int x0), (2, .int x1), (3, .int x2)] [] 0 (f_X10_both σ x0 x1 x2) some := by
  unfold f_X10_both
  refine jo_aload_n (pc := 0) 0 rfl dX10_both_0 rfl ?_
  refine jo_iload_n (pc := 1) 1 rfl dX10_both_1 rfl ?_
  refine jo_iload_n (pc := 2) 2 rfl dX10_both_2 rfl ?_
  refine jo_cV_Z_p (pc := 3) (μ' := mu_X10_areUsable) (fx := f_X10_areUsable σ x0 x1) (As := [.int x0, .int x1]) (c_X10_areUsable hw) (ok_X10_areUsable) (ltb rfl) (all3 gw_810 gw_812 gw_13) (ik_0 hw) (by decide) (q := (RX10, TX10, 17)) rfl rfl rfl rfl (Nat.le_of_ble_eq_true rfl) dX10_both_3 (fun b1 => ?_)
  refine jo_ifz_ne (pc := 6) dX10_both_6 (tgt := 11) rfl ?_ ?_
  · refine jo_aload_n (pc := 11) 0 rfl dX10_both_11 rfl ?_
    refine jo_getrE (pc := 12) ok_10_0 (ik_0 hw) rf_0_0 gw_631 dX10_both_12 ?_
    refine jo_getrE (pc := 15) ok_8_1 (ik_1 hw) rf_1_1 gw_221 dX10_both_15 ?_
    refine jo_iload_n (pc := 18) 1 rfl dX10_both_18 rfl ?_
    refine jo_aaldG (pc := 19) (z := 13) hw (ik_5 hw) (by decide) (t := 4) rfl rfl (by decide) dX10_both_19 (fun p2 hp2 => ?_)
    refine jo_astore (pc := 20) (lv' := [(4, .ref (adr w p2)), (0, .ref (adr w 0)), (1, .int x0), (2, .int x1), (3, .int x2)]) dX10_both_20 (ltb rfl) rfl ?_
    refine jo_aload_n (pc := 22) 1 rfl dX10_both_22 rfl ?_
    refine jo_getrE (pc := 23) ok_10_0 (ik_0 hw) rf_0_0 gw_631 dX10_both_23 ?_
    refine jo_getrE (pc := 26) ok_8_1 (ik_1 hw) rf_1_1 gw_221 dX10_both_26 ?_
    refine jo_iload_n (pc := 29) 3 rfl dX10_both_29 rfl ?_
    refine jo_aaldG (pc := 30) (z := 13) hw (ik_5 hw) (by decide) (t := 4) rfl rfl (by decide) dX10_both_30 (fun p3 hp3 => ?_)
    refine jo_astore (pc := 31) (lv' := [(5, .ref (adr w p3)), (4, .ref (adr w p2)), (0, .ref (adr w 0)), (1, .int x0), (2, .int x1), (3, .int x2)]) dX10_both_31 (ltb rfl) rfl ?_
    refine jo_iload_n (pc := 33) 5 rfl dX10_both_33 rfl ?_
    refine jo_case (v := 0) (fun h4 => ?_) (fun h4 => ?_)
    · refine jo_tswHit (pc := 34) dX10_both_34 h4 (by decide) (by decide) (off := 26) (by rfl) (tgt := 60) rfl ?_
      refine jo_aload_n (pc := 60) 2 rfl dX10_both_60 rfl ?_
      refine jo_getrE (pc := 61) ok_10_10 (ik_0 hw) rf_0_10 gw_641 dX10_both_61 ?_
      refine jo_aload (pc := 64) 1 rfl dX10_both_64 ?_
      refine jo_aload (pc := 66) 0 rfl dX10_both_66 ?_
      refine jo_cV_Z_i (pc := 68) (μ' := mu_X0_doCommute) (fx := f_X0_doCommute σ p2 p3) (As := [.ref (adr w p2), .ref (adr w p3)]) (c_X0_doCommute hw (hp2) (hp3)) (ok_X0_doCommute) (ltb rfl) (all3 gw_1067 gw_1068 gw_1069) (ik_72 hw) (by decide) (q := (RX0, TX0, 8)) rfl rfl rfl rfl (Nat.le_of_ble_eq_true rfl) dX10_both_68 (fun b5 σ6 => ?_)
      refine jo_cS_I_p (pc := 71) (μ' := mu_X10_bit) (fx := f_X10_bit σ6 b5) (As := [.int (b2i b5)]) (c_X10_bit hw) (ok_X10_bit) (ltb rfl) (all2 gw_736 gw_737) rfl rfl (Nat.le_of_ble_eq_true rfl) dX10_both_71 (fun v7 => ?_)
      exact jo_ireturn (pc := 74) rfl rfl dX10_both_74
    refine jo_case (v := 1) (fun h8 => ?_) (fun h8 => ?_)
    · refine jo_tswHit (pc := 34) dX10_both_34 h8 (by decide) (by decide) (off := 41) (by rfl) (tgt := 75) rfl ?_
      refine jo_aload_n (pc := 75) 2 rfl dX10_both_75 rfl ?_
      refine jo_getrE (pc := 76) ok_10_10 (ik_0 hw) rf_0_10 gw_641 dX10_both_76 ?_
      refine jo_aload_n (pc := 79) 2 rfl dX10_both_79 rfl ?_
      refine jo_getrE (pc := 80) ok_10_15 (ik_0 hw) rf_0_15 gw_646 dX10_both_80 ?_
      refine jo_aload (pc := 83) 1 rfl dX10_both_83 ?_
      refine jo_aload (pc := 85) 0 rfl dX10_both_85 ?_
      refine jo_cV_V_i (pc := 87) (μ' := mu_X0_commutator) (fx := f_X0_commutator σ 176 p2 p3) (As := [.ref (adr w 176), .ref (adr w p2), .ref (adr w p3)]) (c_X0_commutator hw (ik_176 hw) (hp2) (hp3)) (ok_X0_commutator) (ltb rfl) (all3 gw_870 gw_871 gw_872) (ik_72 hw) (by decide) (q := (RX0, TX0, 8)) rfl rfl rfl rfl (Nat.le_of_ble_eq_true rfl) dX10_both_87 (fun σ9 => ?_)
      refine jo_aload_n (pc := 90) 2 rfl dX10_both_90 rfl ?_
      refine jo_aload_n (pc := 91) 2 rfl dX10_both_91 rfl ?_
      refine jo_getrE (pc := 92) ok_10_15 (ik_0 hw) rf_0_15 gw_646 dX10_both_92 ?_
      refine jo_cV_I_p (pc := 95) (μ' := mu_X10_layerOf) (fx := f_X10_layerOf σ9 176) (As := [.ref (adr w 176)]) (c_X10_layerOf hw (ik_176 hw)) (ok_X10_layerOf) (ltb rfl) (all3 gw_1057 gw_1059 gw_36) (ik_0 hw) (by decide) (q := (RX10, TX10, 17)) rfl rfl rfl rfl (Nat.le_of_ble_eq_true rfl) dX10_both_95 (fun v10 => ?_)
      exact jo_ireturn (pc := 98) rfl rfl dX10_both_98
    refine jo_case (v := 2) (fun h11 => ?_) (fun h11 => ?_)
    · refine jo_tswHit (pc := 34) dX10_both_34 h11 (by decide) (by decide) (off := 65) (by rfl) (tgt := 99) rfl ?_
      refine jo_aload_n (pc := 99) 2 rfl dX10_both_99 rfl ?_
      refine jo_aload (pc := 100) 1 rfl dX10_both_100 ?_
      refine jo_aload (pc := 102) 0 rfl dX10_both_102 ?_
      refine jo_cV_I_p (pc := 104) (μ' := mu_X10_firstDifference) (fx := f_X10_firstDifference σ p2 p3) (As := [.ref (adr w p2), .ref (adr w p3)]) (c_X10_firstDifference hw (hp2) (hp3)) (ok_X10_firstDifference) (ltb rfl) (all3 gw_1176 gw_1178 gw_53) (ik_0 hw) (by decide) (q := (RX10, TX10, 17)) rfl rfl rfl rfl (Nat.le_of_ble_eq_true rfl) dX10_both_104 (fun v12 => ?_)
      exact jo_ireturn (pc := 107) rfl rfl dX10_both_107
    have qh4 : (x2).toInt ≠ 0 := fun e => h4 (Int32.toInt_inj.mp (e.trans (by decide)))
    have qh8 : (x2).toInt ≠ 1 := fun e => h8 (Int32.toInt_inj.mp (e.trans (by decide)))
    have qh11 : (x2).toInt ≠ 2 := fun e => h11 (Int32.toInt_inj.mp (e.trans (by decide)))
    refine jo_tableOut (pc := 34) dX10_both_34 (by omega) (tgt := 108) rfl ?_
    refine jo_iconst (pc := 108) dX10_both_108 (ic_i_m1) ?_
    exact jo_ireturn (pc := 109) rfl rfl dX10_both_109
  · refine jo_iconst (pc := 9) dX10_both_9 (ic_i_m1) ?_
    exact jo_ireturn (pc := 10) rfl rfl dX10_both_10
theorem c_X10_both {w : Wd} (hw : WOK w) {σ : Mem} {x0 : Int32} {x1 : Int32} {x2 : Int32} : ∀ r σ', f_X10_both σ x0 x1 x2 = some (r, σ') → MC w mu_X10_both (vI r) [.ref (adr w 0), .int x0, .int x1, .int x2] σ σ' := mc_of ok_X10_both rfl (Nat.le_of_ble_eq_true rfl) (t_X10_both hw)
abbrev mu_X10_alike : MD := (yX10_alike, cX10_alike, 5, some .int, 7)
theorem ok_X10_alike : MOK mu_X10_alike 2 := ⟨gw_1183, gw_158, (by decide +kernel : plainFor yX10_alike = true), ⟨(by decide +kernel : yX10_alike.cls ≠ "java/lang/invoke/MethodHandle"), (by decide +kernel : yX10_alike.cls ≠ "java/lang/invoke/VarHandle"), (by decide +kernel : (parseMethodDescriptor yX10_alike.desc).map (fun d => d.parameters.length) = some 2)⟩, Nat.le_of_ble_eq_true rfl⟩
noncomputable def f_X10_alike (σ : Mem) (x0 : Int32) (x1 : Int32) : Option (Int32 × Mem) :=
  (f_X10_areUsable σ x0 x1).bind (fun (b1 : Bool) => if b1 then gR 5 x0 (fun (p2 : Nat) => gR 5 x1 (fun (p3 : Nat) => (f_X0_isWithin σ p2 30).bind (fun (b4 : Bool) => if b4 then (f_X0_isWithin σ p3 30).bind (fun (b5 : Bool) => if b5 then bq (f_X7_areConjugates σ p2 p3) (fun (b6 : Bool) (σ7 : Mem) => (f_X10_bit σ7 b6).bind (fun (v8 : Int32) => some (v8, σ7))) else some ((-2), σ)) else some ((-2), σ)))) else some ((-1), σ))
theorem t_X10_alike {w : Wd} (hw : WOK w) {σ : Mem} {x0 : Int32} {x1 : Int32} : JO w mu_X10_alike vI σ [(0, .ref (adr w 0)), (1, .int x0), (2, .int x1)] [] 0 (f_X10_alike σ x0 x1) some := by
  unfold f_X10_alike
  refine jo_aload_n (pc := 0) 0 rfl dX10_alike_0 rfl ?_
  refine jo_iload_n (pc := 1) 1 rfl dX10_alike_1 rfl ?_
  refine jo_iload_n (pc := 2) 2 rfl dX10_alike_2 rfl ?_
  refine jo_cV_Z_p (pc := 3) (μ' := mu_X10_areUsable) (fx := f_X10_areUsable σ x0 x1) (As := [.int x0, .int x1]) (c_X10_areUsable hw) (ok_X10_areUsable) (ltb rfl) (all3 gw_810 gw_812 gw_13) (ik_0 hw) (by decide) (q := (RX10, TX10, 17)) rfl rfl rfl rfl (Nat.le_of_ble_eq_true rfl) dX10_alike_3 (fun b1 => ?_)
  refine jo_ifz_ne (pc := 6) dX10_alike_6 (tgt := 11) rfl ?_ ?_
  · refine jo_aload_n (pc := 11) 0 rfl dX10_alike_11 rfl ?_
    refine jo_getrE (pc := 12) ok_10_0 (ik_0 hw) rf_0_0 gw_631 dX10_alike_12 ?_
    refine jo_getrE (pc := 15) ok_8_1 (ik_1 hw) rf_1_1 gw_221 dX10_alike_15 ?_
    refine jo_iload_n (pc := 18) 1 rfl dX10_alike_18 rfl ?_
    refine jo_aaldG (pc := 19) (z := 13) hw (ik_5 hw) (by decide) (t := 4) rfl rfl (by decide) dX10_alike_19 (fun p2 hp2 => ?_)
    refine jo_astore_n (pc := 20) (lv' := [(3, .ref (adr w p2)), (0, .ref (adr w 0)), (1, .int x0), (2, .int x1)]) dX10_alike_20 rfl (ltb rfl) rfl ?_
    refine jo_aload_n (pc := 21) 1 rfl dX10_alike_21 rfl ?_
    refine jo_getrE (pc := 22) ok_10_0 (ik_0 hw) rf_0_0 gw_631 dX10_alike_22 ?_
    refine jo_getrE (pc := 25) ok_8_1 (ik_1 hw) rf_1_1 gw_221 dX10_alike_25 ?_
    refine jo_iload_n (pc := 28) 3 rfl dX10_alike_28 rfl ?_
    refine jo_aaldG (pc := 29) (z := 13) hw (ik_5 hw) (by decide) (t := 4) rfl rfl (by decide) dX10_alike_29 (fun p3 hp3 => ?_)
    refine jo_astore (pc := 30) (lv' := [(4, .ref (adr w p3)), (3, .ref (adr w p2)), (0, .ref (adr w 0)), (1, .int x0), (2, .int x1)]) dX10_alike_30 (ltb rfl) rfl ?_
    refine jo_aload_n (pc := 32) 1 rfl dX10_alike_32 rfl ?_
    refine jo_ldc2 (pc := 33) dX10_alike_33 gw_1184 ?_
    refine jo_cS_Z_p (pc := 36) (μ' := mu_X0_isWithin) (fx := f_X0_isWithin σ p2 30) (As := [.ref (adr w p2), .long 30]) (c_X0_isWithin hw (hp2)) (ok_X0_isWithin) (ltb rfl) (all2 gw_825 gw_826) rfl rfl (Nat.le_of_ble_eq_true rfl) dX10_alike_36 (fun b4 => ?_)
    refine jo_ifz_eq (pc := 39) dX10_alike_39 (tgt := 53) rfl ?_ ?_
    · refine jo_bipush (pc := 53) dX10_alike_53 (ic_b_m2) ?_
      exact jo_ireturn (pc := 55) rfl rfl dX10_alike_55
    · refine jo_aload (pc := 42) 0 rfl dX10_alike_42 ?_
      refine jo_ldc2 (pc := 44) dX10_alike_44 gw_1184 ?_
      refine jo_cS_Z_p (pc := 47) (μ' := mu_X0_isWithin) (fx := f_X0_isWithin σ p3 30) (As := [.ref (adr w p3), .long 30]) (c_X0_isWithin hw (hp3)) (ok_X0_isWithin) (ltb rfl) (all2 gw_825 gw_826) rfl rfl (Nat.le_of_ble_eq_true rfl) dX10_alike_47 (fun b5 => ?_)
      refine jo_ifz_ne (pc := 50) dX10_alike_50 (tgt := 56) rfl ?_ ?_
      · refine jo_aload_n (pc := 56) 2 rfl dX10_alike_56 rfl ?_
        refine jo_getrE (pc := 57) ok_10_11 (ik_0 hw) rf_0_11 gw_642 dX10_alike_57 ?_
        refine jo_aload_n (pc := 60) 1 rfl dX10_alike_60 rfl ?_
        refine jo_aload (pc := 61) 0 rfl dX10_alike_61 ?_
        refine jo_cV_Z_i (pc := 63) (μ' := mu_X7_areConjugates) (fx := f_X7_areConjugates σ p2 p3) (As := [.ref (adr w p2), .ref (adr w p3)]) (c_X7_areConjugates hw (hp2) (hp3)) (ok_X7_areConjugates) (ltb rfl) (all3 gw_1185 gw_1186 gw_1187) (ik_80 hw) (by decide) (q := (RX7, TX7, 11)) rfl rfl rfl rfl (Nat.le_of_ble_eq_true rfl) dX10_alike_63 (fun b6 σ7 => ?_)
        refine jo_cS_I_p (pc := 66) (μ' := mu_X10_bit) (fx := f_X10_bit σ7 b6) (As := [.int (b2i b6)]) (c_X10_bit hw) (ok_X10_bit) (ltb rfl) (all2 gw_736 gw_737) rfl rfl (Nat.le_of_ble_eq_true rfl) dX10_alike_66 (fun v8 => ?_)
        exact jo_ireturn (pc := 69) rfl rfl dX10_alike_69
      · refine jo_bipush (pc := 53) dX10_alike_53 (ic_b_m2) ?_
        exact jo_ireturn (pc := 55) rfl rfl dX10_alike_55
  · refine jo_iconst (pc := 9) dX10_alike_9 (ic_i_m1) ?_
    exact jo_ireturn (pc := 10) rfl rfl dX10_alike_10
theorem c_X10_alike {w : Wd} (hw : WOK w) {σ : Mem} {x0 : Int32} {x1 : Int32} : ∀ r σ', f_X10_alike σ x0 x1 = some (r, σ') → MC w mu_X10_alike (vI r) [.ref (adr w 0), .int x0, .int x1] σ σ' := mc_of ok_X10_alike rfl (Nat.le_of_ble_eq_true rfl) (t_X10_alike hw)
abbrev mu_X10_powers : MD := (yX10_powers, cX10_powers, 4, some .long, 3)
theorem ok_X10_powers : MOK mu_X10_powers 3 := ⟨gw_1224, gw_158, (by decide +kernel : plainFor yX10_powers = true), ⟨(by decide +kernel : yX10_powers.cls ≠ "java/lang/invoke/MethodHandle"), (by decide +kernel : yX10_powers.cls ≠ "java/lang/invoke/VarHandle"), (by decide +kernel : (parseMethodDescriptor yX10_powers.desc).map (fun d => d.parameters.length) = some 3)⟩, Nat.le_of_ble_eq_true rfl⟩
noncomputable def f_X10_powers (σ : Mem) (x0 : Int32) (x1 : Int32) (x2 : Int32) : Option (Int64 × Mem) :=
  (f_X10_isRegister σ x0).bind (fun (b1 : Bool) => if b1 then (f_X10_isGenerator σ x1).bind (fun (b2 : Bool) => if b2 then if x2 < 0 then (some ((-100000000000000), σ)) else (if 3 < x2 then (some ((-100000000000000), σ)) else (gZ σ 40 3 (fun (b3 : Bool) => if b3 then gR 5 x0 (fun (p4 : Nat) => (f_X0_findPowers σ p4).bind (fun (σ5 : Mem) => (f_X0_powerNumber σ5 (x1 - 1) x2).bind (fun (v6 : Int64) => some (v6, σ5)))) else some ((-100000000000000), σ)))) else some ((-100000000000000), σ)) else some ((-100000000000000), σ))
theorem t_X10_powers {w : Wd} (hw : WOK w) {σ : Mem} {x0 : Int32} {x1 : Int32} {x2 : Int32} : JO w mu_X10_powers vL σ [(0, .ref (adr w 0)), (1, .int x0), (2, .int x1), (3, .int x2)] [] 0 (f_X10_powers σ x0 x1 x2) some := by
  unfold f_X10_powers
  refine jo_iload_n (pc := 0) 1 rfl dX10_powers_0 rfl ?_
  refine jo_cS_Z_p (pc := 1) (μ' := mu_X10_isRegister) (fx := f_X10_isRegister σ x0) (As := [.int x0]) (c_X10_isRegister hw) (ok_X10_isRegister) (ltb rfl) (all2 gw_803 gw_804) rfl rfl (Nat.le_of_ble_eq_true rfl) dX10_powers_1 (fun b1 => ?_)
  refine jo_ifz_eq (pc := 4) dX10_powers_4 (tgt := 34) rfl ?_ ?_
  · refine jo_ldc2 (pc := 34) dX10_powers_34 gw_1225 ?_
    exact jo_lreturn (pc := 37) rfl rfl dX10_powers_37
  · refine jo_aload_n (pc := 7) 0 rfl dX10_powers_7 rfl ?_
    refine jo_iload_n (pc := 8) 2 rfl dX10_powers_8 rfl ?_
    refine jo_cV_Z_p (pc := 9) (μ' := mu_X10_isGenerator) (fx := f_X10_isGenerator σ x1) (As := [.int x1]) (c_X10_isGenerator hw) (ok_X10_isGenerator) (ltb rfl) (all3 gw_743 gw_745 gw_11) (ik_0 hw) (by decide) (q := (RX10, TX10, 17)) rfl rfl rfl rfl (Nat.le_of_ble_eq_true rfl) dX10_powers_9 (fun b2 => ?_)
    refine jo_ifz_eq (pc := 12) dX10_powers_12 (tgt := 34) rfl ?_ ?_
    · refine jo_ldc2 (pc := 34) dX10_powers_34 gw_1225 ?_
      exact jo_lreturn (pc := 37) rfl rfl dX10_powers_37
    · refine jo_iload_n (pc := 15) 3 rfl dX10_powers_15 rfl ?_
      refine jo_if_lt (pc := 16) dX10_powers_16 (tgt := 34) rfl ?_ ?_
      · refine jo_ldc2 (pc := 34) dX10_powers_34 gw_1225 ?_
        exact jo_lreturn (pc := 37) rfl rfl dX10_powers_37
      · refine jo_iload_n (pc := 19) 3 rfl dX10_powers_19 rfl ?_
        refine jo_iconst (pc := 20) dX10_powers_20 (ic_i_3) ?_
        refine jo_icmp_gt (pc := 21) dX10_powers_21 (tgt := 34) rfl ?_ ?_
        · refine jo_ldc2 (pc := 34) dX10_powers_34 gw_1225 ?_
          exact jo_lreturn (pc := 37) rfl rfl dX10_powers_37
        · refine jo_aload_n (pc := 24) 0 rfl dX10_powers_24 rfl ?_
          refine jo_getrE (pc := 25) ok_10_9 (ik_0 hw) rf_0_9 gw_640 dX10_powers_25 ?_
          refine jo_getz (pc := 28) ok_4_3 (ik_40 hw) gw_308 dX10_powers_28 (fun b3 => ?_)
          refine jo_ifz_ne (pc := 31) dX10_powers_31 (tgt := 38) rfl ?_ ?_
          · refine jo_aload_n (pc := 38) 0 rfl dX10_powers_38 rfl ?_
            refine jo_getrE (pc := 39) ok_10_10 (ik_0 hw) rf_0_10 gw_641 dX10_powers_39 ?_
            refine jo_aload_n (pc := 42) 0 rfl dX10_powers_42 rfl ?_
            refine jo_getrE (pc := 43) ok_10_0 (ik_0 hw) rf_0_0 gw_631 dX10_powers_43 ?_
            refine jo_getrE (pc := 46) ok_8_1 (ik_1 hw) rf_1_1 gw_221 dX10_powers_46 ?_
            refine jo_iload_n (pc := 49) 1 rfl dX10_powers_49 rfl ?_
            refine jo_aaldG (pc := 50) (z := 13) hw (ik_5 hw) (by decide) (t := 4) rfl rfl (by decide) dX10_powers_50 (fun p4 hp4 => ?_)
            refine jo_cV_V_i (pc := 51) (μ' := mu_X0_findPowers) (fx := f_X0_findPowers σ p4) (As := [.ref (adr w p4)]) (c_X0_findPowers hw (hp4)) (ok_X0_findPowers) (ltb rfl) (all3 gw_1226 gw_850 gw_851) (ik_72 hw) (by decide) (q := (RX0, TX0, 8)) rfl rfl rfl rfl (Nat.le_of_ble_eq_true rfl) dX10_powers_51 (fun σ5 => ?_)
            refine jo_aload_n (pc := 54) 0 rfl dX10_powers_54 rfl ?_
            refine jo_getrE (pc := 55) ok_10_10 (ik_0 hw) rf_0_10 gw_641 dX10_powers_55 ?_
            refine jo_iload_n (pc := 58) 2 rfl dX10_powers_58 rfl ?_
            refine jo_iconst (pc := 59) dX10_powers_59 (ic_i_1) ?_
            refine jo_isub (pc := 60) dX10_powers_60 ?_
            refine jo_iload_n (pc := 61) 3 rfl dX10_powers_61 rfl ?_
            refine jo_cV_J_p (pc := 62) (μ' := mu_X0_powerNumber) (fx := f_X0_powerNumber σ5 (x1 - 1) x2) (As := [.int (x1 - 1), .int x2]) (c_X0_powerNumber hw) (ok_X0_powerNumber) (ltb rfl) (all3 gw_1227 gw_860 gw_861) (ik_72 hw) (by decide) (q := (RX0, TX0, 8)) rfl rfl rfl rfl (Nat.le_of_ble_eq_true rfl) dX10_powers_62 (fun v6 => ?_)
            exact jo_lreturn (pc := 65) rfl rfl dX10_powers_65
          · refine jo_ldc2 (pc := 34) dX10_powers_34 gw_1225 ?_
            exact jo_lreturn (pc := 37) rfl rfl dX10_powers_37
theorem c_X10_powers {w : Wd} (hw : WOK w) {σ : Mem} {x0 : Int32} {x1 : Int32} {x2 : Int32} : ∀ r σ', f_X10_powers σ x0 x1 x2 = some (r, σ') → MC w mu_X10_powers (vL r) [.ref (adr w 0), .int x0, .int x1, .int x2] σ σ' := mc_of ok_X10_powers rfl (Nat.le_of_ble_eq_true rfl) (t_X10_powers hw)
