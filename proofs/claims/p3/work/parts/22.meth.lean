abbrev mu_X11_seek : MD := (yX11_seek, cX11_seek, 5, some .boolean, 38)
theorem ok_X11_seek : MOK mu_X11_seek 4 := ⟨gw_1632, gw_171, (by decide +kernel : plainFor yX11_seek = true), ⟨(by decide +kernel : yX11_seek.cls ≠ "java/lang/invoke/MethodHandle"), (by decide +kernel : yX11_seek.cls ≠ "java/lang/invoke/VarHandle"), (by decide +kernel : (parseMethodDescriptor yX11_seek.desc).map (fun d => d.parameters.length) = some 4)⟩, Nat.le_of_ble_eq_true rfl⟩
noncomputable def j_X11_seek_66 (σ9 : Mem) : Option (Bool × Mem) :=
  some (false, σ9)
noncomputable def f_X11_seek (σ : Mem) (x0 : Int32) (x1 : Int32) (x2 : Int32) (x3 : Int32) : Option (Bool × Mem) :=
  bq (f_X11_can σ x0 x1 x2) (fun (b1 : Bool) (σ2 : Mem) => if b1 then (f_X11_isIn σ2 (Int32.toInt64 x3) 1 3).bind (fun (b3 : Bool) => if b3 then (f_X11_laysRegister σ2 0 x1).bind (fun (σ4 : Mem) => (f_X11_laysRegister σ4 1 x2).bind (fun (σ5 : Mem) => (f_X11_ones σ5 2).bind (fun (σ6 : Mem) => bq (f_X11_seeks 8 σ6 0 x3) (fun (b7 : Bool) (σ8 : Mem) => (if b7 then bq (f_X11_gives σ8 x0 2) (fun (b10 : Bool) (σ11 : Mem) => if b10 then some (Sum.inr (true, σ11)) else some (Sum.inl σ11)) else some (Sum.inl σ8) : Option (Mem ⊕ (Bool × Mem))).bind (Sum.elim (fun (z9 : Mem) => j_X11_seek_66 z9) some))))) else some (false, σ2)) else some (false, σ2))
theorem t_X11_seek {w : Wd} (hw : WOK w) (hN : wn w = NT) {σ : Mem} {x0 : Int32} {x1 : Int32} {x2 : Int32} {x3 : Int32} : JO w mu_X11_seek vB σ [(0, .ref (adr w 306)), (1, .int x0), (2, .int x1), (3, .int x2), (4, .int x3)] [] 0 (f_X11_seek σ x0 x1 x2 x3) some := by
  unfold f_X11_seek
  refine jo_aload_n (pc := 0) 0 rfl dX11_seek_0 rfl ?_
  refine jo_iload_n (pc := 1) 1 rfl dX11_seek_1 rfl ?_
  refine jo_iload_n (pc := 2) 2 rfl dX11_seek_2 rfl ?_
  refine jo_iload_n (pc := 3) 3 rfl dX11_seek_3 rfl ?_
  refine jo_cV_Z_i (pc := 4) (μ' := mu_X11_can) (fx := f_X11_can σ x0 x1 x2) (As := [.int x0, .int x1, .int x2]) (c_X11_can hw hN) (ok_X11_can) (ltb rfl) (all3 gw_1466 gw_1468 gw_72) (ik_306 hw hN) (by decide) (q := (RX11, TX11, 39)) rfl rfl rfl rfl (Nat.le_of_ble_eq_true rfl) dX11_seek_4 (fun b1 σ2 => ?_)
  refine jo_ifz_eq (pc := 7) dX11_seek_7 (tgt := 24) rfl ?_ ?_
  · refine jo_iconst (pc := 24) dX11_seek_24 (ic_i_0) ?_
    exact jo_breturn (pc := 25) (b := false) rfl rfl dX11_seek_25
  · refine jo_aload_n (pc := 10) 0 rfl dX11_seek_10 rfl ?_
    refine jo_iload (pc := 11) 4 rfl dX11_seek_11 ?_
    refine jo_i2l (pc := 13) dX11_seek_13 ?_
    refine jo_lconst (pc := 14) dX11_seek_14 (ic_l_1) ?_
    refine jo_ldc2 (pc := 15) dX11_seek_15 gw_1445 ?_
    refine jo_cV_Z_p (pc := 18) (μ' := mu_X11_isIn) (fx := f_X11_isIn σ2 (Int32.toInt64 x3) 1 3) (As := [.long (Int32.toInt64 x3), .long 1, .long 3]) (c_X11_isIn hw hN) (ok_X11_isIn) (ltb rfl) (all3 gw_1420 gw_1422 gw_64) (ik_306 hw hN) (by decide) (q := (RX11, TX11, 39)) rfl rfl rfl rfl (Nat.le_of_ble_eq_true rfl) dX11_seek_18 (fun b3 => ?_)
    refine jo_ifz_ne (pc := 21) dX11_seek_21 (tgt := 26) rfl ?_ ?_
    · refine jo_aload_n (pc := 26) 0 rfl dX11_seek_26 rfl ?_
      refine jo_iconst (pc := 27) dX11_seek_27 (ic_i_0) ?_
      refine jo_iload_n (pc := 28) 2 rfl dX11_seek_28 rfl ?_
      refine jo_cV_V_i (pc := 29) (μ' := mu_X11_laysRegister) (fx := f_X11_laysRegister σ2 0 x1) (As := [.int 0, .int x1]) (c_X11_laysRegister hw hN) (ok_X11_laysRegister) (ltb rfl) (all3 gw_1559 gw_1561 gw_94) (ik_306 hw hN) (by decide) (q := (RX11, TX11, 39)) rfl rfl rfl rfl (Nat.le_of_ble_eq_true rfl) dX11_seek_29 (fun σ4 => ?_)
      refine jo_aload_n (pc := 32) 0 rfl dX11_seek_32 rfl ?_
      refine jo_iconst (pc := 33) dX11_seek_33 (ic_i_1) ?_
      refine jo_iload_n (pc := 34) 3 rfl dX11_seek_34 rfl ?_
      refine jo_cV_V_i (pc := 35) (μ' := mu_X11_laysRegister) (fx := f_X11_laysRegister σ4 1 x2) (As := [.int 1, .int x2]) (c_X11_laysRegister hw hN) (ok_X11_laysRegister) (ltb rfl) (all3 gw_1559 gw_1561 gw_94) (ik_306 hw hN) (by decide) (q := (RX11, TX11, 39)) rfl rfl rfl rfl (Nat.le_of_ble_eq_true rfl) dX11_seek_35 (fun σ5 => ?_)
      refine jo_aload_n (pc := 38) 0 rfl dX11_seek_38 rfl ?_
      refine jo_iconst (pc := 39) dX11_seek_39 (ic_i_2) ?_
      refine jo_cV_V_i (pc := 40) (μ' := mu_X11_ones) (fx := f_X11_ones σ5 2) (As := [.int 2]) (c_X11_ones hw hN) (ok_X11_ones) (ltb rfl) (all3 gw_1587 gw_1589 gw_99) (ik_306 hw hN) (by decide) (q := (RX11, TX11, 39)) rfl rfl rfl rfl (Nat.le_of_ble_eq_true rfl) dX11_seek_40 (fun σ6 => ?_)
      refine jo_aload_n (pc := 43) 0 rfl dX11_seek_43 rfl ?_
      refine jo_iconst (pc := 44) dX11_seek_44 (ic_i_0) ?_
      refine jo_iload (pc := 45) 4 rfl dX11_seek_45 ?_
      refine jo_cV_Z_i (pc := 47) (μ' := (mu_X11_seeks 8)) (fx := f_X11_seeks 8 σ6 0 x3) (As := [.int 0, .int x3]) (c_X11_seeks 8 hw hN) (ok_X11_seeks _) (ltb rfl) (all3 gw_1633 gw_1635 gw_105) (ik_306 hw hN) (by decide) (q := (RX11, TX11, 39)) rfl rfl rfl rfl (Nat.le_of_ble_eq_true rfl) dX11_seek_47 (fun b7 σ8 => ?_)
      refine jo_joinS (S := Mem) (fun (z9 : Mem) => z9) (fun (z9 : Mem) => []) (fun (z9 : Mem) => []) 66 ?_ (fun h66_9 => ?_)
      · intro σ9
        show JO w mu_X11_seek vB σ9 [] [] 66 (j_X11_seek_66 σ9) _
        unfold j_X11_seek_66
        refine jo_iconst (pc := 66) dX11_seek_66 (ic_i_0) ?_
        exact jo_breturn (pc := 67) (b := false) rfl rfl dX11_seek_67
      · refine jo_ifz_eq (pc := 50) dX11_seek_50 (tgt := 66) rfl ?_ ?_
        · refine jo_lv (lv' := []) [] rfl ?_
          exact jo_leaf (by rfl) (h66_9 σ8)
        · refine jo_aload_n (pc := 53) 0 rfl dX11_seek_53 rfl ?_
          refine jo_iload_n (pc := 54) 1 rfl dX11_seek_54 rfl ?_
          refine jo_iconst (pc := 55) dX11_seek_55 (ic_i_2) ?_
          refine jo_cV_Z_i (pc := 56) (μ' := mu_X11_gives) (fx := f_X11_gives σ8 x0 2) (As := [.int x0, .int 2]) (c_X11_gives hw hN) (ok_X11_gives) (ltb rfl) (all3 gw_1567 gw_1569 gw_96) (ik_306 hw hN) (by decide) (q := (RX11, TX11, 39)) rfl rfl rfl rfl (Nat.le_of_ble_eq_true rfl) dX11_seek_56 (fun b10 σ11 => ?_)
          refine jo_ifz_eq (pc := 59) dX11_seek_59 (tgt := 66) rfl ?_ ?_
          · refine jo_lv (lv' := []) [] rfl ?_
            exact jo_leaf (by rfl) (h66_9 σ11)
          · refine jo_iconst (pc := 62) dX11_seek_62 (ic_i_1) ?_
            refine jo_goto (pc := 63) dX11_seek_63 (tgt := 67) rfl ?_
            exact jo_breturn (pc := 67) (b := true) rfl rfl dX11_seek_67
    · refine jo_iconst (pc := 24) dX11_seek_24 (ic_i_0) ?_
      exact jo_breturn (pc := 25) (b := false) rfl rfl dX11_seek_25
theorem c_X11_seek {w : Wd} (hw : WOK w) (hN : wn w = NT) {σ : Mem} {x0 : Int32} {x1 : Int32} {x2 : Int32} {x3 : Int32} : ∀ r σ', f_X11_seek σ x0 x1 x2 x3 = some (r, σ') → MC w mu_X11_seek (vB r) [.ref (adr w 306), .int x0, .int x1, .int x2, .int x3] σ σ' := mc_of ok_X11_seek rfl (Nat.le_of_ble_eq_true rfl) (t_X11_seek hw hN)
abbrev mu_X11_types : MD := (yX11_types, cX11_types, 3, none, 0)
theorem ok_X11_types : MOK mu_X11_types 1 := ⟨gw_1652, gw_171, (by decide +kernel : plainFor yX11_types = true), ⟨(by decide +kernel : yX11_types.cls ≠ "java/lang/invoke/MethodHandle"), (by decide +kernel : yX11_types.cls ≠ "java/lang/invoke/VarHandle"), (by decide +kernel : (parseMethodDescriptor yX11_types.desc).map (fun d => d.parameters.length) = some 1)⟩, Nat.le_of_ble_eq_true rfl⟩
noncomputable def l_X11_types_3 (x0 : Int32) (σ1 : Mem) (i2 : Int32) : Option ((Mem × Int32) ⊕ Mem) :=
  if i2 < 0 then (some (Sum.inr σ1)) else (gF σ1 306 18 (fun (v3 : Int32) => pI σ1 317 v3 ((x0 >>> (i2 &&& 31)) &&& 255) (fun (σ4 : Mem) => gF σ4 306 18 (fun (v5 : Int32) => pF σ4 306 18 (v5 + 1) (fun (σ6 : Mem) => some (Sum.inl (σ6, i2 + (-8))))))))
noncomputable def f_X11_types (σ : Mem) (x0 : Int32) : Option Mem :=
  loopO (fun (z2 : (Mem × Int32)) => l_X11_types_3 x0 z2.1 z2.2) (σ, 24)
theorem t_X11_types {w : Wd} (hw : WOK w) (hN : wn w = NT) {σ : Mem} {x0 : Int32} : JO w mu_X11_types vV σ [(0, .ref (adr w 306)), (1, .int x0)] [] 0 (f_X11_types σ x0) (fun z => some ((), z)) := by
  unfold f_X11_types
  refine jo_bipush (pc := 0) dX11_types_0 (ic_b_24) ?_
  refine jo_istore_n (pc := 2) (lv' := [(2, .int 24), (0, .ref (adr w 306)), (1, .int x0)]) dX11_types_2 rfl (ltb rfl) rfl ?_
  refine jo_lv (lv' := [(0, .ref (adr w 306)), (1, .int x0), (2, .int 24)]) [1, 2, 0] rfl ?_
  refine jo_loop (X := Mem) (fun (z2 : (Mem × Int32)) => z2.1) (fun (z2 : (Mem × Int32)) => [(0, .ref (adr w 306)), (1, .int x0), (2, .int z2.2)]) (body := (fun (z2 : (Mem × Int32)) => l_X11_types_3 x0 z2.1 z2.2)) (fun F3_2 hF3_2 s => ?_) (σ, 24)
  obtain ⟨σ1, i2⟩ := s
  show JO w mu_X11_types vV σ1 [(0, .ref (adr w 306)), (1, .int x0), (2, .int i2)] [] 3 (l_X11_types_3 x0 σ1 i2) _
  unfold l_X11_types_3
  refine jo_iload_n (pc := 3) 2 rfl dX11_types_3 rfl ?_
  refine jo_if_lt (pc := 4) dX11_types_4 (tgt := 39) rfl ?_ ?_
  · exact jo_return (pc := 39) rfl rfl dX11_types_39
  · refine jo_aload_n (pc := 7) 0 rfl dX11_types_7 rfl ?_
    refine jo_getrE (pc := 8) ok_11_17 (ik_306 hw hN) rf_306_17 gw_1310 dX11_types_8 ?_
    refine jo_aload_n (pc := 11) 0 rfl dX11_types_11 rfl ?_
    refine jo_getf (pc := 12) ok_11_18 (ik_306 hw hN) gw_1311 dX11_types_12 (fun v3 => ?_)
    refine jo_iload_n (pc := 15) 1 rfl dX11_types_15 rfl ?_
    refine jo_iload_n (pc := 16) 2 rfl dX11_types_16 rfl ?_
    refine jo_ishr (pc := 17) dX11_types_17 ?_
    refine jo_sipush (pc := 18) dX11_types_18 (ic_s_255) ?_
    refine jo_iand (pc := 21) dX11_types_21 ?_
    refine jo_iast (pc := 22) (ik_317 hw hN) dX11_types_22 (fun σ4 => ?_)
    refine jo_aload_n (pc := 23) 0 rfl dX11_types_23 rfl ?_
    refine jo_aload_n (pc := 24) 0 rfl dX11_types_24 rfl ?_
    refine jo_getf (pc := 25) ok_11_18 (ik_306 hw hN) gw_1311 dX11_types_25 (fun v5 => ?_)
    refine jo_iconst (pc := 28) dX11_types_28 (ic_i_1) ?_
    refine jo_iadd (pc := 29) dX11_types_29 ?_
    refine jo_putf (pc := 30) ok_11_18 okp_11_18 (ik_306 hw hN) gw_1311 dX11_types_30 (fun σ6 => ?_)
    refine jo_iinc (pc := 33) (lv' := [(2, .int (i2 + (-8))), (0, .ref (adr w 306)), (1, .int x0)]) 2 rfl dX11_types_33 (congrArg (fun z => i2 + z) (ic_i_m8)) (ltb rfl) rfl ?_
    refine jo_goto (pc := 36) dX11_types_36 (tgt := 3) rfl ?_
    refine jo_lv (lv' := [(0, .ref (adr w 306)), (1, .int x0), (2, .int (i2 + (-8)))]) [1, 2, 0] rfl ?_
    exact jo_leaf (by rfl) (hF3_2 (σ6, i2 + (-8)))
theorem c_X11_types {w : Wd} (hw : WOK w) (hN : wn w = NT) {σ : Mem} {x0 : Int32} : ∀ σ', f_X11_types σ x0 = some σ' → MC w mu_X11_types none [.ref (adr w 306), .int x0] σ σ' := mc_ofV ok_X11_types rfl (Nat.le_of_ble_eq_true rfl) (t_X11_types hw hN)
abbrev mu_X11_feed : MD := (yX11_feed, cX11_feed, 6, some .int, 1)
theorem ok_X11_feed : MOK mu_X11_feed 5 := ⟨gw_1648, gw_171, (by decide +kernel : plainFor yX11_feed = true), ⟨(by decide +kernel : yX11_feed.cls ≠ "java/lang/invoke/MethodHandle"), (by decide +kernel : yX11_feed.cls ≠ "java/lang/invoke/VarHandle"), (by decide +kernel : (parseMethodDescriptor yX11_feed.desc).map (fun d => d.parameters.length) = some 5)⟩, Nat.le_of_ble_eq_true rfl⟩
noncomputable def f_X11_feed (σ : Mem) (x0 : Int32) (x1 : Int32) (x2 : Int32) (x3 : Int32) (x4 : Int32) : Option (Int32 × Mem) :=
  pF σ 306 0 0 (fun (σ1 : Mem) => gF σ1 306 18 (fun (v2 : Int32) => if v2 ≤ 180 then ((f_X11_types σ1 x0).bind (fun (σ3 : Mem) => (f_X11_types σ3 x1).bind (fun (σ4 : Mem) => (f_X11_types σ4 x2).bind (fun (σ5 : Mem) => (f_X11_types σ5 x3).bind (fun (σ6 : Mem) => (f_X11_types σ6 x4).bind (fun (σ7 : Mem) => gF σ7 306 18 (fun (v8 : Int32) => some (v8, σ7)))))))) else (some ((-1), σ1))))
theorem t_X11_feed {w : Wd} (hw : WOK w) (hN : wn w = NT) {σ : Mem} {x0 : Int32} {x1 : Int32} {x2 : Int32} {x3 : Int32} {x4 : Int32} : JO w mu_X11_feed vI σ [(0, .ref (adr w 306)), (1, .int x0), (2, .int x1), (3, .int x2), (4, .int x3), (5, .int x4)] [] 0 (f_X11_feed σ x0 x1 x2 x3 x4) some := by
  unfold f_X11_feed
  refine jo_aload_n (pc := 0) 0 rfl dX11_feed_0 rfl ?_
  refine jo_iconst (pc := 1) dX11_feed_1 (ic_i_0) ?_
  refine jo_putf (pc := 2) ok_11_0 okp_11_0 (ik_306 hw hN) gw_1293 dX11_feed_2 (fun σ1 => ?_)
  refine jo_aload_n (pc := 5) 0 rfl dX11_feed_5 rfl ?_
  refine jo_getf (pc := 6) ok_11_18 (ik_306 hw hN) gw_1311 dX11_feed_6 (fun v2 => ?_)
  refine jo_sipush (pc := 9) dX11_feed_9 (ic_s_180) ?_
  refine jo_icmp_le (pc := 12) dX11_feed_12 (tgt := 17) rfl ?_ ?_
  · refine jo_aload_n (pc := 17) 0 rfl dX11_feed_17 rfl ?_
    refine jo_iload_n (pc := 18) 1 rfl dX11_feed_18 rfl ?_
    refine jo_cV_V_i (pc := 19) (μ' := mu_X11_types) (fx := f_X11_types σ1 x0) (As := [.int x0]) (c_X11_types hw hN) (ok_X11_types) (ltb rfl) (all3 gw_1649 gw_1651 gw_108) (ik_306 hw hN) (by decide) (q := (RX11, TX11, 39)) rfl rfl rfl rfl (Nat.le_of_ble_eq_true rfl) dX11_feed_19 (fun σ3 => ?_)
    refine jo_aload_n (pc := 22) 0 rfl dX11_feed_22 rfl ?_
    refine jo_iload_n (pc := 23) 2 rfl dX11_feed_23 rfl ?_
    refine jo_cV_V_i (pc := 24) (μ' := mu_X11_types) (fx := f_X11_types σ3 x1) (As := [.int x1]) (c_X11_types hw hN) (ok_X11_types) (ltb rfl) (all3 gw_1649 gw_1651 gw_108) (ik_306 hw hN) (by decide) (q := (RX11, TX11, 39)) rfl rfl rfl rfl (Nat.le_of_ble_eq_true rfl) dX11_feed_24 (fun σ4 => ?_)
    refine jo_aload_n (pc := 27) 0 rfl dX11_feed_27 rfl ?_
    refine jo_iload_n (pc := 28) 3 rfl dX11_feed_28 rfl ?_
    refine jo_cV_V_i (pc := 29) (μ' := mu_X11_types) (fx := f_X11_types σ4 x2) (As := [.int x2]) (c_X11_types hw hN) (ok_X11_types) (ltb rfl) (all3 gw_1649 gw_1651 gw_108) (ik_306 hw hN) (by decide) (q := (RX11, TX11, 39)) rfl rfl rfl rfl (Nat.le_of_ble_eq_true rfl) dX11_feed_29 (fun σ5 => ?_)
    refine jo_aload_n (pc := 32) 0 rfl dX11_feed_32 rfl ?_
    refine jo_iload (pc := 33) 4 rfl dX11_feed_33 ?_
    refine jo_cV_V_i (pc := 35) (μ' := mu_X11_types) (fx := f_X11_types σ5 x3) (As := [.int x3]) (c_X11_types hw hN) (ok_X11_types) (ltb rfl) (all3 gw_1649 gw_1651 gw_108) (ik_306 hw hN) (by decide) (q := (RX11, TX11, 39)) rfl rfl rfl rfl (Nat.le_of_ble_eq_true rfl) dX11_feed_35 (fun σ6 => ?_)
    refine jo_aload_n (pc := 38) 0 rfl dX11_feed_38 rfl ?_
    refine jo_iload (pc := 39) 5 rfl dX11_feed_39 ?_
    refine jo_cV_V_i (pc := 41) (μ' := mu_X11_types) (fx := f_X11_types σ6 x4) (As := [.int x4]) (c_X11_types hw hN) (ok_X11_types) (ltb rfl) (all3 gw_1649 gw_1651 gw_108) (ik_306 hw hN) (by decide) (q := (RX11, TX11, 39)) rfl rfl rfl rfl (Nat.le_of_ble_eq_true rfl) dX11_feed_41 (fun σ7 => ?_)
    refine jo_aload_n (pc := 44) 0 rfl dX11_feed_44 rfl ?_
    refine jo_getf (pc := 45) ok_11_18 (ik_306 hw hN) gw_1311 dX11_feed_45 (fun v8 => ?_)
    exact jo_ireturn (pc := 48) rfl rfl dX11_feed_48
  · refine jo_iconst (pc := 15) dX11_feed_15 (ic_i_m1) ?_
    exact jo_ireturn (pc := 16) rfl rfl dX11_feed_16
theorem c_X11_feed {w : Wd} (hw : WOK w) (hN : wn w = NT) {σ : Mem} {x0 : Int32} {x1 : Int32} {x2 : Int32} {x3 : Int32} {x4 : Int32} : ∀ r σ', f_X11_feed σ x0 x1 x2 x3 x4 = some (r, σ') → MC w mu_X11_feed (vI r) [.ref (adr w 306), .int x0, .int x1, .int x2, .int x3, .int x4] σ σ' := mc_of ok_X11_feed rfl (Nat.le_of_ble_eq_true rfl) (t_X11_feed hw hN)
abbrev mu_X11_end : MD := (yX11_end, cX11_end, 2, some .boolean, 1)
theorem ok_X11_end : MOK mu_X11_end 1 := ⟨gw_1656, gw_171, (by decide +kernel : plainFor yX11_end = true), ⟨(by decide +kernel : yX11_end.cls ≠ "java/lang/invoke/MethodHandle"), (by decide +kernel : yX11_end.cls ≠ "java/lang/invoke/VarHandle"), (by decide +kernel : (parseMethodDescriptor yX11_end.desc).map (fun d => d.parameters.length) = some 1)⟩, Nat.le_of_ble_eq_true rfl⟩
noncomputable def f_X11_end (σ : Mem) (x0 : Int32) : Option (Bool × Mem) :=
  pF σ 306 0 0 (fun (σ1 : Mem) => gF σ1 306 18 (fun (v2 : Int32) => (f_X11_isIn σ1 (Int32.toInt64 x0) 0 (Int32.toInt64 v2)).bind (fun (b3 : Bool) => if b3 then pF σ1 306 18 x0 (fun (σ4 : Mem) => some (true, σ4)) else some (false, σ1))))
theorem t_X11_end {w : Wd} (hw : WOK w) (hN : wn w = NT) {σ : Mem} {x0 : Int32} : JO w mu_X11_end vB σ [(0, .ref (adr w 306)), (1, .int x0)] [] 0 (f_X11_end σ x0) some := by
  unfold f_X11_end
  refine jo_aload_n (pc := 0) 0 rfl dX11_end_0 rfl ?_
  refine jo_iconst (pc := 1) dX11_end_1 (ic_i_0) ?_
  refine jo_putf (pc := 2) ok_11_0 okp_11_0 (ik_306 hw hN) gw_1293 dX11_end_2 (fun σ1 => ?_)
  refine jo_aload_n (pc := 5) 0 rfl dX11_end_5 rfl ?_
  refine jo_iload_n (pc := 6) 1 rfl dX11_end_6 rfl ?_
  refine jo_i2l (pc := 7) dX11_end_7 ?_
  refine jo_lconst (pc := 8) dX11_end_8 (ic_l_0) ?_
  refine jo_aload_n (pc := 9) 0 rfl dX11_end_9 rfl ?_
  refine jo_getf (pc := 10) ok_11_18 (ik_306 hw hN) gw_1311 dX11_end_10 (fun v2 => ?_)
  refine jo_i2l (pc := 13) dX11_end_13 ?_
  refine jo_cV_Z_p (pc := 14) (μ' := mu_X11_isIn) (fx := f_X11_isIn σ1 (Int32.toInt64 x0) 0 (Int32.toInt64 v2)) (As := [.long (Int32.toInt64 x0), .long 0, .long (Int32.toInt64 v2)]) (c_X11_isIn hw hN) (ok_X11_isIn) (ltb rfl) (all3 gw_1420 gw_1422 gw_64) (ik_306 hw hN) (by decide) (q := (RX11, TX11, 39)) rfl rfl rfl rfl (Nat.le_of_ble_eq_true rfl) dX11_end_14 (fun b3 => ?_)
  refine jo_ifz_ne (pc := 17) dX11_end_17 (tgt := 22) rfl ?_ ?_
  · refine jo_aload_n (pc := 22) 0 rfl dX11_end_22 rfl ?_
    refine jo_iload_n (pc := 23) 1 rfl dX11_end_23 rfl ?_
    refine jo_putf (pc := 24) ok_11_18 okp_11_18 (ik_306 hw hN) gw_1311 dX11_end_24 (fun σ4 => ?_)
    refine jo_iconst (pc := 27) dX11_end_27 (ic_i_1) ?_
    exact jo_breturn (pc := 28) (b := true) rfl rfl dX11_end_28
  · refine jo_iconst (pc := 20) dX11_end_20 (ic_i_0) ?_
    exact jo_breturn (pc := 21) (b := false) rfl rfl dX11_end_21
theorem c_X11_end {w : Wd} (hw : WOK w) (hN : wn w = NT) {σ : Mem} {x0 : Int32} : ∀ r σ', f_X11_end σ x0 = some (r, σ') → MC w mu_X11_end (vB r) [.ref (adr w 306), .int x0] σ σ' := mc_of ok_X11_end rfl (Nat.le_of_ble_eq_true rfl) (t_X11_end hw hN)
abbrev mu_X11_here : MD := (yX11_here, cX11_here, 1, some .int, 0)
theorem ok_X11_here : MOK mu_X11_here 0 := ⟨gw_1676, gw_171, (by decide +kernel : plainFor yX11_here = true), ⟨(by decide +kernel : yX11_here.cls ≠ "java/lang/invoke/MethodHandle"), (by decide +kernel : yX11_here.cls ≠ "java/lang/invoke/VarHandle"), (by decide +kernel : (parseMethodDescriptor yX11_here.desc).map (fun d => d.parameters.length) = some 0)⟩, Nat.le_of_ble_eq_true rfl⟩
noncomputable def f_X11_here (σ : Mem) : Option Int32 :=
  gF σ 306 21 (fun (v1 : Int32) => gF σ 306 22 (fun (v2 : Int32) => if v2 ≤ v1 then (some (-1)) else (gF σ 306 21 (fun (v3 : Int32) => gI σ 317 v3 (fun (v4 : Int32) => some v4)))))
theorem t_X11_here {w : Wd} (hw : WOK w) (hN : wn w = NT) {σ : Mem} : JO w mu_X11_here vI σ [(0, .ref (adr w 306))] [] 0 (f_X11_here σ) (fun z => some (z, σ)) := by
  unfold f_X11_here
  refine jo_aload_n (pc := 0) 0 rfl dX11_here_0 rfl ?_
  refine jo_getf (pc := 1) ok_11_21 (ik_306 hw hN) gw_1314 dX11_here_1 (fun v1 => ?_)
  refine jo_aload_n (pc := 4) 0 rfl dX11_here_4 rfl ?_
  refine jo_getf (pc := 5) ok_11_22 (ik_306 hw hN) gw_1315 dX11_here_5 (fun v2 => ?_)
  refine jo_icmp_ge (pc := 8) dX11_here_8 (tgt := 23) rfl ?_ ?_
  · refine jo_iconst (pc := 23) dX11_here_23 (ic_i_m1) ?_
    exact jo_ireturn (pc := 24) rfl rfl dX11_here_24
  · refine jo_aload_n (pc := 11) 0 rfl dX11_here_11 rfl ?_
    refine jo_getrE (pc := 12) ok_11_17 (ik_306 hw hN) rf_306_17 gw_1310 dX11_here_12 ?_
    refine jo_aload_n (pc := 15) 0 rfl dX11_here_15 rfl ?_
    refine jo_getf (pc := 16) ok_11_21 (ik_306 hw hN) gw_1314 dX11_here_16 (fun v3 => ?_)
    refine jo_iald (pc := 19) (ik_317 hw hN) dX11_here_19 (fun v4 => ?_)
    refine jo_goto (pc := 20) dX11_here_20 (tgt := 24) rfl ?_
    exact jo_ireturn (pc := 24) rfl rfl dX11_here_24
theorem c_X11_here {w : Wd} (hw : WOK w) (hN : wn w = NT) {σ : Mem} : ∀ r, f_X11_here σ = some r → MC w mu_X11_here (vI r) [.ref (adr w 306)] σ σ := mc_ofP ok_X11_here rfl (Nat.le_of_ble_eq_true rfl) (t_X11_here hw hN)
abbrev mu_X11_behindBlanks : MD := (yX11_behindBlanks, cX11_behindBlanks, 1, some .int, 1)
theorem ok_X11_behindBlanks : MOK mu_X11_behindBlanks 0 := ⟨gw_1672, gw_171, (by decide +kernel : plainFor yX11_behindBlanks = true), ⟨(by decide +kernel : yX11_behindBlanks.cls ≠ "java/lang/invoke/MethodHandle"), (by decide +kernel : yX11_behindBlanks.cls ≠ "java/lang/invoke/VarHandle"), (by decide +kernel : (parseMethodDescriptor yX11_behindBlanks.desc).map (fun d => d.parameters.length) = some 0)⟩, Nat.le_of_ble_eq_true rfl⟩
noncomputable def j_X11_behindBlanks_22 (σ1 : Mem) : Option (Int32 × Mem) :=
  (f_X11_here σ1).bind (fun (v2 : Int32) => some (v2, σ1))
noncomputable def l_X11_behindBlanks_0 (σ3 : Mem) : Option (Mem ⊕ Mem) :=
  (f_X11_here σ3).bind (fun (v4 : Int32) => if v4 = 32 then (gF σ3 306 21 (fun (v5 : Int32) => pF σ3 306 21 (v5 + 1) (fun (σ6 : Mem) => some (Sum.inl σ6)))) else (some (Sum.inr σ3)))
noncomputable def f_X11_behindBlanks (σ : Mem) : Option (Int32 × Mem) :=
  (loopO (fun (z3 : Mem) => l_X11_behindBlanks_0 z3) σ : Option Mem).bind (fun (z1 : Mem) => j_X11_behindBlanks_22 z1)
theorem t_X11_behindBlanks {w : Wd} (hw : WOK w) (hN : wn w = NT) {σ : Mem} : JO w mu_X11_behindBlanks vI σ [(0, .ref (adr w 306))] [] 0 (f_X11_behindBlanks σ) some := by
  unfold f_X11_behindBlanks
  refine jo_join1 (S := Mem) (fun (z1 : Mem) => z1) (fun (z1 : Mem) => [(0, .ref (adr w 306))]) (fun (z1 : Mem) => []) 22 ?_ (fun h22_1 => ?_)
  · intro σ1
    show JO w mu_X11_behindBlanks vI σ1 [(0, .ref (adr w 306))] [] 22 (j_X11_behindBlanks_22 σ1) _
    unfold j_X11_behindBlanks_22
    refine jo_aload_n (pc := 22) 0 rfl dX11_behindBlanks_22 rfl ?_
    refine jo_cV_I_p (pc := 23) (μ' := mu_X11_here) (fx := f_X11_here σ1) (As := []) (c_X11_here hw hN) (ok_X11_here) (ltb rfl) (all3 gw_1673 gw_1675 gw_112) (ik_306 hw hN) (by decide) (q := (RX11, TX11, 39)) rfl rfl rfl rfl (Nat.le_of_ble_eq_true rfl) dX11_behindBlanks_23 (fun v2 => ?_)
    exact jo_ireturn (pc := 26) rfl rfl dX11_behindBlanks_26
  · refine jo_loop (X := Mem) (fun (z3 : Mem) => z3) (fun (z3 : Mem) => [(0, .ref (adr w 306))]) (body := (fun (z3 : Mem) => l_X11_behindBlanks_0 z3)) (fun F0_3 hF0_3 s => ?_) σ
    revert s; intro σ3
    show JO w mu_X11_behindBlanks vI σ3 [(0, .ref (adr w 306))] [] 0 (l_X11_behindBlanks_0 σ3) _
    unfold l_X11_behindBlanks_0
    refine jo_aload_n (pc := 0) 0 rfl dX11_behindBlanks_0 rfl ?_
    refine jo_cV_I_p (pc := 1) (μ' := mu_X11_here) (fx := f_X11_here σ3) (As := []) (c_X11_here hw hN) (ok_X11_here) (ltb rfl) (all3 gw_1673 gw_1675 gw_112) (ik_306 hw hN) (by decide) (q := (RX11, TX11, 39)) rfl rfl rfl rfl (Nat.le_of_ble_eq_true rfl) dX11_behindBlanks_1 (fun v4 => ?_)
    refine jo_bipush (pc := 4) dX11_behindBlanks_4 (ic_b_32) ?_
    refine jo_icmp_ne (pc := 6) dX11_behindBlanks_6 (tgt := 22) rfl ?_ ?_
    · exact jo_leaf (by rfl) (h22_1 σ3)
    · refine jo_aload_n (pc := 9) 0 rfl dX11_behindBlanks_9 rfl ?_
      refine jo_aload_n (pc := 10) 0 rfl dX11_behindBlanks_10 rfl ?_
      refine jo_getf (pc := 11) ok_11_21 (ik_306 hw hN) gw_1314 dX11_behindBlanks_11 (fun v5 => ?_)
      refine jo_iconst (pc := 14) dX11_behindBlanks_14 (ic_i_1) ?_
      refine jo_iadd (pc := 15) dX11_behindBlanks_15 ?_
      refine jo_putf (pc := 16) ok_11_21 okp_11_21 (ik_306 hw hN) gw_1314 dX11_behindBlanks_16 (fun σ6 => ?_)
      refine jo_goto (pc := 19) dX11_behindBlanks_19 (tgt := 0) rfl ?_
      exact jo_leaf (by rfl) (hF0_3 σ6)
theorem c_X11_behindBlanks {w : Wd} (hw : WOK w) (hN : wn w = NT) {σ : Mem} : ∀ r σ', f_X11_behindBlanks σ = some (r, σ') → MC w mu_X11_behindBlanks (vI r) [.ref (adr w 306)] σ σ' := mc_of ok_X11_behindBlanks rfl (Nat.le_of_ble_eq_true rfl) (t_X11_behindBlanks hw hN)
abbrev mu_X11_isDigit : MD := (yX11_isDigit, cX11_isDigit, 2, some .boolean, 0)
theorem ok_X11_isDigit : MOK mu_X11_isDigit 1 := ⟨gw_1692, gw_171, (by decide +kernel : plainFor yX11_isDigit = true), ⟨(by decide +kernel : yX11_isDigit.cls ≠ "java/lang/invoke/MethodHandle"), (by decide +kernel : yX11_isDigit.cls ≠ "java/lang/invoke/VarHandle"), (by decide +kernel : (parseMethodDescriptor yX11_isDigit.desc).map (fun d => d.parameters.length) = some 1)⟩, Nat.le_of_ble_eq_true rfl⟩
noncomputable def j_X11_isDigit_16  : Option Bool :=
  some false
noncomputable def f_X11_isDigit (σ : Mem) (x0 : Int32) : Option Bool :=
  (if x0 < 48 then (some (Sum.inl ())) else (if 57 < x0 then (some (Sum.inl ())) else (some (Sum.inr true))) : Option (Unit ⊕ Bool)).bind (Sum.elim (fun (z0 : Unit) => j_X11_isDigit_16) some)
theorem t_X11_isDigit {w : Wd} (hw : WOK w) (hN : wn w = NT) {σ : Mem} {x0 : Int32} : JO w mu_X11_isDigit vB σ [(0, .ref (adr w 306)), (1, .int x0)] [] 0 (f_X11_isDigit σ x0) (fun z => some (z, σ)) := by
  unfold f_X11_isDigit
  refine jo_iload_n (pc := 0) 1 rfl dX11_isDigit_0 rfl ?_
  refine jo_bipush (pc := 1) dX11_isDigit_1 (ic_b_48) ?_
  refine jo_joinS (S := Unit) (fun (z0 : Unit) => σ) (fun (z0 : Unit) => []) (fun (z0 : Unit) => []) 16 ?_ (fun h16_0 => ?_)
  · intro _
    show JO w mu_X11_isDigit vB σ [] [] 16 (j_X11_isDigit_16) _
    unfold j_X11_isDigit_16
    refine jo_iconst (pc := 16) dX11_isDigit_16 (ic_i_0) ?_
    exact jo_breturn (pc := 17) (b := false) rfl rfl dX11_isDigit_17
  · refine jo_icmp_lt (pc := 3) dX11_isDigit_3 (tgt := 16) rfl ?_ ?_
    · refine jo_lv (lv' := []) [] rfl ?_
      exact jo_leaf (by rfl) (h16_0 ())
    · refine jo_iload_n (pc := 6) 1 rfl dX11_isDigit_6 rfl ?_
      refine jo_bipush (pc := 7) dX11_isDigit_7 (ic_b_57) ?_
      refine jo_icmp_gt (pc := 9) dX11_isDigit_9 (tgt := 16) rfl ?_ ?_
      · refine jo_lv (lv' := []) [] rfl ?_
        exact jo_leaf (by rfl) (h16_0 ())
      · refine jo_iconst (pc := 12) dX11_isDigit_12 (ic_i_1) ?_
        refine jo_goto (pc := 13) dX11_isDigit_13 (tgt := 17) rfl ?_
        exact jo_breturn (pc := 17) (b := true) rfl rfl dX11_isDigit_17
theorem c_X11_isDigit {w : Wd} (hw : WOK w) (hN : wn w = NT) {σ : Mem} {x0 : Int32} : ∀ r, f_X11_isDigit σ x0 = some r → MC w mu_X11_isDigit (vB r) [.ref (adr w 306), .int x0] σ σ := mc_ofP ok_X11_isDigit rfl (Nat.le_of_ble_eq_true rfl) (t_X11_isDigit hw hN)
abbrev mu_X11_isWrong : MD := (yX11_isWrong, cX11_isWrong, 1, some .boolean, 0)
theorem ok_X11_isWrong : MOK mu_X11_isWrong 0 := ⟨gw_1668, gw_171, (by decide +kernel : plainFor yX11_isWrong = true), ⟨(by decide +kernel : yX11_isWrong.cls ≠ "java/lang/invoke/MethodHandle"), (by decide +kernel : yX11_isWrong.cls ≠ "java/lang/invoke/VarHandle"), (by decide +kernel : (parseMethodDescriptor yX11_isWrong.desc).map (fun d => d.parameters.length) = some 0)⟩, Nat.le_of_ble_eq_true rfl⟩
noncomputable def f_X11_isWrong (σ : Mem) : Option Bool :=
  gF σ 306 20 (fun (v1 : Int32) => if v1 = (-1) then (some false) else (some true))
theorem t_X11_isWrong {w : Wd} (hw : WOK w) (hN : wn w = NT) {σ : Mem} : JO w mu_X11_isWrong vB σ [(0, .ref (adr w 306))] [] 0 (f_X11_isWrong σ) (fun z => some (z, σ)) := by
  unfold f_X11_isWrong
  refine jo_aload_n (pc := 0) 0 rfl dX11_isWrong_0 rfl ?_
  refine jo_getf (pc := 1) ok_11_20 (ik_306 hw hN) gw_1313 dX11_isWrong_1 (fun v1 => ?_)
  refine jo_iconst (pc := 4) dX11_isWrong_4 (ic_i_m1) ?_
  refine jo_icmp_eq (pc := 5) dX11_isWrong_5 (tgt := 12) rfl ?_ ?_
  · refine jo_iconst (pc := 12) dX11_isWrong_12 (ic_i_0) ?_
    exact jo_breturn (pc := 13) (b := false) rfl rfl dX11_isWrong_13
  · refine jo_iconst (pc := 8) dX11_isWrong_8 (ic_i_1) ?_
    refine jo_goto (pc := 9) dX11_isWrong_9 (tgt := 13) rfl ?_
    exact jo_breturn (pc := 13) (b := true) rfl rfl dX11_isWrong_13
theorem c_X11_isWrong {w : Wd} (hw : WOK w) (hN : wn w = NT) {σ : Mem} : ∀ r, f_X11_isWrong σ = some r → MC w mu_X11_isWrong (vB r) [.ref (adr w 306)] σ σ := mc_ofP ok_X11_isWrong rfl (Nat.le_of_ble_eq_true rfl) (t_X11_isWrong hw hN)
abbrev mu_X11_errs : MD := (yX11_errs, cX11_errs, 3, none, 1)
theorem ok_X11_errs : MOK mu_X11_errs 2 := ⟨gw_1688, gw_171, (by decide +kernel : plainFor yX11_errs = true), ⟨(by decide +kernel : yX11_errs.cls ≠ "java/lang/invoke/MethodHandle"), (by decide +kernel : yX11_errs.cls ≠ "java/lang/invoke/VarHandle"), (by decide +kernel : (parseMethodDescriptor yX11_errs.desc).map (fun d => d.parameters.length) = some 2)⟩, Nat.le_of_ble_eq_true rfl⟩
noncomputable def f_X11_errs (σ : Mem) (x0 : Int32) (x1 : Int32) : Option Mem :=
  (f_X11_isWrong σ).bind (fun (b1 : Bool) => if b1 then some σ else pF σ 306 19 x0 (fun (σ2 : Mem) => pF σ2 306 20 x1 (fun (σ3 : Mem) => some σ3)))
theorem t_X11_errs {w : Wd} (hw : WOK w) (hN : wn w = NT) {σ : Mem} {x0 : Int32} {x1 : Int32} : JO w mu_X11_errs vV σ [(0, .ref (adr w 306)), (1, .int x0), (2, .int x1)] [] 0 (f_X11_errs σ x0 x1) (fun z => some ((), z)) := by
  unfold f_X11_errs
  refine jo_aload_n (pc := 0) 0 rfl dX11_errs_0 rfl ?_
  refine jo_cV_Z_p (pc := 1) (μ' := mu_X11_isWrong) (fx := f_X11_isWrong σ) (As := []) (c_X11_isWrong hw hN) (ok_X11_isWrong) (ltb rfl) (all3 gw_1665 gw_1667 gw_110) (ik_306 hw hN) (by decide) (q := (RX11, TX11, 39)) rfl rfl rfl rfl (Nat.le_of_ble_eq_true rfl) dX11_errs_1 (fun b1 => ?_)
  refine jo_ifz_eq (pc := 4) dX11_errs_4 (tgt := 8) rfl ?_ ?_
  · refine jo_aload_n (pc := 8) 0 rfl dX11_errs_8 rfl ?_
    refine jo_iload_n (pc := 9) 1 rfl dX11_errs_9 rfl ?_
    refine jo_putf (pc := 10) ok_11_19 okp_11_19 (ik_306 hw hN) gw_1312 dX11_errs_10 (fun σ2 => ?_)
    refine jo_aload_n (pc := 13) 0 rfl dX11_errs_13 rfl ?_
    refine jo_iload_n (pc := 14) 2 rfl dX11_errs_14 rfl ?_
    refine jo_putf (pc := 15) ok_11_20 okp_11_20 (ik_306 hw hN) gw_1313 dX11_errs_15 (fun σ3 => ?_)
    exact jo_return (pc := 18) rfl rfl dX11_errs_18
  · exact jo_return (pc := 7) rfl rfl dX11_errs_7
theorem c_X11_errs {w : Wd} (hw : WOK w) (hN : wn w = NT) {σ : Mem} {x0 : Int32} {x1 : Int32} : ∀ σ', f_X11_errs σ x0 x1 = some σ' → MC w mu_X11_errs none [.ref (adr w 306), .int x0, .int x1] σ σ' := mc_ofV ok_X11_errs rfl (Nat.le_of_ble_eq_true rfl) (t_X11_errs hw hN)
abbrev mu_X11_checks : MD := (yX11_checks, cX11_checks, 2, none, 2)
theorem ok_X11_checks : MOK mu_X11_checks 1 := ⟨gw_1708, gw_171, (by decide +kernel : plainFor yX11_checks = true), ⟨(by decide +kernel : yX11_checks.cls ≠ "java/lang/invoke/MethodHandle"), (by decide +kernel : yX11_checks.cls ≠ "java/lang/invoke/VarHandle"), (by decide +kernel : (parseMethodDescriptor yX11_checks.desc).map (fun d => d.parameters.length) = some 1)⟩, Nat.le_of_ble_eq_true rfl⟩
noncomputable def f_X11_checks (σ : Mem) (x0 : Int32) : Option Mem :=
  gF σ 306 24 (fun (v1 : Int32) => if v1 = (-1) then ((f_X11_isElement σ x0).bind (fun (b2 : Bool) => if b2 then some σ else gF σ 306 23 (fun (v3 : Int32) => pF σ 306 24 v3 (fun (σ4 : Mem) => (f_X11_ones σ4 x0).bind (fun (σ5 : Mem) => some σ5))))) else ((f_X11_ones σ x0).bind (fun (σ6 : Mem) => some σ6)))
theorem t_X11_checks {w : Wd} (hw : WOK w) (hN : wn w = NT) {σ : Mem} {x0 : Int32} : JO w mu_X11_checks vV σ [(0, .ref (adr w 306)), (1, .int x0)] [] 0 (f_X11_checks σ x0) (fun z => some ((), z)) := by
  unfold f_X11_checks
  refine jo_aload_n (pc := 0) 0 rfl dX11_checks_0 rfl ?_
  refine jo_getf (pc := 1) ok_11_24 (ik_306 hw hN) gw_1317 dX11_checks_1 (fun v1 => ?_)
  refine jo_iconst (pc := 4) dX11_checks_4 (ic_i_m1) ?_
  refine jo_icmp_eq (pc := 5) dX11_checks_5 (tgt := 14) rfl ?_ ?_
  · refine jo_aload_n (pc := 14) 0 rfl dX11_checks_14 rfl ?_
    refine jo_iload_n (pc := 15) 1 rfl dX11_checks_15 rfl ?_
    refine jo_cV_Z_p (pc := 16) (μ' := mu_X11_isElement) (fx := f_X11_isElement σ x0) (As := [.int x0]) (c_X11_isElement hw hN) (ok_X11_isElement) (ltb rfl) (all3 gw_1571 gw_1573 gw_97) (ik_306 hw hN) (by decide) (q := (RX11, TX11, 39)) rfl rfl rfl rfl (Nat.le_of_ble_eq_true rfl) dX11_checks_16 (fun b2 => ?_)
    refine jo_ifz_eq (pc := 19) dX11_checks_19 (tgt := 23) rfl ?_ ?_
    · refine jo_aload_n (pc := 23) 0 rfl dX11_checks_23 rfl ?_
      refine jo_aload_n (pc := 24) 0 rfl dX11_checks_24 rfl ?_
      refine jo_getf (pc := 25) ok_11_23 (ik_306 hw hN) gw_1316 dX11_checks_25 (fun v3 => ?_)
      refine jo_putf (pc := 28) ok_11_24 okp_11_24 (ik_306 hw hN) gw_1317 dX11_checks_28 (fun σ4 => ?_)
      refine jo_aload_n (pc := 31) 0 rfl dX11_checks_31 rfl ?_
      refine jo_iload_n (pc := 32) 1 rfl dX11_checks_32 rfl ?_
      refine jo_cV_V_i (pc := 33) (μ' := mu_X11_ones) (fx := f_X11_ones σ4 x0) (As := [.int x0]) (c_X11_ones hw hN) (ok_X11_ones) (ltb rfl) (all3 gw_1587 gw_1589 gw_99) (ik_306 hw hN) (by decide) (q := (RX11, TX11, 39)) rfl rfl rfl rfl (Nat.le_of_ble_eq_true rfl) dX11_checks_33 (fun σ5 => ?_)
      exact jo_return (pc := 36) rfl rfl dX11_checks_36
    · exact jo_return (pc := 22) rfl rfl dX11_checks_22
  · refine jo_aload_n (pc := 8) 0 rfl dX11_checks_8 rfl ?_
    refine jo_iload_n (pc := 9) 1 rfl dX11_checks_9 rfl ?_
    refine jo_cV_V_i (pc := 10) (μ' := mu_X11_ones) (fx := f_X11_ones σ x0) (As := [.int x0]) (c_X11_ones hw hN) (ok_X11_ones) (ltb rfl) (all3 gw_1587 gw_1589 gw_99) (ik_306 hw hN) (by decide) (q := (RX11, TX11, 39)) rfl rfl rfl rfl (Nat.le_of_ble_eq_true rfl) dX11_checks_10 (fun σ6 => ?_)
    exact jo_return (pc := 13) rfl rfl dX11_checks_13
theorem c_X11_checks {w : Wd} (hw : WOK w) (hN : wn w = NT) {σ : Mem} {x0 : Int32} : ∀ σ', f_X11_checks σ x0 = some σ' → MC w mu_X11_checks none [.ref (adr w 306), .int x0] σ σ' := mc_ofV ok_X11_checks rfl (Nat.le_of_ble_eq_true rfl) (t_X11_checks hw hN)
abbrev mu_X11_isFactor : MD := (yX11_isFactor, cX11_isFactor, 2, some .boolean, 0)
theorem ok_X11_isFactor : MOK mu_X11_isFactor 1 := ⟨gw_1680, gw_171, (by decide +kernel : plainFor yX11_isFactor = true), ⟨(by decide +kernel : yX11_isFactor.cls ≠ "java/lang/invoke/MethodHandle"), (by decide +kernel : yX11_isFactor.cls ≠ "java/lang/invoke/VarHandle"), (by decide +kernel : (parseMethodDescriptor yX11_isFactor.desc).map (fun d => d.parameters.length) = some 1)⟩, Nat.le_of_ble_eq_true rfl⟩
noncomputable def j_X11_isFactor_30  : Option Bool :=
  some true
noncomputable def j_X11_isFactor_12 (x0 : Int32) : Option (Unit ⊕ Bool) :=
  if x0 = 82 then (some (Sum.inl ())) else (if x0 = 40 then (some (Sum.inl ())) else (if x0 = 91 then (some (Sum.inl ())) else (some (Sum.inr false))))
noncomputable def f_X11_isFactor (σ : Mem) (x0 : Int32) : Option Bool :=
  ((if x0 < 97 then (some (Sum.inl ())) else (if x0 ≤ 102 then (some (Sum.inr (Sum.inl ()))) else (some (Sum.inl ()))) : Option (Unit ⊕ (Unit ⊕ Bool))).bind (Sum.elim (fun (z0 : Unit) => j_X11_isFactor_12 x0) some) : Option (Unit ⊕ Bool)).bind (Sum.elim (fun (z0 : Unit) => j_X11_isFactor_30) some)
theorem t_X11_isFactor {w : Wd} (hw : WOK w) (hN : wn w = NT) {σ : Mem} {x0 : Int32} : JO w mu_X11_isFactor vB σ [(0, .ref (adr w 306)), (1, .int x0)] [] 0 (f_X11_isFactor σ x0) (fun z => some (z, σ)) := by
  unfold f_X11_isFactor
  refine jo_iload_n (pc := 0) 1 rfl dX11_isFactor_0 rfl ?_
  refine jo_bipush (pc := 1) dX11_isFactor_1 (ic_b_97) ?_
  refine jo_joinS (S := Unit) (fun (z0 : Unit) => σ) (fun (z0 : Unit) => []) (fun (z0 : Unit) => []) 30 ?_ (fun h30_0 => ?_)
  · intro _
    show JO w mu_X11_isFactor vB σ [] [] 30 (j_X11_isFactor_30) _
    unfold j_X11_isFactor_30
    refine jo_iconst (pc := 30) dX11_isFactor_30 (ic_i_1) ?_
    refine jo_goto (pc := 31) dX11_isFactor_31 (tgt := 35) rfl ?_
    exact jo_breturn (pc := 35) (b := true) rfl rfl dX11_isFactor_35
  · refine jo_joinS (S := Unit) (fun (z0 : Unit) => σ) (fun (z0 : Unit) => [(1, .int x0)]) (fun (z0 : Unit) => []) 12 ?_ (fun h12_0 => ?_)
    · intro _
      show JO w mu_X11_isFactor vB σ [(1, .int x0)] [] 12 (j_X11_isFactor_12 x0) _
      unfold j_X11_isFactor_12
      refine jo_iload_n (pc := 12) 0 rfl dX11_isFactor_12 rfl ?_
      refine jo_bipush (pc := 13) dX11_isFactor_13 (ic_b_82) ?_
      refine jo_icmp_eq (pc := 15) dX11_isFactor_15 (tgt := 30) rfl ?_ ?_
      · refine jo_lv (lv' := []) [] rfl ?_
        exact jo_leaf (by rfl) (h30_0 ())
      · refine jo_iload_n (pc := 18) 0 rfl dX11_isFactor_18 rfl ?_
        refine jo_bipush (pc := 19) dX11_isFactor_19 (ic_b_40) ?_
        refine jo_icmp_eq (pc := 21) dX11_isFactor_21 (tgt := 30) rfl ?_ ?_
        · refine jo_lv (lv' := []) [] rfl ?_
          exact jo_leaf (by rfl) (h30_0 ())
        · refine jo_iload_n (pc := 24) 0 rfl dX11_isFactor_24 rfl ?_
          refine jo_bipush (pc := 25) dX11_isFactor_25 (ic_b_91) ?_
          refine jo_icmp_ne (pc := 27) dX11_isFactor_27 (tgt := 34) rfl ?_ ?_
          · refine jo_iconst (pc := 34) dX11_isFactor_34 (ic_i_0) ?_
            exact jo_breturn (pc := 35) (b := false) rfl rfl dX11_isFactor_35
          · refine jo_lv (lv' := []) [] rfl ?_
            exact jo_leaf (by rfl) (h30_0 ())
    · refine jo_icmp_lt (pc := 3) dX11_isFactor_3 (tgt := 12) rfl ?_ ?_
      · refine jo_lv (lv' := [(1, .int x0)]) [1] rfl ?_
        exact jo_leaf (by rfl) (h12_0 ())
      · refine jo_iload_n (pc := 6) 1 rfl dX11_isFactor_6 rfl ?_
        refine jo_bipush (pc := 7) dX11_isFactor_7 (ic_b_102) ?_
        refine jo_icmp_le (pc := 9) dX11_isFactor_9 (tgt := 30) rfl ?_ ?_
        · refine jo_lv (lv' := []) [] rfl ?_
          exact jo_leaf (by rfl) (h30_0 ())
        · refine jo_lv (lv' := [(1, .int x0)]) [1] rfl ?_
          exact jo_leaf (by rfl) (h12_0 ())
theorem c_X11_isFactor {w : Wd} (hw : WOK w) (hN : wn w = NT) {σ : Mem} {x0 : Int32} : ∀ r, f_X11_isFactor σ x0 = some r → MC w mu_X11_isFactor (vB r) [.ref (adr w 306), .int x0] σ σ := mc_ofP ok_X11_isFactor rfl (Nat.le_of_ble_eq_true rfl) (t_X11_isFactor hw hN)
abbrev mu_X11_must : MD := (yX11_must, cX11_must, 2, none, 2)
theorem ok_X11_must : MOK mu_X11_must 1 := ⟨gw_1700, gw_171, (by decide +kernel : plainFor yX11_must = true), ⟨(by decide +kernel : yX11_must.cls ≠ "java/lang/invoke/MethodHandle"), (by decide +kernel : yX11_must.cls ≠ "java/lang/invoke/VarHandle"), (by decide +kernel : (parseMethodDescriptor yX11_must.desc).map (fun d => d.parameters.length) = some 1)⟩, Nat.le_of_ble_eq_true rfl⟩
noncomputable def f_X11_must (σ : Mem) (x0 : Int32) : Option Mem :=
  (f_X11_isWrong σ).bind (fun (b1 : Bool) => if b1 then some σ else bq (f_X11_behindBlanks σ) (fun (v2 : Int32) (σ3 : Mem) => if v2 = x0 then (gF σ3 306 21 (fun (v4 : Int32) => pF σ3 306 21 (v4 + 1) (fun (σ5 : Mem) => some σ5))) else (gF σ3 306 21 (fun (v6 : Int32) => (f_X11_errs σ3 1 v6).bind (fun (σ7 : Mem) => some σ7)))))
theorem t_X11_must {w : Wd} (hw : WOK w) (hN : wn w = NT) {σ : Mem} {x0 : Int32} : JO w mu_X11_must vV σ [(0, .ref (adr w 306)), (1, .int x0)] [] 0 (f_X11_must σ x0) (fun z => some ((), z)) := by
  unfold f_X11_must
  refine jo_aload_n (pc := 0) 0 rfl dX11_must_0 rfl ?_
  refine jo_cV_Z_p (pc := 1) (μ' := mu_X11_isWrong) (fx := f_X11_isWrong σ) (As := []) (c_X11_isWrong hw hN) (ok_X11_isWrong) (ltb rfl) (all3 gw_1665 gw_1667 gw_110) (ik_306 hw hN) (by decide) (q := (RX11, TX11, 39)) rfl rfl rfl rfl (Nat.le_of_ble_eq_true rfl) dX11_must_1 (fun b1 => ?_)
  refine jo_ifz_eq (pc := 4) dX11_must_4 (tgt := 8) rfl ?_ ?_
  · refine jo_aload_n (pc := 8) 0 rfl dX11_must_8 rfl ?_
    refine jo_cV_I_i (pc := 9) (μ' := mu_X11_behindBlanks) (fx := f_X11_behindBlanks σ) (As := []) (c_X11_behindBlanks hw hN) (ok_X11_behindBlanks) (ltb rfl) (all3 gw_1669 gw_1671 gw_111) (ik_306 hw hN) (by decide) (q := (RX11, TX11, 39)) rfl rfl rfl rfl (Nat.le_of_ble_eq_true rfl) dX11_must_9 (fun v2 σ3 => ?_)
    refine jo_iload_n (pc := 12) 1 rfl dX11_must_12 rfl ?_
    refine jo_icmp_eq (pc := 13) dX11_must_13 (tgt := 28) rfl ?_ ?_
    · refine jo_aload_n (pc := 28) 0 rfl dX11_must_28 rfl ?_
      refine jo_aload_n (pc := 29) 0 rfl dX11_must_29 rfl ?_
      refine jo_getf (pc := 30) ok_11_21 (ik_306 hw hN) gw_1314 dX11_must_30 (fun v4 => ?_)
      refine jo_iconst (pc := 33) dX11_must_33 (ic_i_1) ?_
      refine jo_iadd (pc := 34) dX11_must_34 ?_
      refine jo_putf (pc := 35) ok_11_21 okp_11_21 (ik_306 hw hN) gw_1314 dX11_must_35 (fun σ5 => ?_)
      exact jo_return (pc := 38) rfl rfl dX11_must_38
    · refine jo_aload_n (pc := 16) 0 rfl dX11_must_16 rfl ?_
      refine jo_iconst (pc := 17) dX11_must_17 (ic_i_1) ?_
      refine jo_aload_n (pc := 18) 0 rfl dX11_must_18 rfl ?_
      refine jo_getf (pc := 19) ok_11_21 (ik_306 hw hN) gw_1314 dX11_must_19 (fun v6 => ?_)
      refine jo_cV_V_i (pc := 22) (μ' := mu_X11_errs) (fx := f_X11_errs σ3 1 v6) (As := [.int 1, .int v6]) (c_X11_errs hw hN) (ok_X11_errs) (ltb rfl) (all3 gw_1685 gw_1687 gw_115) (ik_306 hw hN) (by decide) (q := (RX11, TX11, 39)) rfl rfl rfl rfl (Nat.le_of_ble_eq_true rfl) dX11_must_22 (fun σ7 => ?_)
      refine jo_goto (pc := 25) dX11_must_25 (tgt := 38) rfl ?_
      exact jo_return (pc := 38) rfl rfl dX11_must_38
  · exact jo_return (pc := 7) rfl rfl dX11_must_7
theorem c_X11_must {w : Wd} (hw : WOK w) (hN : wn w = NT) {σ : Mem} {x0 : Int32} : ∀ σ', f_X11_must σ x0 = some σ' → MC w mu_X11_must none [.ref (adr w 306), .int x0] σ σ' := mc_ofV ok_X11_must rfl (Nat.le_of_ble_eq_true rfl) (t_X11_must hw hN)
abbrev mu_X11_readPower : MD := (yX11_readPower, cX11_readPower, 6, none, 6)
theorem ok_X11_readPower : MOK mu_X11_readPower 1 := ⟨gw_1712, gw_171, (by decide +kernel : plainFor yX11_readPower = true), ⟨(by decide +kernel : yX11_readPower.cls ≠ "java/lang/invoke/MethodHandle"), (by decide +kernel : yX11_readPower.cls ≠ "java/lang/invoke/VarHandle"), (by decide +kernel : (parseMethodDescriptor yX11_readPower.desc).map (fun d => d.parameters.length) = some 1)⟩, Nat.le_of_ble_eq_true rfl⟩
noncomputable def j_X11_readPower_193 (x0 : Int32) (σ17 : Mem) (i18 : Int32) : Option Mem :=
  (f_X11_raises σ17 x0 (x0 + 1) i18).bind (fun (σ19 : Mem) => (f_X11_copies σ19 (x0 + 1) x0).bind (fun (σ20 : Mem) => (f_X11_checks σ20 x0).bind (fun (σ21 : Mem) => some σ21)))
noncomputable def j_X11_readPower_153 (x0 : Int32) (b9 : Bool) (v11 : Int32) (σ14 : Mem) (i15 : Int32) : Option Mem :=
  if i15 ≤ 99 then (gF σ14 306 21 (fun (v16 : Int32) => pF σ14 306 23 v16 (fun (σ17 : Mem) => (if b9 then some (-i15) else some i15 : Option Int32).bind (fun (z18 : Int32) => j_X11_readPower_193 x0 σ17 z18)))) else ((f_X11_errs σ14 2 v11).bind (fun (σ22 : Mem) => some σ22))
noncomputable def j_X11_readPower_138 (σ23 : Mem) (i27 : Int32) : Option ((Mem × Int32) ⊕ (Mem × Int32)) :=
  gF σ23 306 21 (fun (v28 : Int32) => pF σ23 306 21 (v28 + 1) (fun (σ29 : Mem) => some (Sum.inl (σ29, i27))))
noncomputable def l_X11_readPower_102 (σ23 : Mem) (i24 : Int32) : Option ((Mem × Int32) ⊕ (Mem × Int32)) :=
  (f_X11_here σ23).bind (fun (v25 : Int32) => (f_X11_isDigit σ23 v25).bind (fun (b26 : Bool) => if b26 then (if i24 ≤ 99 then ((f_X11_here σ23).bind (fun (v30 : Int32) => some (((10 * i24) + v30) - 48))) else (some i24) : Option Int32).bind (fun (z27 : Int32) => j_X11_readPower_138 σ23 z27) else some (Sum.inr (σ23, i24))))
noncomputable def j_X11_readPower_72 (x0 : Int32) (b9 : Bool) (σ10 : Mem) : Option Mem :=
  gF σ10 306 21 (fun (v11 : Int32) => (f_X11_here σ10).bind (fun (v12 : Int32) => (f_X11_isDigit σ10 v12).bind (fun (b13 : Bool) => if b13 then (loopO (fun (z24 : (Mem × Int32)) => l_X11_readPower_102 z24.1 z24.2) (σ10, 0) : Option (Mem × Int32)).bind (fun (z15 : (Mem × Int32)) => j_X11_readPower_153 x0 b9 v11 z15.1 z15.2) else gF σ10 306 21 (fun (v31 : Int32) => (f_X11_errs σ10 1 v31).bind (fun (σ32 : Mem) => some σ32)))))
noncomputable def j_X11_readPower_52 (x0 : Int32) (σ8 : Mem) (b9 : Bool) : Option Mem :=
  (if b9 then gF σ8 306 21 (fun (v33 : Int32) => pF σ8 306 21 (v33 + 1) (fun (σ34 : Mem) => bq (f_X11_behindBlanks σ34) (fun (v35 : Int32) (σ36 : Mem) => some σ36))) else some σ8 : Option Mem).bind (fun (z10 : Mem) => j_X11_readPower_72 x0 b9 z10)
noncomputable def f_X11_readPower (σ : Mem) (x0 : Int32) : Option Mem :=
  (f_X11_isWrong σ).bind (fun (b1 : Bool) => if b1 then some σ else gF σ 306 21 (fun (v2 : Int32) => bq (f_X11_behindBlanks σ) (fun (v3 : Int32) (σ4 : Mem) => if v3 = 94 then (gF σ4 306 21 (fun (v5 : Int32) => pF σ4 306 21 (v5 + 1) (fun (σ6 : Mem) => bq (f_X11_behindBlanks σ6) (fun (v7 : Int32) (σ8 : Mem) => (if v7 = 45 then (some true) else (some false) : Option Bool).bind (fun (z9 : Bool) => j_X11_readPower_52 x0 σ8 z9))))) else (pF σ4 306 21 v2 (fun (σ37 : Mem) => some σ37)))))
theorem t_X11_readPower {w : Wd} (hw : WOK w) (hN : wn w = NT) {σ : Mem} {x0 : Int32} : JO w mu_X11_readPower vV σ [(0, .ref (adr w 306)), (1, .int x0)] [] 0 (f_X11_readPower σ x0) (fun z => some ((), z)) := by
  unfold f_X11_readPower
  refine jo_aload_n (pc := 0) 0 rfl dX11_readPower_0 rfl ?_
  refine jo_cV_Z_p (pc := 1) (μ' := mu_X11_isWrong) (fx := f_X11_isWrong σ) (As := []) (c_X11_isWrong hw hN) (ok_X11_isWrong) (ltb rfl) (all3 gw_1665 gw_1667 gw_110) (ik_306 hw hN) (by decide) (q := (RX11, TX11, 39)) rfl rfl rfl rfl (Nat.le_of_ble_eq_true rfl) dX11_readPower_1 (fun b1 => ?_)
  refine jo_ifz_eq (pc := 4) dX11_readPower_4 (tgt := 8) rfl ?_ ?_
  · refine jo_aload_n (pc := 8) 0 rfl dX11_readPower_8 rfl ?_
    refine jo_getf (pc := 9) ok_11_21 (ik_306 hw hN) gw_1314 dX11_readPower_9 (fun v2 => ?_)
    refine jo_istore_n (pc := 12) (lv' := [(2, .int v2), (0, .ref (adr w 306)), (1, .int x0)]) dX11_readPower_12 rfl (ltb rfl) rfl ?_
    refine jo_aload_n (pc := 13) 1 rfl dX11_readPower_13 rfl ?_
    refine jo_cV_I_i (pc := 14) (μ' := mu_X11_behindBlanks) (fx := f_X11_behindBlanks σ) (As := []) (c_X11_behindBlanks hw hN) (ok_X11_behindBlanks) (ltb rfl) (all3 gw_1669 gw_1671 gw_111) (ik_306 hw hN) (by decide) (q := (RX11, TX11, 39)) rfl rfl rfl rfl (Nat.le_of_ble_eq_true rfl) dX11_readPower_14 (fun v3 σ4 => ?_)
    refine jo_bipush (pc := 17) dX11_readPower_17 (ic_b_94) ?_
    refine jo_icmp_eq (pc := 19) dX11_readPower_19 (tgt := 28) rfl ?_ ?_
    · refine jo_aload_n (pc := 28) 1 rfl dX11_readPower_28 rfl ?_
      refine jo_aload_n (pc := 29) 1 rfl dX11_readPower_29 rfl ?_
      refine jo_getf (pc := 30) ok_11_21 (ik_306 hw hN) gw_1314 dX11_readPower_30 (fun v5 => ?_)
      refine jo_iconst (pc := 33) dX11_readPower_33 (ic_i_1) ?_
      refine jo_iadd (pc := 34) dX11_readPower_34 ?_
      refine jo_putf (pc := 35) ok_11_21 okp_11_21 (ik_306 hw hN) gw_1314 dX11_readPower_35 (fun σ6 => ?_)
      refine jo_aload_n (pc := 38) 1 rfl dX11_readPower_38 rfl ?_
      refine jo_cV_I_i (pc := 39) (μ' := mu_X11_behindBlanks) (fx := f_X11_behindBlanks σ6) (As := []) (c_X11_behindBlanks hw hN) (ok_X11_behindBlanks) (ltb rfl) (all3 gw_1669 gw_1671 gw_111) (ik_306 hw hN) (by decide) (q := (RX11, TX11, 39)) rfl rfl rfl rfl (Nat.le_of_ble_eq_true rfl) dX11_readPower_39 (fun v7 σ8 => ?_)
      refine jo_bipush (pc := 42) dX11_readPower_42 (ic_b_45) ?_
      refine jo_join1 (S := Bool) (fun (z9 : Bool) => σ8) (fun (z9 : Bool) => [(0, .ref (adr w 306)), (1, .int x0)]) (fun (z9 : Bool) => [.int (b2i z9)]) 52 ?_ (fun h52_9 => ?_)
      · intro b9
        show JO w mu_X11_readPower vV σ8 [(0, .ref (adr w 306)), (1, .int x0)] [.int (b2i b9)] 52 (j_X11_readPower_52 x0 σ8 b9) _
        unfold j_X11_readPower_52
        refine jo_istore_n (pc := 52) (lv' := [(3, .int (b2i b9)), (0, .ref (adr w 306)), (1, .int x0)]) dX11_readPower_52 rfl (ltb rfl) rfl ?_
        refine jo_iload_n (pc := 53) 0 rfl dX11_readPower_53 rfl ?_
        refine jo_join1 (S := Mem) (fun (z10 : Mem) => z10) (fun (z10 : Mem) => [(3, .int (b2i b9)), (0, .ref (adr w 306)), (1, .int x0)]) (fun (z10 : Mem) => []) 72 ?_ (fun h72_10 => ?_)
        · intro σ10
          show JO w mu_X11_readPower vV σ10 [(3, .int (b2i b9)), (0, .ref (adr w 306)), (1, .int x0)] [] 72 (j_X11_readPower_72 x0 b9 σ10) _
          unfold j_X11_readPower_72
          refine jo_aload_n (pc := 72) 1 rfl dX11_readPower_72 rfl ?_
          refine jo_getf (pc := 73) ok_11_21 (ik_306 hw hN) gw_1314 dX11_readPower_73 (fun v11 => ?_)
          refine jo_istore (pc := 76) (lv' := [(4, .int v11), (3, .int (b2i b9)), (0, .ref (adr w 306)), (1, .int x0)]) dX11_readPower_76 (ltb rfl) rfl ?_
          refine jo_aload_n (pc := 78) 2 rfl dX11_readPower_78 rfl ?_
          refine jo_aload_n (pc := 79) 2 rfl dX11_readPower_79 rfl ?_
          refine jo_cV_I_p (pc := 80) (μ' := mu_X11_here) (fx := f_X11_here σ10) (As := []) (c_X11_here hw hN) (ok_X11_here) (ltb rfl) (all3 gw_1673 gw_1675 gw_112) (ik_306 hw hN) (by decide) (q := (RX11, TX11, 39)) rfl rfl rfl rfl (Nat.le_of_ble_eq_true rfl) dX11_readPower_80 (fun v12 => ?_)
          refine jo_cV_Z_p (pc := 83) (μ' := mu_X11_isDigit) (fx := f_X11_isDigit σ10 v12) (As := [.int v12]) (c_X11_isDigit hw hN) (ok_X11_isDigit) (ltb rfl) (all3 gw_1689 gw_1691 gw_116) (ik_306 hw hN) (by decide) (q := (RX11, TX11, 39)) rfl rfl rfl rfl (Nat.le_of_ble_eq_true rfl) dX11_readPower_83 (fun b13 => ?_)
          refine jo_ifz_ne (pc := 86) dX11_readPower_86 (tgt := 99) rfl ?_ ?_
          · refine jo_iconst (pc := 99) dX11_readPower_99 (ic_i_0) ?_
            refine jo_istore (pc := 100) (lv' := [(5, .int 0), (4, .int v11), (3, .int (b2i b9)), (0, .ref (adr w 306)), (1, .int x0)]) dX11_readPower_100 (ltb rfl) rfl ?_
            refine jo_join1 (S := (Mem × Int32)) (fun (z15 : (Mem × Int32)) => z15.1) (fun (z15 : (Mem × Int32)) => [(4, .int v11), (3, .int (b2i b9)), (0, .ref (adr w 306)), (1, .int x0), (5, .int z15.2)]) (fun (z15 : (Mem × Int32)) => []) 153 ?_ (fun h153_15 => ?_)
            · intro s
              obtain ⟨σ14, i15⟩ := s
              show JO w mu_X11_readPower vV σ14 [(4, .int v11), (3, .int (b2i b9)), (0, .ref (adr w 306)), (1, .int x0), (5, .int i15)] [] 153 (j_X11_readPower_153 x0 b9 v11 σ14 i15) _
              unfold j_X11_readPower_153
              refine jo_iload (pc := 153) 4 rfl dX11_readPower_153 ?_
              refine jo_bipush (pc := 155) dX11_readPower_155 (ic_b_99) ?_
              refine jo_icmp_le (pc := 157) dX11_readPower_157 (tgt := 168) rfl ?_ ?_
              · refine jo_aload_n (pc := 168) 2 rfl dX11_readPower_168 rfl ?_
                refine jo_aload_n (pc := 169) 2 rfl dX11_readPower_169 rfl ?_
                refine jo_getf (pc := 170) ok_11_21 (ik_306 hw hN) gw_1314 dX11_readPower_170 (fun v16 => ?_)
                refine jo_putf (pc := 173) ok_11_23 okp_11_23 (ik_306 hw hN) gw_1316 dX11_readPower_173 (fun σ17 => ?_)
                refine jo_aload_n (pc := 176) 2 rfl dX11_readPower_176 rfl ?_
                refine jo_iload_n (pc := 177) 3 rfl dX11_readPower_177 rfl ?_
                refine jo_iload_n (pc := 178) 3 rfl dX11_readPower_178 rfl ?_
                refine jo_iconst (pc := 179) dX11_readPower_179 (ic_i_1) ?_
                refine jo_iadd (pc := 180) dX11_readPower_180 ?_
                refine jo_iload_n (pc := 181) 1 rfl dX11_readPower_181 rfl ?_
                refine jo_join1 (S := Int32) (fun (z18 : Int32) => σ17) (fun (z18 : Int32) => [(0, .ref (adr w 306)), (1, .int x0)]) (fun (z18 : Int32) => [.int z18, .int (x0 + 1), .int x0, .ref (adr w 306)]) 193 ?_ (fun h193_18 => ?_)
                · intro i18
                  show JO w mu_X11_readPower vV σ17 [(0, .ref (adr w 306)), (1, .int x0)] [.int i18, .int (x0 + 1), .int x0, .ref (adr w 306)] 193 (j_X11_readPower_193 x0 σ17 i18) _
                  unfold j_X11_readPower_193
                  refine jo_cV_V_i (pc := 193) (μ' := mu_X11_raises) (fx := f_X11_raises σ17 x0 (x0 + 1) i18) (As := [.int x0, .int (x0 + 1), .int i18]) (c_X11_raises hw hN) (ok_X11_raises) (ltb rfl) (all3 gw_1601 gw_1603 gw_101) (ik_306 hw hN) (by decide) (q := (RX11, TX11, 39)) rfl rfl rfl rfl (Nat.le_of_ble_eq_true rfl) dX11_readPower_193 (fun σ19 => ?_)
                  refine jo_aload_n (pc := 196) 0 rfl dX11_readPower_196 rfl ?_
                  refine jo_iload_n (pc := 197) 1 rfl dX11_readPower_197 rfl ?_
                  refine jo_iconst (pc := 198) dX11_readPower_198 (ic_i_1) ?_
                  refine jo_iadd (pc := 199) dX11_readPower_199 ?_
                  refine jo_iload_n (pc := 200) 1 rfl dX11_readPower_200 rfl ?_
                  refine jo_cV_V_i (pc := 201) (μ' := mu_X11_copies) (fx := f_X11_copies σ19 (x0 + 1) x0) (As := [.int (x0 + 1), .int x0]) (c_X11_copies hw hN) (ok_X11_copies) (ltb rfl) (all3 gw_1591 gw_1593 gw_100) (ik_306 hw hN) (by decide) (q := (RX11, TX11, 39)) rfl rfl rfl rfl (Nat.le_of_ble_eq_true rfl) dX11_readPower_201 (fun σ20 => ?_)
                  refine jo_aload_n (pc := 204) 0 rfl dX11_readPower_204 rfl ?_
                  refine jo_iload_n (pc := 205) 1 rfl dX11_readPower_205 rfl ?_
                  refine jo_cV_V_i (pc := 206) (μ' := mu_X11_checks) (fx := f_X11_checks σ20 x0) (As := [.int x0]) (c_X11_checks hw hN) (ok_X11_checks) (ltb rfl) (all3 gw_1705 gw_1707 gw_120) (ik_306 hw hN) (by decide) (q := (RX11, TX11, 39)) rfl rfl rfl rfl (Nat.le_of_ble_eq_true rfl) dX11_readPower_206 (fun σ21 => ?_)
                  exact jo_return (pc := 209) rfl rfl dX11_readPower_209
                · refine jo_ifz_eq (pc := 182) dX11_readPower_182 (tgt := 191) rfl ?_ ?_
                  · refine jo_iload (pc := 191) 4 rfl dX11_readPower_191 ?_
                    refine jo_lv (lv' := [(0, .ref (adr w 306)), (1, .int x0)]) [2, 3] rfl ?_
                    exact jo_leaf (by rfl) (h193_18 i15)
                  · refine jo_iload (pc := 185) 4 rfl dX11_readPower_185 ?_
                    refine jo_ineg (pc := 187) dX11_readPower_187 ?_
                    refine jo_goto (pc := 188) dX11_readPower_188 (tgt := 193) rfl ?_
                    refine jo_lv (lv' := [(0, .ref (adr w 306)), (1, .int x0)]) [2, 3] rfl ?_
                    exact jo_leaf (by rfl) (h193_18 (-i15))
              · refine jo_aload_n (pc := 160) 2 rfl dX11_readPower_160 rfl ?_
                refine jo_iconst (pc := 161) dX11_readPower_161 (ic_i_2) ?_
                refine jo_iload (pc := 162) 0 rfl dX11_readPower_162 ?_
                refine jo_cV_V_i (pc := 164) (μ' := mu_X11_errs) (fx := f_X11_errs σ14 2 v11) (As := [.int 2, .int v11]) (c_X11_errs hw hN) (ok_X11_errs) (ltb rfl) (all3 gw_1685 gw_1687 gw_115) (ik_306 hw hN) (by decide) (q := (RX11, TX11, 39)) rfl rfl rfl rfl (Nat.le_of_ble_eq_true rfl) dX11_readPower_164 (fun σ22 => ?_)
                exact jo_return (pc := 167) rfl rfl dX11_readPower_167
            · refine jo_lv (lv' := [(4, .int v11), (3, .int (b2i b9)), (0, .ref (adr w 306)), (1, .int x0), (5, .int 0)]) [1, 2, 3, 4, 0] rfl ?_
              refine jo_loop (X := (Mem × Int32)) (fun (z24 : (Mem × Int32)) => z24.1) (fun (z24 : (Mem × Int32)) => [(4, .int v11), (3, .int (b2i b9)), (0, .ref (adr w 306)), (1, .int x0), (5, .int z24.2)]) (body := (fun (z24 : (Mem × Int32)) => l_X11_readPower_102 z24.1 z24.2)) (fun F102_24 hF102_24 s => ?_) (σ10, 0)
              obtain ⟨σ23, i24⟩ := s
              show JO w mu_X11_readPower vV σ23 [(4, .int v11), (3, .int (b2i b9)), (0, .ref (adr w 306)), (1, .int x0), (5, .int i24)] [] 102 (l_X11_readPower_102 σ23 i24) _
              unfold l_X11_readPower_102
              refine jo_aload_n (pc := 102) 2 rfl dX11_readPower_102 rfl ?_
              refine jo_aload_n (pc := 103) 2 rfl dX11_readPower_103 rfl ?_
              refine jo_cV_I_p (pc := 104) (μ' := mu_X11_here) (fx := f_X11_here σ23) (As := []) (c_X11_here hw hN) (ok_X11_here) (ltb rfl) (all3 gw_1673 gw_1675 gw_112) (ik_306 hw hN) (by decide) (q := (RX11, TX11, 39)) rfl rfl rfl rfl (Nat.le_of_ble_eq_true rfl) dX11_readPower_104 (fun v25 => ?_)
              refine jo_cV_Z_p (pc := 107) (μ' := mu_X11_isDigit) (fx := f_X11_isDigit σ23 v25) (As := [.int v25]) (c_X11_isDigit hw hN) (ok_X11_isDigit) (ltb rfl) (all3 gw_1689 gw_1691 gw_116) (ik_306 hw hN) (by decide) (q := (RX11, TX11, 39)) rfl rfl rfl rfl (Nat.le_of_ble_eq_true rfl) dX11_readPower_107 (fun b26 => ?_)
              refine jo_ifz_eq (pc := 110) dX11_readPower_110 (tgt := 153) rfl ?_ ?_
              · exact jo_leaf (by rfl) (h153_15 (σ23, i24))
              · refine jo_iload (pc := 113) 4 rfl dX11_readPower_113 ?_
                refine jo_bipush (pc := 115) dX11_readPower_115 (ic_b_99) ?_
                refine jo_join1 (S := Int32) (fun (z27 : Int32) => σ23) (fun (z27 : Int32) => [(4, .int v11), (3, .int (b2i b9)), (0, .ref (adr w 306)), (1, .int x0)]) (fun (z27 : Int32) => [.int z27]) 138 ?_ (fun h138_27 => ?_)
                · intro i27
                  show JO w mu_X11_readPower vV σ23 [(4, .int v11), (3, .int (b2i b9)), (0, .ref (adr w 306)), (1, .int x0)] [.int i27] 138 (j_X11_readPower_138 σ23 i27) _
                  unfold j_X11_readPower_138
                  refine jo_istore (pc := 138) (lv' := [(5, .int i27), (4, .int v11), (3, .int (b2i b9)), (0, .ref (adr w 306)), (1, .int x0)]) dX11_readPower_138 (ltb rfl) rfl ?_
                  refine jo_aload_n (pc := 140) 3 rfl dX11_readPower_140 rfl ?_
                  refine jo_aload_n (pc := 141) 3 rfl dX11_readPower_141 rfl ?_
                  refine jo_getf (pc := 142) ok_11_21 (ik_306 hw hN) gw_1314 dX11_readPower_142 (fun v28 => ?_)
                  refine jo_iconst (pc := 145) dX11_readPower_145 (ic_i_1) ?_
                  refine jo_iadd (pc := 146) dX11_readPower_146 ?_
                  refine jo_putf (pc := 147) ok_11_21 okp_11_21 (ik_306 hw hN) gw_1314 dX11_readPower_147 (fun σ29 => ?_)
                  refine jo_goto (pc := 150) dX11_readPower_150 (tgt := 102) rfl ?_
                  refine jo_lv (lv' := [(4, .int v11), (3, .int (b2i b9)), (0, .ref (adr w 306)), (1, .int x0), (5, .int i27)]) [1, 2, 3, 4, 0] rfl ?_
                  exact jo_leaf (by rfl) (hF102_24 (σ29, i27))
                · refine jo_icmp_le (pc := 117) dX11_readPower_117 (tgt := 125) rfl ?_ ?_
                  · refine jo_bipush (pc := 125) dX11_readPower_125 (ic_b_10) ?_
                    refine jo_iload (pc := 127) 4 rfl dX11_readPower_127 ?_
                    refine jo_imul (pc := 129) dX11_readPower_129 ?_
                    refine jo_aload_n (pc := 130) 2 rfl dX11_readPower_130 rfl ?_
                    refine jo_cV_I_p (pc := 131) (μ' := mu_X11_here) (fx := f_X11_here σ23) (As := []) (c_X11_here hw hN) (ok_X11_here) (ltb rfl) (all3 gw_1673 gw_1675 gw_112) (ik_306 hw hN) (by decide) (q := (RX11, TX11, 39)) rfl rfl rfl rfl (Nat.le_of_ble_eq_true rfl) dX11_readPower_131 (fun v30 => ?_)
                    refine jo_iadd (pc := 134) dX11_readPower_134 ?_
                    refine jo_bipush (pc := 135) dX11_readPower_135 (ic_b_48) ?_
                    refine jo_isub (pc := 137) dX11_readPower_137 ?_
                    refine jo_lv (lv' := [(4, .int v11), (3, .int (b2i b9)), (0, .ref (adr w 306)), (1, .int x0)]) [0, 1, 2, 3] rfl ?_
                    exact jo_leaf (by rfl) (h138_27 (((10 * i24) + v30) - 48))
                  · refine jo_iload (pc := 120) 4 rfl dX11_readPower_120 ?_
                    refine jo_goto (pc := 122) dX11_readPower_122 (tgt := 138) rfl ?_
                    refine jo_lv (lv' := [(4, .int v11), (3, .int (b2i b9)), (0, .ref (adr w 306)), (1, .int x0)]) [0, 1, 2, 3] rfl ?_
                    exact jo_leaf (by rfl) (h138_27 i24)
          · refine jo_aload_n (pc := 89) 2 rfl dX11_readPower_89 rfl ?_
            refine jo_iconst (pc := 90) dX11_readPower_90 (ic_i_1) ?_
            refine jo_aload_n (pc := 91) 2 rfl dX11_readPower_91 rfl ?_
            refine jo_getf (pc := 92) ok_11_21 (ik_306 hw hN) gw_1314 dX11_readPower_92 (fun v31 => ?_)
            refine jo_cV_V_i (pc := 95) (μ' := mu_X11_errs) (fx := f_X11_errs σ10 1 v31) (As := [.int 1, .int v31]) (c_X11_errs hw hN) (ok_X11_errs) (ltb rfl) (all3 gw_1685 gw_1687 gw_115) (ik_306 hw hN) (by decide) (q := (RX11, TX11, 39)) rfl rfl rfl rfl (Nat.le_of_ble_eq_true rfl) dX11_readPower_95 (fun σ32 => ?_)
            exact jo_return (pc := 98) rfl rfl dX11_readPower_98
        · refine jo_ifz_eq (pc := 54) dX11_readPower_54 (tgt := 72) rfl ?_ ?_
          · exact jo_leaf (by rfl) (h72_10 σ8)
          · refine jo_aload_n (pc := 57) 1 rfl dX11_readPower_57 rfl ?_
            refine jo_aload_n (pc := 58) 1 rfl dX11_readPower_58 rfl ?_
            refine jo_getf (pc := 59) ok_11_21 (ik_306 hw hN) gw_1314 dX11_readPower_59 (fun v33 => ?_)
            refine jo_iconst (pc := 62) dX11_readPower_62 (ic_i_1) ?_
            refine jo_iadd (pc := 63) dX11_readPower_63 ?_
            refine jo_putf (pc := 64) ok_11_21 okp_11_21 (ik_306 hw hN) gw_1314 dX11_readPower_64 (fun σ34 => ?_)
            refine jo_aload_n (pc := 67) 1 rfl dX11_readPower_67 rfl ?_
            refine jo_cV_I_i (pc := 68) (μ' := mu_X11_behindBlanks) (fx := f_X11_behindBlanks σ34) (As := []) (c_X11_behindBlanks hw hN) (ok_X11_behindBlanks) (ltb rfl) (all3 gw_1669 gw_1671 gw_111) (ik_306 hw hN) (by decide) (q := (RX11, TX11, 39)) rfl rfl rfl rfl (Nat.le_of_ble_eq_true rfl) dX11_readPower_68 (fun v35 σ36 => ?_)
            refine jo_pop (pc := 71) dX11_readPower_71 rfl ?_
            exact jo_leaf (by rfl) (h72_10 σ36)
      · refine jo_icmp_ne (pc := 44) dX11_readPower_44 (tgt := 51) rfl ?_ ?_
        · refine jo_iconst (pc := 51) dX11_readPower_51 (ic_i_0) ?_
          refine jo_lv (lv' := [(0, .ref (adr w 306)), (1, .int x0)]) [1, 2] rfl ?_
          exact jo_leaf (by rfl) (h52_9 false)
        · refine jo_iconst (pc := 47) dX11_readPower_47 (ic_i_1) ?_
          refine jo_goto (pc := 48) dX11_readPower_48 (tgt := 52) rfl ?_
          refine jo_lv (lv' := [(0, .ref (adr w 306)), (1, .int x0)]) [1, 2] rfl ?_
          exact jo_leaf (by rfl) (h52_9 true)
    · refine jo_aload_n (pc := 22) 1 rfl dX11_readPower_22 rfl ?_
      refine jo_iload_n (pc := 23) 0 rfl dX11_readPower_23 rfl ?_
      refine jo_putf (pc := 24) ok_11_21 okp_11_21 (ik_306 hw hN) gw_1314 dX11_readPower_24 (fun σ37 => ?_)
      exact jo_return (pc := 27) rfl rfl dX11_readPower_27
  · exact jo_return (pc := 7) rfl rfl dX11_readPower_7
theorem c_X11_readPower {w : Wd} (hw : WOK w) (hN : wn w = NT) {σ : Mem} {x0 : Int32} : ∀ σ', f_X11_readPower σ x0 = some σ' → MC w mu_X11_readPower none [.ref (adr w 306), .int x0] σ σ' := mc_ofV ok_X11_readPower rfl (Nat.le_of_ble_eq_true rfl) (t_X11_readPower hw hN)
abbrev mu_X11_readWord (d : Nat) : MD := (yX11_readWord, cX11_readWord, 2, none, 7 + d)
theorem ok_X11_readWord (d : Nat) : MOK (mu_X11_readWord d) 1 := ⟨gw_1664, gw_171, (by decide +kernel : plainFor yX11_readWord = true), ⟨(by decide +kernel : yX11_readWord.cls ≠ "java/lang/invoke/MethodHandle"), (by decide +kernel : yX11_readWord.cls ≠ "java/lang/invoke/VarHandle"), (by decide +kernel : (parseMethodDescriptor yX11_readWord.desc).map (fun d => d.parameters.length) = some 1)⟩, Nat.le_of_ble_eq_true rfl⟩
abbrev mu_X11_readCommutator (d : Nat) : MD := (yX11_readCommutator, cX11_readCommutator, 3, none, 7 + d + 1)
theorem ok_X11_readCommutator (d : Nat) : MOK (mu_X11_readCommutator d) 1 := ⟨gw_1704, gw_171, (by decide +kernel : plainFor yX11_readCommutator = true), ⟨(by decide +kernel : yX11_readCommutator.cls ≠ "java/lang/invoke/MethodHandle"), (by decide +kernel : yX11_readCommutator.cls ≠ "java/lang/invoke/VarHandle"), (by decide +kernel : (parseMethodDescriptor yX11_readCommutator.desc).map (fun d => d.parameters.length) = some 1)⟩, Nat.le_of_ble_eq_true rfl⟩
noncomputable def j_X11_readCommutator_82 (rec : Mem → Int32 → Option Mem) (σ1 : Mem) : Option Mem :=
  (f_X11_must σ1 93).bind (fun (σ2 : Mem) => some σ2)
noncomputable def j_X11_readCommutator_22 (rec : Mem → Int32 → Option Mem) (x0 : Int32) (i4 : Int32) (σ6 : Mem) : Option ((Mem × Int32) ⊕ (Mem ⊕ Mem)) :=
  (f_X11_must σ6 44).bind (fun (σ7 : Mem) => gF σ7 306 21 (fun (v8 : Int32) => pF σ7 306 23 v8 (fun (σ9 : Mem) => (rec σ9 (x0 + 1)).bind (fun (σ10 : Mem) => (f_X11_isWrong σ10).bind (fun (b11 : Bool) => if b11 then some (Sum.inr (Sum.inr σ10)) else (f_X11_commutator σ10 x0 (x0 + 1) (x0 + 2)).bind (fun (σ12 : Mem) => (f_X11_copies σ12 (x0 + 2) x0).bind (fun (σ13 : Mem) => (f_X11_checks σ13 x0).bind (fun (σ14 : Mem) => bd (i4 + 1) (fun (v15 : Int32) => some (Sum.inl (σ14, v15)))))))))))
noncomputable def l_X11_readCommutator_2 (rec : Mem → Int32 → Option Mem) (x0 : Int32) (σ3 : Mem) (i4 : Int32) : Option ((Mem × Int32) ⊕ (Mem ⊕ Mem)) :=
  (f_X11_isWrong σ3).bind (fun (b5 : Bool) => if b5 then some (Sum.inr (Sum.inl σ3)) else (if i4 = 0 then (some (Sum.inl σ3)) else (bq (f_X11_behindBlanks σ3) (fun (v16 : Int32) (σ17 : Mem) => if v16 = 44 then (some (Sum.inl σ17)) else (some (Sum.inr (Sum.inr (Sum.inl σ17)))))) : Option (Mem ⊕ ((Mem × Int32) ⊕ (Mem ⊕ Mem)))).bind (Sum.elim (fun (z6 : Mem) => j_X11_readCommutator_22 rec x0 i4 z6) some))
noncomputable def o_X11_readCommutator (rec : Mem → Int32 → Option Mem) (σ : Mem) (x0 : Int32) : Option Mem :=
  (loopO (fun (z4 : (Mem × Int32)) => l_X11_readCommutator_2 rec x0 z4.1 z4.2) (σ, 0) : Option (Mem ⊕ Mem)).bind (Sum.elim (fun (z1 : Mem) => j_X11_readCommutator_82 rec z1) some)
theorem t_X11_readCommutator {w : Wd} (hw : WOK w) (hN : wn w = NT) {d : Nat} {rec : Mem → Int32 → Option Mem} (hrec : ∀ {τ0 : Mem} {y0 : Int32}, ∀ τ, rec τ0 y0 = some τ → MC w (mu_X11_readWord d) none [.ref (adr w 306), .int y0] τ0 τ) {σ : Mem} {x0 : Int32} : JO w (mu_X11_readCommutator d) vV σ [(0, .ref (adr w 306)), (1, .int x0)] [] 0 (o_X11_readCommutator rec σ x0) (fun z => some ((), z)) := by
  unfold o_X11_readCommutator
  refine jo_iconst (pc := 0) dX11_readCommutator_0 (ic_i_0) ?_
  refine jo_istore_n (pc := 1) (lv' := [(2, .int 0), (0, .ref (adr w 306)), (1, .int x0)]) dX11_readCommutator_1 rfl (ltb rfl) rfl ?_
  refine jo_joinS (S := Mem) (fun (z1 : Mem) => z1) (fun (z1 : Mem) => [(0, .ref (adr w 306))]) (fun (z1 : Mem) => []) 82 ?_ (fun h82_1 => ?_)
  · intro σ1
    show JO w (mu_X11_readCommutator d) vV σ1 [(0, .ref (adr w 306))] [] 82 (j_X11_readCommutator_82 rec σ1) _
    unfold j_X11_readCommutator_82
    refine jo_aload_n (pc := 82) 0 rfl dX11_readCommutator_82 rfl ?_
    refine jo_bipush (pc := 83) dX11_readCommutator_83 (ic_b_93) ?_
    refine jo_cV_V_i (pc := 85) (μ' := mu_X11_must) (fx := f_X11_must σ1 93) (As := [.int 93]) (c_X11_must hw hN) (ok_X11_must) (by simp only [mu_X11_readCommutator, mu_X11_must]; omega) (all3 gw_1697 gw_1699 gw_118) (ik_306 hw hN) (by decide) (q := (RX11, TX11, 39)) rfl rfl rfl rfl (Nat.le_of_ble_eq_true rfl) dX11_readCommutator_85 (fun σ2 => ?_)
    exact jo_return (pc := 88) rfl rfl dX11_readCommutator_88
  · refine jo_lv (lv' := [(0, .ref (adr w 306)), (1, .int x0), (2, .int 0)]) [1, 2, 0] rfl ?_
    refine jo_loop (X := Mem ⊕ Mem) (fun (z4 : (Mem × Int32)) => z4.1) (fun (z4 : (Mem × Int32)) => [(0, .ref (adr w 306)), (1, .int x0), (2, .int z4.2)]) (body := (fun (z4 : (Mem × Int32)) => l_X11_readCommutator_2 rec x0 z4.1 z4.2)) (fun F2_4 hF2_4 s => ?_) (σ, 0)
    obtain ⟨σ3, i4⟩ := s
    show JO w (mu_X11_readCommutator d) vV σ3 [(0, .ref (adr w 306)), (1, .int x0), (2, .int i4)] [] 2 (l_X11_readCommutator_2 rec x0 σ3 i4) _
    unfold l_X11_readCommutator_2
    refine jo_aload_n (pc := 2) 0 rfl dX11_readCommutator_2 rfl ?_
    refine jo_cV_Z_p (pc := 3) (μ' := mu_X11_isWrong) (fx := f_X11_isWrong σ3) (As := []) (c_X11_isWrong hw hN) (ok_X11_isWrong) (by simp only [mu_X11_readCommutator, mu_X11_isWrong]; omega) (all3 gw_1665 gw_1667 gw_110) (ik_306 hw hN) (by decide) (q := (RX11, TX11, 39)) rfl rfl rfl rfl (Nat.le_of_ble_eq_true rfl) dX11_readCommutator_3 (fun b5 => ?_)
    refine jo_ifz_ne (pc := 6) dX11_readCommutator_6 (tgt := 82) rfl ?_ ?_
    · refine jo_lv (lv' := [(0, .ref (adr w 306))]) [0] rfl ?_
      exact jo_leaf (by rfl) (h82_1 σ3)
    · refine jo_iload_n (pc := 9) 2 rfl dX11_readCommutator_9 rfl ?_
      refine jo_joinS (S := Mem) (fun (z6 : Mem) => z6) (fun (z6 : Mem) => [(0, .ref (adr w 306)), (1, .int x0), (2, .int i4)]) (fun (z6 : Mem) => []) 22 ?_ (fun h22_6 => ?_)
      · intro σ6
        show JO w (mu_X11_readCommutator d) vV σ6 [(0, .ref (adr w 306)), (1, .int x0), (2, .int i4)] [] 22 (j_X11_readCommutator_22 rec x0 i4 σ6) _
        unfold j_X11_readCommutator_22
        refine jo_aload_n (pc := 22) 0 rfl dX11_readCommutator_22 rfl ?_
        refine jo_bipush (pc := 23) dX11_readCommutator_23 (ic_b_44) ?_
        refine jo_cV_V_i (pc := 25) (μ' := mu_X11_must) (fx := f_X11_must σ6 44) (As := [.int 44]) (c_X11_must hw hN) (ok_X11_must) (by simp only [mu_X11_readCommutator, mu_X11_must]; omega) (all3 gw_1697 gw_1699 gw_118) (ik_306 hw hN) (by decide) (q := (RX11, TX11, 39)) rfl rfl rfl rfl (Nat.le_of_ble_eq_true rfl) dX11_readCommutator_25 (fun σ7 => ?_)
        refine jo_aload_n (pc := 28) 0 rfl dX11_readCommutator_28 rfl ?_
        refine jo_aload_n (pc := 29) 0 rfl dX11_readCommutator_29 rfl ?_
        refine jo_getf (pc := 30) ok_11_21 (ik_306 hw hN) gw_1314 dX11_readCommutator_30 (fun v8 => ?_)
        refine jo_putf (pc := 33) ok_11_23 okp_11_23 (ik_306 hw hN) gw_1316 dX11_readCommutator_33 (fun σ9 => ?_)
        refine jo_aload_n (pc := 36) 0 rfl dX11_readCommutator_36 rfl ?_
        refine jo_iload_n (pc := 37) 1 rfl dX11_readCommutator_37 rfl ?_
        refine jo_iconst (pc := 38) dX11_readCommutator_38 (ic_i_1) ?_
        refine jo_iadd (pc := 39) dX11_readCommutator_39 ?_
        refine jo_cV_V_i (pc := 40) (μ' := (mu_X11_readWord d)) (fx := rec σ9 (x0 + 1)) (As := [.int (x0 + 1)]) (hrec) (ok_X11_readWord _) (by simp only [mu_X11_readCommutator, mu_X11_readWord]; omega) (all3 gw_1661 gw_1663 gw_109) (ik_306 hw hN) (by decide) (q := (RX11, TX11, 39)) rfl rfl rfl rfl (Nat.le_of_ble_eq_true rfl) dX11_readCommutator_40 (fun σ10 => ?_)
        refine jo_aload_n (pc := 43) 0 rfl dX11_readCommutator_43 rfl ?_
        refine jo_cV_Z_p (pc := 44) (μ' := mu_X11_isWrong) (fx := f_X11_isWrong σ10) (As := []) (c_X11_isWrong hw hN) (ok_X11_isWrong) (by simp only [mu_X11_readCommutator, mu_X11_isWrong]; omega) (all3 gw_1665 gw_1667 gw_110) (ik_306 hw hN) (by decide) (q := (RX11, TX11, 39)) rfl rfl rfl rfl (Nat.le_of_ble_eq_true rfl) dX11_readCommutator_44 (fun b11 => ?_)
        refine jo_ifz_eq (pc := 47) dX11_readCommutator_47 (tgt := 51) rfl ?_ ?_
        · refine jo_aload_n (pc := 51) 0 rfl dX11_readCommutator_51 rfl ?_
          refine jo_iload_n (pc := 52) 1 rfl dX11_readCommutator_52 rfl ?_
          refine jo_iload_n (pc := 53) 1 rfl dX11_readCommutator_53 rfl ?_
          refine jo_iconst (pc := 54) dX11_readCommutator_54 (ic_i_1) ?_
          refine jo_iadd (pc := 55) dX11_readCommutator_55 ?_
          refine jo_iload_n (pc := 56) 1 rfl dX11_readCommutator_56 rfl ?_
          refine jo_iconst (pc := 57) dX11_readCommutator_57 (ic_i_2) ?_
          refine jo_iadd (pc := 58) dX11_readCommutator_58 ?_
          refine jo_cV_V_i (pc := 59) (μ' := mu_X11_commutator) (fx := f_X11_commutator σ10 x0 (x0 + 1) (x0 + 2)) (As := [.int x0, .int (x0 + 1), .int (x0 + 2)]) (c_X11_commutator hw hN) (ok_X11_commutator) (by simp only [mu_X11_readCommutator, mu_X11_commutator]; omega) (all3 gw_1609 gw_1611 gw_102) (ik_306 hw hN) (by decide) (q := (RX11, TX11, 39)) rfl rfl rfl rfl (Nat.le_of_ble_eq_true rfl) dX11_readCommutator_59 (fun σ12 => ?_)
          refine jo_aload_n (pc := 62) 0 rfl dX11_readCommutator_62 rfl ?_
          refine jo_iload_n (pc := 63) 1 rfl dX11_readCommutator_63 rfl ?_
          refine jo_iconst (pc := 64) dX11_readCommutator_64 (ic_i_2) ?_
          refine jo_iadd (pc := 65) dX11_readCommutator_65 ?_
          refine jo_iload_n (pc := 66) 1 rfl dX11_readCommutator_66 rfl ?_
          refine jo_cV_V_i (pc := 67) (μ' := mu_X11_copies) (fx := f_X11_copies σ12 (x0 + 2) x0) (As := [.int (x0 + 2), .int x0]) (c_X11_copies hw hN) (ok_X11_copies) (by simp only [mu_X11_readCommutator, mu_X11_copies]; omega) (all3 gw_1591 gw_1593 gw_100) (ik_306 hw hN) (by decide) (q := (RX11, TX11, 39)) rfl rfl rfl rfl (Nat.le_of_ble_eq_true rfl) dX11_readCommutator_67 (fun σ13 => ?_)
          refine jo_aload_n (pc := 70) 0 rfl dX11_readCommutator_70 rfl ?_
          refine jo_iload_n (pc := 71) 1 rfl dX11_readCommutator_71 rfl ?_
          refine jo_cV_V_i (pc := 72) (μ' := mu_X11_checks) (fx := f_X11_checks σ13 x0) (As := [.int x0]) (c_X11_checks hw hN) (ok_X11_checks) (by simp only [mu_X11_readCommutator, mu_X11_checks]; omega) (all3 gw_1705 gw_1707 gw_120) (ik_306 hw hN) (by decide) (q := (RX11, TX11, 39)) rfl rfl rfl rfl (Nat.le_of_ble_eq_true rfl) dX11_readCommutator_72 (fun σ14 => ?_)
          refine jo_iload_n (pc := 75) 2 rfl dX11_readCommutator_75 rfl ?_
          refine jo_iconst (pc := 76) dX11_readCommutator_76 (ic_i_1) ?_
          refine jo_iadd (pc := 77) dX11_readCommutator_77 ?_
          refine jo_bd ?_
          refine jo_istore_n (pc := 78) (lv' := [(2, .int (i4 + 1)), (0, .ref (adr w 306)), (1, .int x0)]) dX11_readCommutator_78 rfl (ltb rfl) rfl ?_
          generalize (i4 + 1) = v15
          refine jo_goto (pc := 79) dX11_readCommutator_79 (tgt := 2) rfl ?_
          refine jo_lv (lv' := [(0, .ref (adr w 306)), (1, .int x0), (2, .int v15)]) [1, 2, 0] rfl ?_
          exact jo_leaf (by rfl) (hF2_4 (σ14, v15))
        · exact jo_return (pc := 50) rfl rfl dX11_readCommutator_50
      · refine jo_if_eq (pc := 10) dX11_readCommutator_10 (tgt := 22) rfl ?_ ?_
        · exact jo_leaf (by rfl) (h22_6 σ3)
        · refine jo_aload_n (pc := 13) 0 rfl dX11_readCommutator_13 rfl ?_
          refine jo_cV_I_i (pc := 14) (μ' := mu_X11_behindBlanks) (fx := f_X11_behindBlanks σ3) (As := []) (c_X11_behindBlanks hw hN) (ok_X11_behindBlanks) (by simp only [mu_X11_readCommutator, mu_X11_behindBlanks]; omega) (all3 gw_1669 gw_1671 gw_111) (ik_306 hw hN) (by decide) (q := (RX11, TX11, 39)) rfl rfl rfl rfl (Nat.le_of_ble_eq_true rfl) dX11_readCommutator_14 (fun v16 σ17 => ?_)
          refine jo_bipush (pc := 17) dX11_readCommutator_17 (ic_b_44) ?_
          refine jo_icmp_ne (pc := 19) dX11_readCommutator_19 (tgt := 82) rfl ?_ ?_
          · refine jo_lv (lv' := [(0, .ref (adr w 306))]) [0] rfl ?_
            exact jo_leaf (by rfl) (h82_1 σ17)
          · exact jo_leaf (by rfl) (h22_6 σ17)
theorem co_X11_readCommutator {w : Wd} (hw : WOK w) (hN : wn w = NT) {d : Nat} {rec : Mem → Int32 → Option Mem} (hrec : ∀ {τ0 : Mem} {y0 : Int32}, ∀ τ, rec τ0 y0 = some τ → MC w (mu_X11_readWord d) none [.ref (adr w 306), .int y0] τ0 τ) {σ : Mem} {x0 : Int32} : ∀ σ', o_X11_readCommutator rec σ x0 = some σ' → MC w (mu_X11_readCommutator d) none [.ref (adr w 306), .int x0] σ σ' := mc_ofV (ok_X11_readCommutator _) rfl (Nat.le_of_ble_eq_true rfl) (t_X11_readCommutator hw hN hrec)
abbrev mu_X11_readOpen (d : Nat) : MD := (yX11_readOpen, cX11_readOpen, 3, none, 7 + d + 2)
theorem ok_X11_readOpen (d : Nat) : MOK (mu_X11_readOpen d) 2 := ⟨gw_1696, gw_171, (by decide +kernel : plainFor yX11_readOpen = true), ⟨(by decide +kernel : yX11_readOpen.cls ≠ "java/lang/invoke/MethodHandle"), (by decide +kernel : yX11_readOpen.cls ≠ "java/lang/invoke/VarHandle"), (by decide +kernel : (parseMethodDescriptor yX11_readOpen.desc).map (fun d => d.parameters.length) = some 2)⟩, Nat.le_of_ble_eq_true rfl⟩
noncomputable def j_X11_readOpen_72 (rec : Mem → Int32 → Option Mem) (σ9 : Mem) : Option Mem :=
  gF σ9 306 25 (fun (v10 : Int32) => pF σ9 306 25 (v10 - 1) (fun (σ11 : Mem) => some σ11))
noncomputable def o_X11_readOpen (rec : Mem → Int32 → Option Mem) (σ : Mem) (x0 : Int32) (x1 : Int32) : Option Mem :=
  gF σ 306 25 (fun (v1 : Int32) => if v1 = 8 then (gF σ 306 21 (fun (v14 : Int32) => (f_X11_errs σ 4 v14).bind (fun (σ15 : Mem) => some σ15))) else (gF σ 306 25 (fun (v2 : Int32) => pF σ 306 25 (v2 + 1) (fun (σ3 : Mem) => gF σ3 306 21 (fun (v4 : Int32) => pF σ3 306 21 (v4 + 1) (fun (σ5 : Mem) => gF σ5 306 21 (fun (v6 : Int32) => pF σ5 306 23 v6 (fun (σ7 : Mem) => (rec σ7 x0).bind (fun (σ8 : Mem) => (if x1 = 40 then ((f_X11_must σ8 41).bind (fun (σ13 : Mem) => some σ13)) else ((o_X11_readCommutator rec σ8 x0).bind (fun (σ12 : Mem) => some σ12)) : Option Mem).bind (fun (z9 : Mem) => j_X11_readOpen_72 rec z9))))))))))
theorem t_X11_readOpen {w : Wd} (hw : WOK w) (hN : wn w = NT) {d : Nat} {rec : Mem → Int32 → Option Mem} (hrec : ∀ {τ0 : Mem} {y0 : Int32}, ∀ τ, rec τ0 y0 = some τ → MC w (mu_X11_readWord d) none [.ref (adr w 306), .int y0] τ0 τ) {σ : Mem} {x0 : Int32} {x1 : Int32} : JO w (mu_X11_readOpen d) vV σ [(0, .ref (adr w 306)), (1, .int x0), (2, .int x1)] [] 0 (o_X11_readOpen rec σ x0 x1) (fun z => some ((), z)) := by
  unfold o_X11_readOpen
  refine jo_aload_n (pc := 0) 0 rfl dX11_readOpen_0 rfl ?_
  refine jo_getf (pc := 1) ok_11_25 (ik_306 hw hN) gw_1318 dX11_readOpen_1 (fun v1 => ?_)
  refine jo_bipush (pc := 4) dX11_readOpen_4 (ic_b_8) ?_
  refine jo_icmp_ne (pc := 6) dX11_readOpen_6 (tgt := 19) rfl ?_ ?_
  · refine jo_aload_n (pc := 19) 0 rfl dX11_readOpen_19 rfl ?_
    refine jo_aload_n (pc := 20) 0 rfl dX11_readOpen_20 rfl ?_
    refine jo_getf (pc := 21) ok_11_25 (ik_306 hw hN) gw_1318 dX11_readOpen_21 (fun v2 => ?_)
    refine jo_iconst (pc := 24) dX11_readOpen_24 (ic_i_1) ?_
    refine jo_iadd (pc := 25) dX11_readOpen_25 ?_
    refine jo_putf (pc := 26) ok_11_25 okp_11_25 (ik_306 hw hN) gw_1318 dX11_readOpen_26 (fun σ3 => ?_)
    refine jo_aload_n (pc := 29) 0 rfl dX11_readOpen_29 rfl ?_
    refine jo_aload_n (pc := 30) 0 rfl dX11_readOpen_30 rfl ?_
    refine jo_getf (pc := 31) ok_11_21 (ik_306 hw hN) gw_1314 dX11_readOpen_31 (fun v4 => ?_)
    refine jo_iconst (pc := 34) dX11_readOpen_34 (ic_i_1) ?_
    refine jo_iadd (pc := 35) dX11_readOpen_35 ?_
    refine jo_putf (pc := 36) ok_11_21 okp_11_21 (ik_306 hw hN) gw_1314 dX11_readOpen_36 (fun σ5 => ?_)
    refine jo_aload_n (pc := 39) 0 rfl dX11_readOpen_39 rfl ?_
    refine jo_aload_n (pc := 40) 0 rfl dX11_readOpen_40 rfl ?_
    refine jo_getf (pc := 41) ok_11_21 (ik_306 hw hN) gw_1314 dX11_readOpen_41 (fun v6 => ?_)
    refine jo_putf (pc := 44) ok_11_23 okp_11_23 (ik_306 hw hN) gw_1316 dX11_readOpen_44 (fun σ7 => ?_)
    refine jo_aload_n (pc := 47) 0 rfl dX11_readOpen_47 rfl ?_
    refine jo_iload_n (pc := 48) 1 rfl dX11_readOpen_48 rfl ?_
    refine jo_cV_V_i (pc := 49) (μ' := (mu_X11_readWord d)) (fx := rec σ7 x0) (As := [.int x0]) (hrec) (ok_X11_readWord _) (by simp only [mu_X11_readOpen, mu_X11_readWord]; omega) (all3 gw_1661 gw_1663 gw_109) (ik_306 hw hN) (by decide) (q := (RX11, TX11, 39)) rfl rfl rfl rfl (Nat.le_of_ble_eq_true rfl) dX11_readOpen_49 (fun σ8 => ?_)
    refine jo_iload_n (pc := 52) 2 rfl dX11_readOpen_52 rfl ?_
    refine jo_bipush (pc := 53) dX11_readOpen_53 (ic_b_40) ?_
    refine jo_join1 (S := Mem) (fun (z9 : Mem) => z9) (fun (z9 : Mem) => [(0, .ref (adr w 306))]) (fun (z9 : Mem) => []) 72 ?_ (fun h72_9 => ?_)
    · intro σ9
      show JO w (mu_X11_readOpen d) vV σ9 [(0, .ref (adr w 306))] [] 72 (j_X11_readOpen_72 rec σ9) _
      unfold j_X11_readOpen_72
      refine jo_aload_n (pc := 72) 0 rfl dX11_readOpen_72 rfl ?_
      refine jo_aload_n (pc := 73) 0 rfl dX11_readOpen_73 rfl ?_
      refine jo_getf (pc := 74) ok_11_25 (ik_306 hw hN) gw_1318 dX11_readOpen_74 (fun v10 => ?_)
      refine jo_iconst (pc := 77) dX11_readOpen_77 (ic_i_1) ?_
      refine jo_isub (pc := 78) dX11_readOpen_78 ?_
      refine jo_putf (pc := 79) ok_11_25 okp_11_25 (ik_306 hw hN) gw_1318 dX11_readOpen_79 (fun σ11 => ?_)
      exact jo_return (pc := 82) rfl rfl dX11_readOpen_82
    · refine jo_icmp_ne (pc := 55) dX11_readOpen_55 (tgt := 67) rfl ?_ ?_
      · refine jo_aload_n (pc := 67) 0 rfl dX11_readOpen_67 rfl ?_
        refine jo_iload_n (pc := 68) 1 rfl dX11_readOpen_68 rfl ?_
        refine jo_cV_V_i (pc := 69) (μ' := (mu_X11_readCommutator d)) (fx := o_X11_readCommutator rec σ8 x0) (As := [.int x0]) (co_X11_readCommutator hw hN hrec) (ok_X11_readCommutator _) (by simp only [mu_X11_readOpen, mu_X11_readCommutator]; omega) (all3 gw_1701 gw_1703 gw_119) (ik_306 hw hN) (by decide) (q := (RX11, TX11, 39)) rfl rfl rfl rfl (Nat.le_of_ble_eq_true rfl) dX11_readOpen_69 (fun σ12 => ?_)
        refine jo_lv (lv' := [(0, .ref (adr w 306))]) [0] rfl ?_
        exact jo_leaf (by rfl) (h72_9 σ12)
      · refine jo_aload_n (pc := 58) 0 rfl dX11_readOpen_58 rfl ?_
        refine jo_bipush (pc := 59) dX11_readOpen_59 (ic_b_41) ?_
        refine jo_cV_V_i (pc := 61) (μ' := mu_X11_must) (fx := f_X11_must σ8 41) (As := [.int 41]) (c_X11_must hw hN) (ok_X11_must) (by simp only [mu_X11_readOpen, mu_X11_must]; omega) (all3 gw_1697 gw_1699 gw_118) (ik_306 hw hN) (by decide) (q := (RX11, TX11, 39)) rfl rfl rfl rfl (Nat.le_of_ble_eq_true rfl) dX11_readOpen_61 (fun σ13 => ?_)
        refine jo_goto (pc := 64) dX11_readOpen_64 (tgt := 72) rfl ?_
        refine jo_lv (lv' := [(0, .ref (adr w 306))]) [0] rfl ?_
        exact jo_leaf (by rfl) (h72_9 σ13)
  · refine jo_aload_n (pc := 9) 0 rfl dX11_readOpen_9 rfl ?_
    refine jo_iconst (pc := 10) dX11_readOpen_10 (ic_i_4) ?_
    refine jo_aload_n (pc := 11) 0 rfl dX11_readOpen_11 rfl ?_
    refine jo_getf (pc := 12) ok_11_21 (ik_306 hw hN) gw_1314 dX11_readOpen_12 (fun v14 => ?_)
    refine jo_cV_V_i (pc := 15) (μ' := mu_X11_errs) (fx := f_X11_errs σ 4 v14) (As := [.int 4, .int v14]) (c_X11_errs hw hN) (ok_X11_errs) (by simp only [mu_X11_readOpen, mu_X11_errs]; omega) (all3 gw_1685 gw_1687 gw_115) (ik_306 hw hN) (by decide) (q := (RX11, TX11, 39)) rfl rfl rfl rfl (Nat.le_of_ble_eq_true rfl) dX11_readOpen_15 (fun σ15 => ?_)
    exact jo_return (pc := 18) rfl rfl dX11_readOpen_18
theorem co_X11_readOpen {w : Wd} (hw : WOK w) (hN : wn w = NT) {d : Nat} {rec : Mem → Int32 → Option Mem} (hrec : ∀ {τ0 : Mem} {y0 : Int32}, ∀ τ, rec τ0 y0 = some τ → MC w (mu_X11_readWord d) none [.ref (adr w 306), .int y0] τ0 τ) {σ : Mem} {x0 : Int32} {x1 : Int32} : ∀ σ', o_X11_readOpen rec σ x0 x1 = some σ' → MC w (mu_X11_readOpen d) none [.ref (adr w 306), .int x0, .int x1] σ σ' := mc_ofV (ok_X11_readOpen _) rfl (Nat.le_of_ble_eq_true rfl) (t_X11_readOpen hw hN hrec)
abbrev mu_X11_readFactor (d : Nat) : MD := (yX11_readFactor, cX11_readFactor, 3, none, 7 + d + 3)
theorem ok_X11_readFactor (d : Nat) : MOK (mu_X11_readFactor d) 1 := ⟨gw_1684, gw_171, (by decide +kernel : plainFor yX11_readFactor = true), ⟨(by decide +kernel : yX11_readFactor.cls ≠ "java/lang/invoke/MethodHandle"), (by decide +kernel : yX11_readFactor.cls ≠ "java/lang/invoke/VarHandle"), (by decide +kernel : (parseMethodDescriptor yX11_readFactor.desc).map (fun d => d.parameters.length) = some 1)⟩, Nat.le_of_ble_eq_true rfl⟩
noncomputable def j_X11_readFactor_134 (rec : Mem → Int32 → Option Mem) (σ2 : Mem) : Option Mem :=
  gF σ2 306 21 (fun (v3 : Int32) => pF σ2 306 23 v3 (fun (σ4 : Mem) => some σ4))
noncomputable def j_X11_readFactor_66 (rec : Mem → Int32 → Option Mem) (σ : Mem) (x0 : Int32) (v1 : Int32) : Option (Mem ⊕ Mem) :=
  if v1 = 82 then (gF σ 306 21 (fun (v6 : Int32) => pF σ 306 21 (v6 + 1) (fun (σ7 : Mem) => (f_X11_here σ7).bind (fun (v8 : Int32) => (f_X11_isDigit σ7 v8).bind (fun (b9 : Bool) => if b9 then (f_X11_here σ7).bind (fun (v10 : Int32) => (f_X11_laysRegister σ7 x0 (v10 - 48)).bind (fun (σ11 : Mem) => gF σ11 306 21 (fun (v12 : Int32) => pF σ11 306 21 (v12 + 1) (fun (σ13 : Mem) => some (Sum.inl σ13))))) else gF σ7 306 21 (fun (v14 : Int32) => (f_X11_errs σ7 1 v14).bind (fun (σ15 : Mem) => some (Sum.inr σ15)))))))) else ((o_X11_readOpen rec σ x0 v1).bind (fun (σ5 : Mem) => some (Sum.inl σ5)))
noncomputable def o_X11_readFactor (rec : Mem → Int32 → Option Mem) (σ : Mem) (x0 : Int32) : Option Mem :=
  (f_X11_here σ).bind (fun (v1 : Int32) => ((if v1 < 97 then (some (Sum.inl ())) else (if 102 < v1 then (some (Sum.inl ())) else ((f_X11_n σ).bind (fun (v16 : Int32) => if (v1 - 97) < v16 then ((f_X11_ones σ x0).bind (fun (σ17 : Mem) => (f_X11_puts σ17 x0 (v1 - 97) 1).bind (fun (σ18 : Mem) => gF σ18 306 21 (fun (v19 : Int32) => pF σ18 306 21 (v19 + 1) (fun (σ20 : Mem) => some (Sum.inr (Sum.inl σ20))))))) else (gF σ 306 21 (fun (v21 : Int32) => (f_X11_errs σ 3 v21).bind (fun (σ22 : Mem) => some (Sum.inr (Sum.inr σ22)))))))) : Option (Unit ⊕ (Mem ⊕ Mem))).bind (Sum.elim (fun (z4 : Unit) => j_X11_readFactor_66 rec σ x0 v1) some) : Option (Mem ⊕ Mem)).bind (Sum.elim (fun (z2 : Mem) => j_X11_readFactor_134 rec z2) some))
theorem t_X11_readFactor {w : Wd} (hw : WOK w) (hN : wn w = NT) {d : Nat} {rec : Mem → Int32 → Option Mem} (hrec : ∀ {τ0 : Mem} {y0 : Int32}, ∀ τ, rec τ0 y0 = some τ → MC w (mu_X11_readWord d) none [.ref (adr w 306), .int y0] τ0 τ) {σ : Mem} {x0 : Int32} : JO w (mu_X11_readFactor d) vV σ [(0, .ref (adr w 306)), (1, .int x0)] [] 0 (o_X11_readFactor rec σ x0) (fun z => some ((), z)) := by
  unfold o_X11_readFactor
  refine jo_aload_n (pc := 0) 0 rfl dX11_readFactor_0 rfl ?_
  refine jo_cV_I_p (pc := 1) (μ' := mu_X11_here) (fx := f_X11_here σ) (As := []) (c_X11_here hw hN) (ok_X11_here) (by simp only [mu_X11_readFactor, mu_X11_here]; omega) (all3 gw_1673 gw_1675 gw_112) (ik_306 hw hN) (by decide) (q := (RX11, TX11, 39)) rfl rfl rfl rfl (Nat.le_of_ble_eq_true rfl) dX11_readFactor_1 (fun v1 => ?_)
  refine jo_istore_n (pc := 4) (lv' := [(2, .int v1), (0, .ref (adr w 306)), (1, .int x0)]) dX11_readFactor_4 rfl (ltb rfl) rfl ?_
  refine jo_iload_n (pc := 5) 0 rfl dX11_readFactor_5 rfl ?_
  refine jo_bipush (pc := 6) dX11_readFactor_6 (ic_b_97) ?_
  refine jo_joinS (S := Mem) (fun (z2 : Mem) => z2) (fun (z2 : Mem) => [(0, .ref (adr w 306))]) (fun (z2 : Mem) => []) 134 ?_ (fun h134_2 => ?_)
  · intro σ2
    show JO w (mu_X11_readFactor d) vV σ2 [(0, .ref (adr w 306))] [] 134 (j_X11_readFactor_134 rec σ2) _
    unfold j_X11_readFactor_134
    refine jo_aload_n (pc := 134) 0 rfl dX11_readFactor_134 rfl ?_
    refine jo_aload_n (pc := 135) 0 rfl dX11_readFactor_135 rfl ?_
    refine jo_getf (pc := 136) ok_11_21 (ik_306 hw hN) gw_1314 dX11_readFactor_136 (fun v3 => ?_)
    refine jo_putf (pc := 139) ok_11_23 okp_11_23 (ik_306 hw hN) gw_1316 dX11_readFactor_139 (fun σ4 => ?_)
    exact jo_return (pc := 142) rfl rfl dX11_readFactor_142
  · refine jo_joinS (S := Unit) (fun (z4 : Unit) => σ) (fun (z4 : Unit) => [(2, .int v1), (0, .ref (adr w 306)), (1, .int x0)]) (fun (z4 : Unit) => []) 66 ?_ (fun h66_4 => ?_)
    · intro _
      show JO w (mu_X11_readFactor d) vV σ [(2, .int v1), (0, .ref (adr w 306)), (1, .int x0)] [] 66 (j_X11_readFactor_66 rec σ x0 v1) _
      unfold j_X11_readFactor_66
      refine jo_iload_n (pc := 66) 0 rfl dX11_readFactor_66 rfl ?_
      refine jo_bipush (pc := 67) dX11_readFactor_67 (ic_b_82) ?_
      refine jo_icmp_ne (pc := 69) dX11_readFactor_69 (tgt := 128) rfl ?_ ?_
      · refine jo_aload_n (pc := 128) 1 rfl dX11_readFactor_128 rfl ?_
        refine jo_iload_n (pc := 129) 2 rfl dX11_readFactor_129 rfl ?_
        refine jo_iload_n (pc := 130) 0 rfl dX11_readFactor_130 rfl ?_
        refine jo_cV_V_i (pc := 131) (μ' := (mu_X11_readOpen d)) (fx := o_X11_readOpen rec σ x0 v1) (As := [.int x0, .int v1]) (co_X11_readOpen hw hN hrec) (ok_X11_readOpen _) (by simp only [mu_X11_readFactor, mu_X11_readOpen]; omega) (all3 gw_1693 gw_1695 gw_117) (ik_306 hw hN) (by decide) (q := (RX11, TX11, 39)) rfl rfl rfl rfl (Nat.le_of_ble_eq_true rfl) dX11_readFactor_131 (fun σ5 => ?_)
        refine jo_lv (lv' := [(0, .ref (adr w 306))]) [1] rfl ?_
        exact jo_leaf (by rfl) (h134_2 σ5)
      · refine jo_aload_n (pc := 72) 1 rfl dX11_readFactor_72 rfl ?_
        refine jo_aload_n (pc := 73) 1 rfl dX11_readFactor_73 rfl ?_
        refine jo_getf (pc := 74) ok_11_21 (ik_306 hw hN) gw_1314 dX11_readFactor_74 (fun v6 => ?_)
        refine jo_iconst (pc := 77) dX11_readFactor_77 (ic_i_1) ?_
        refine jo_iadd (pc := 78) dX11_readFactor_78 ?_
        refine jo_putf (pc := 79) ok_11_21 okp_11_21 (ik_306 hw hN) gw_1314 dX11_readFactor_79 (fun σ7 => ?_)
        refine jo_aload_n (pc := 82) 1 rfl dX11_readFactor_82 rfl ?_
        refine jo_aload_n (pc := 83) 1 rfl dX11_readFactor_83 rfl ?_
        refine jo_cV_I_p (pc := 84) (μ' := mu_X11_here) (fx := f_X11_here σ7) (As := []) (c_X11_here hw hN) (ok_X11_here) (by simp only [mu_X11_readFactor, mu_X11_here]; omega) (all3 gw_1673 gw_1675 gw_112) (ik_306 hw hN) (by decide) (q := (RX11, TX11, 39)) rfl rfl rfl rfl (Nat.le_of_ble_eq_true rfl) dX11_readFactor_84 (fun v8 => ?_)
        refine jo_cV_Z_p (pc := 87) (μ' := mu_X11_isDigit) (fx := f_X11_isDigit σ7 v8) (As := [.int v8]) (c_X11_isDigit hw hN) (ok_X11_isDigit) (by simp only [mu_X11_readFactor, mu_X11_isDigit]; omega) (all3 gw_1689 gw_1691 gw_116) (ik_306 hw hN) (by decide) (q := (RX11, TX11, 39)) rfl rfl rfl rfl (Nat.le_of_ble_eq_true rfl) dX11_readFactor_87 (fun b9 => ?_)
        refine jo_ifz_ne (pc := 90) dX11_readFactor_90 (tgt := 103) rfl ?_ ?_
        · refine jo_aload_n (pc := 103) 1 rfl dX11_readFactor_103 rfl ?_
          refine jo_iload_n (pc := 104) 2 rfl dX11_readFactor_104 rfl ?_
          refine jo_aload_n (pc := 105) 1 rfl dX11_readFactor_105 rfl ?_
          refine jo_cV_I_p (pc := 106) (μ' := mu_X11_here) (fx := f_X11_here σ7) (As := []) (c_X11_here hw hN) (ok_X11_here) (by simp only [mu_X11_readFactor, mu_X11_here]; omega) (all3 gw_1673 gw_1675 gw_112) (ik_306 hw hN) (by decide) (q := (RX11, TX11, 39)) rfl rfl rfl rfl (Nat.le_of_ble_eq_true rfl) dX11_readFactor_106 (fun v10 => ?_)
          refine jo_bipush (pc := 109) dX11_readFactor_109 (ic_b_48) ?_
          refine jo_isub (pc := 111) dX11_readFactor_111 ?_
          refine jo_cV_V_i (pc := 112) (μ' := mu_X11_laysRegister) (fx := f_X11_laysRegister σ7 x0 (v10 - 48)) (As := [.int x0, .int (v10 - 48)]) (c_X11_laysRegister hw hN) (ok_X11_laysRegister) (by simp only [mu_X11_readFactor, mu_X11_laysRegister]; omega) (all3 gw_1559 gw_1561 gw_94) (ik_306 hw hN) (by decide) (q := (RX11, TX11, 39)) rfl rfl rfl rfl (Nat.le_of_ble_eq_true rfl) dX11_readFactor_112 (fun σ11 => ?_)
          refine jo_aload_n (pc := 115) 1 rfl dX11_readFactor_115 rfl ?_
          refine jo_aload_n (pc := 116) 1 rfl dX11_readFactor_116 rfl ?_
          refine jo_getf (pc := 117) ok_11_21 (ik_306 hw hN) gw_1314 dX11_readFactor_117 (fun v12 => ?_)
          refine jo_iconst (pc := 120) dX11_readFactor_120 (ic_i_1) ?_
          refine jo_iadd (pc := 121) dX11_readFactor_121 ?_
          refine jo_putf (pc := 122) ok_11_21 okp_11_21 (ik_306 hw hN) gw_1314 dX11_readFactor_122 (fun σ13 => ?_)
          refine jo_goto (pc := 125) dX11_readFactor_125 (tgt := 134) rfl ?_
          refine jo_lv (lv' := [(0, .ref (adr w 306))]) [1] rfl ?_
          exact jo_leaf (by rfl) (h134_2 σ13)
        · refine jo_aload_n (pc := 93) 1 rfl dX11_readFactor_93 rfl ?_
          refine jo_iconst (pc := 94) dX11_readFactor_94 (ic_i_1) ?_
          refine jo_aload_n (pc := 95) 1 rfl dX11_readFactor_95 rfl ?_
          refine jo_getf (pc := 96) ok_11_21 (ik_306 hw hN) gw_1314 dX11_readFactor_96 (fun v14 => ?_)
          refine jo_cV_V_i (pc := 99) (μ' := mu_X11_errs) (fx := f_X11_errs σ7 1 v14) (As := [.int 1, .int v14]) (c_X11_errs hw hN) (ok_X11_errs) (by simp only [mu_X11_readFactor, mu_X11_errs]; omega) (all3 gw_1685 gw_1687 gw_115) (ik_306 hw hN) (by decide) (q := (RX11, TX11, 39)) rfl rfl rfl rfl (Nat.le_of_ble_eq_true rfl) dX11_readFactor_99 (fun σ15 => ?_)
          exact jo_return (pc := 102) rfl rfl dX11_readFactor_102
    · refine jo_icmp_lt (pc := 8) dX11_readFactor_8 (tgt := 66) rfl ?_ ?_
      · exact jo_leaf (by rfl) (h66_4 ())
      · refine jo_iload_n (pc := 11) 0 rfl dX11_readFactor_11 rfl ?_
        refine jo_bipush (pc := 12) dX11_readFactor_12 (ic_b_102) ?_
        refine jo_icmp_gt (pc := 14) dX11_readFactor_14 (tgt := 66) rfl ?_ ?_
        · exact jo_leaf (by rfl) (h66_4 ())
        · refine jo_iload_n (pc := 17) 0 rfl dX11_readFactor_17 rfl ?_
          refine jo_bipush (pc := 18) dX11_readFactor_18 (ic_b_97) ?_
          refine jo_isub (pc := 20) dX11_readFactor_20 ?_
          refine jo_aload_n (pc := 21) 1 rfl dX11_readFactor_21 rfl ?_
          refine jo_cV_I_p (pc := 22) (μ' := mu_X11_n) (fx := f_X11_n σ) (As := []) (c_X11_n hw hN) (ok_X11_n) (by simp only [mu_X11_readFactor, mu_X11_n]; omega) (all3 gw_1441 gw_1443 gw_68) (ik_306 hw hN) (by decide) (q := (RX11, TX11, 39)) rfl rfl rfl rfl (Nat.le_of_ble_eq_true rfl) dX11_readFactor_22 (fun v16 => ?_)
          refine jo_icmp_lt (pc := 25) dX11_readFactor_25 (tgt := 38) rfl ?_ ?_
          · refine jo_aload_n (pc := 38) 1 rfl dX11_readFactor_38 rfl ?_
            refine jo_iload_n (pc := 39) 2 rfl dX11_readFactor_39 rfl ?_
            refine jo_cV_V_i (pc := 40) (μ' := mu_X11_ones) (fx := f_X11_ones σ x0) (As := [.int x0]) (c_X11_ones hw hN) (ok_X11_ones) (by simp only [mu_X11_readFactor, mu_X11_ones]; omega) (all3 gw_1587 gw_1589 gw_99) (ik_306 hw hN) (by decide) (q := (RX11, TX11, 39)) rfl rfl rfl rfl (Nat.le_of_ble_eq_true rfl) dX11_readFactor_40 (fun σ17 => ?_)
            refine jo_aload_n (pc := 43) 1 rfl dX11_readFactor_43 rfl ?_
            refine jo_iload_n (pc := 44) 2 rfl dX11_readFactor_44 rfl ?_
            refine jo_iload_n (pc := 45) 0 rfl dX11_readFactor_45 rfl ?_
            refine jo_bipush (pc := 46) dX11_readFactor_46 (ic_b_97) ?_
            refine jo_isub (pc := 48) dX11_readFactor_48 ?_
            refine jo_lconst (pc := 49) dX11_readFactor_49 (ic_l_1) ?_
            refine jo_cV_V_i (pc := 50) (μ' := mu_X11_puts) (fx := f_X11_puts σ17 x0 (v1 - 97) 1) (As := [.int x0, .int (v1 - 97), .long 1]) (c_X11_puts hw hN) (ok_X11_puts) (by simp only [mu_X11_readFactor, mu_X11_puts]; omega) (all3 gw_1519 gw_1521 gw_85) (ik_306 hw hN) (by decide) (q := (RX11, TX11, 39)) rfl rfl rfl rfl (Nat.le_of_ble_eq_true rfl) dX11_readFactor_50 (fun σ18 => ?_)
            refine jo_aload_n (pc := 53) 1 rfl dX11_readFactor_53 rfl ?_
            refine jo_aload_n (pc := 54) 1 rfl dX11_readFactor_54 rfl ?_
            refine jo_getf (pc := 55) ok_11_21 (ik_306 hw hN) gw_1314 dX11_readFactor_55 (fun v19 => ?_)
            refine jo_iconst (pc := 58) dX11_readFactor_58 (ic_i_1) ?_
            refine jo_iadd (pc := 59) dX11_readFactor_59 ?_
            refine jo_putf (pc := 60) ok_11_21 okp_11_21 (ik_306 hw hN) gw_1314 dX11_readFactor_60 (fun σ20 => ?_)
            refine jo_goto (pc := 63) dX11_readFactor_63 (tgt := 134) rfl ?_
            refine jo_lv (lv' := [(0, .ref (adr w 306))]) [1] rfl ?_
            exact jo_leaf (by rfl) (h134_2 σ20)
          · refine jo_aload_n (pc := 28) 1 rfl dX11_readFactor_28 rfl ?_
            refine jo_iconst (pc := 29) dX11_readFactor_29 (ic_i_3) ?_
            refine jo_aload_n (pc := 30) 1 rfl dX11_readFactor_30 rfl ?_
            refine jo_getf (pc := 31) ok_11_21 (ik_306 hw hN) gw_1314 dX11_readFactor_31 (fun v21 => ?_)
            refine jo_cV_V_i (pc := 34) (μ' := mu_X11_errs) (fx := f_X11_errs σ 3 v21) (As := [.int 3, .int v21]) (c_X11_errs hw hN) (ok_X11_errs) (by simp only [mu_X11_readFactor, mu_X11_errs]; omega) (all3 gw_1685 gw_1687 gw_115) (ik_306 hw hN) (by decide) (q := (RX11, TX11, 39)) rfl rfl rfl rfl (Nat.le_of_ble_eq_true rfl) dX11_readFactor_34 (fun σ22 => ?_)
            exact jo_return (pc := 37) rfl rfl dX11_readFactor_37
theorem co_X11_readFactor {w : Wd} (hw : WOK w) (hN : wn w = NT) {d : Nat} {rec : Mem → Int32 → Option Mem} (hrec : ∀ {τ0 : Mem} {y0 : Int32}, ∀ τ, rec τ0 y0 = some τ → MC w (mu_X11_readWord d) none [.ref (adr w 306), .int y0] τ0 τ) {σ : Mem} {x0 : Int32} : ∀ σ', o_X11_readFactor rec σ x0 = some σ' → MC w (mu_X11_readFactor d) none [.ref (adr w 306), .int x0] σ σ' := mc_ofV (ok_X11_readFactor _) rfl (Nat.le_of_ble_eq_true rfl) (t_X11_readFactor hw hN hrec)
noncomputable def l_X11_readWord_5 (rec : Mem → Int32 → Option Mem) (x0 : Int32) (σ2 : Mem) : Option (Mem ⊕ Mem) :=
  (f_X11_isWrong σ2).bind (fun (b3 : Bool) => if b3 then some (Sum.inr σ2) else bq (f_X11_behindBlanks σ2) (fun (v4 : Int32) (σ5 : Mem) => (f_X11_isFactor σ5 v4).bind (fun (b6 : Bool) => if b6 then (o_X11_readFactor rec σ5 (x0 + 1)).bind (fun (σ7 : Mem) => (f_X11_readPower σ7 (x0 + 1)).bind (fun (σ8 : Mem) => (f_X11_isWrong σ8).bind (fun (b9 : Bool) => if b9 then some (Sum.inr σ8) else (f_X11_times σ8 x0 (x0 + 1)).bind (fun (σ10 : Mem) => (f_X11_checks σ10 x0).bind (fun (σ11 : Mem) => some (Sum.inl σ11)))))) else some (Sum.inr σ5))))
noncomputable def o_X11_readWord (rec : Mem → Int32 → Option Mem) (σ : Mem) (x0 : Int32) : Option Mem :=
  (f_X11_ones σ x0).bind (fun (σ1 : Mem) => loopO (fun (z2 : Mem) => l_X11_readWord_5 rec x0 z2) σ1)
theorem t_X11_readWord {w : Wd} (hw : WOK w) (hN : wn w = NT) {d : Nat} {rec : Mem → Int32 → Option Mem} (hrec : ∀ {τ0 : Mem} {y0 : Int32}, ∀ τ, rec τ0 y0 = some τ → MC w (mu_X11_readWord d) none [.ref (adr w 306), .int y0] τ0 τ) {σ : Mem} {x0 : Int32} : JO w (mu_X11_readWord (d + 4)) vV σ [(0, .ref (adr w 306)), (1, .int x0)] [] 0 (o_X11_readWord rec σ x0) (fun z => some ((), z)) := by
  unfold o_X11_readWord
  refine jo_aload_n (pc := 0) 0 rfl dX11_readWord_0 rfl ?_
  refine jo_iload_n (pc := 1) 1 rfl dX11_readWord_1 rfl ?_
  refine jo_cV_V_i (pc := 2) (μ' := mu_X11_ones) (fx := f_X11_ones σ x0) (As := [.int x0]) (c_X11_ones hw hN) (ok_X11_ones) (by simp only [mu_X11_readWord, mu_X11_ones]; omega) (all3 gw_1587 gw_1589 gw_99) (ik_306 hw hN) (by decide) (q := (RX11, TX11, 39)) rfl rfl rfl rfl (Nat.le_of_ble_eq_true rfl) dX11_readWord_2 (fun σ1 => ?_)
  refine jo_loop (X := Mem) (fun (z2 : Mem) => z2) (fun (z2 : Mem) => [(0, .ref (adr w 306)), (1, .int x0)]) (body := (fun (z2 : Mem) => l_X11_readWord_5 rec x0 z2)) (fun F5_2 hF5_2 s => ?_) σ1
  revert s; intro σ2
  show JO w (mu_X11_readWord (d + 4)) vV σ2 [(0, .ref (adr w 306)), (1, .int x0)] [] 5 (l_X11_readWord_5 rec x0 σ2) _
  unfold l_X11_readWord_5
  refine jo_aload_n (pc := 5) 0 rfl dX11_readWord_5 rfl ?_
  refine jo_cV_Z_p (pc := 6) (μ' := mu_X11_isWrong) (fx := f_X11_isWrong σ2) (As := []) (c_X11_isWrong hw hN) (ok_X11_isWrong) (by simp only [mu_X11_readWord, mu_X11_isWrong]; omega) (all3 gw_1665 gw_1667 gw_110) (ik_306 hw hN) (by decide) (q := (RX11, TX11, 39)) rfl rfl rfl rfl (Nat.le_of_ble_eq_true rfl) dX11_readWord_6 (fun b3 => ?_)
  refine jo_ifz_ne (pc := 9) dX11_readWord_9 (tgt := 61) rfl ?_ ?_
  · exact jo_return (pc := 61) rfl rfl dX11_readWord_61
  · refine jo_aload_n (pc := 12) 0 rfl dX11_readWord_12 rfl ?_
    refine jo_aload_n (pc := 13) 0 rfl dX11_readWord_13 rfl ?_
    refine jo_cV_I_i (pc := 14) (μ' := mu_X11_behindBlanks) (fx := f_X11_behindBlanks σ2) (As := []) (c_X11_behindBlanks hw hN) (ok_X11_behindBlanks) (by simp only [mu_X11_readWord, mu_X11_behindBlanks]; omega) (all3 gw_1669 gw_1671 gw_111) (ik_306 hw hN) (by decide) (q := (RX11, TX11, 39)) rfl rfl rfl rfl (Nat.le_of_ble_eq_true rfl) dX11_readWord_14 (fun v4 σ5 => ?_)
    refine jo_cV_Z_p (pc := 17) (μ' := mu_X11_isFactor) (fx := f_X11_isFactor σ5 v4) (As := [.int v4]) (c_X11_isFactor hw hN) (ok_X11_isFactor) (by simp only [mu_X11_readWord, mu_X11_isFactor]; omega) (all3 gw_1677 gw_1679 gw_113) (ik_306 hw hN) (by decide) (q := (RX11, TX11, 39)) rfl rfl rfl rfl (Nat.le_of_ble_eq_true rfl) dX11_readWord_17 (fun b6 => ?_)
    refine jo_ifz_eq (pc := 20) dX11_readWord_20 (tgt := 61) rfl ?_ ?_
    · exact jo_return (pc := 61) rfl rfl dX11_readWord_61
    · refine jo_aload_n (pc := 23) 0 rfl dX11_readWord_23 rfl ?_
      refine jo_iload_n (pc := 24) 1 rfl dX11_readWord_24 rfl ?_
      refine jo_iconst (pc := 25) dX11_readWord_25 (ic_i_1) ?_
      refine jo_iadd (pc := 26) dX11_readWord_26 ?_
      refine jo_cV_V_i (pc := 27) (μ' := (mu_X11_readFactor d)) (fx := o_X11_readFactor rec σ5 (x0 + 1)) (As := [.int (x0 + 1)]) (co_X11_readFactor hw hN hrec) (ok_X11_readFactor _) (by simp only [mu_X11_readWord, mu_X11_readFactor]; omega) (all3 gw_1681 gw_1683 gw_114) (ik_306 hw hN) (by decide) (q := (RX11, TX11, 39)) rfl rfl rfl rfl (Nat.le_of_ble_eq_true rfl) dX11_readWord_27 (fun σ7 => ?_)
      refine jo_aload_n (pc := 30) 0 rfl dX11_readWord_30 rfl ?_
      refine jo_iload_n (pc := 31) 1 rfl dX11_readWord_31 rfl ?_
      refine jo_iconst (pc := 32) dX11_readWord_32 (ic_i_1) ?_
      refine jo_iadd (pc := 33) dX11_readWord_33 ?_
      refine jo_cV_V_i (pc := 34) (μ' := mu_X11_readPower) (fx := f_X11_readPower σ7 (x0 + 1)) (As := [.int (x0 + 1)]) (c_X11_readPower hw hN) (ok_X11_readPower) (by simp only [mu_X11_readWord, mu_X11_readPower]; omega) (all3 gw_1709 gw_1711 gw_121) (ik_306 hw hN) (by decide) (q := (RX11, TX11, 39)) rfl rfl rfl rfl (Nat.le_of_ble_eq_true rfl) dX11_readWord_34 (fun σ8 => ?_)
      refine jo_aload_n (pc := 37) 0 rfl dX11_readWord_37 rfl ?_
      refine jo_cV_Z_p (pc := 38) (μ' := mu_X11_isWrong) (fx := f_X11_isWrong σ8) (As := []) (c_X11_isWrong hw hN) (ok_X11_isWrong) (by simp only [mu_X11_readWord, mu_X11_isWrong]; omega) (all3 gw_1665 gw_1667 gw_110) (ik_306 hw hN) (by decide) (q := (RX11, TX11, 39)) rfl rfl rfl rfl (Nat.le_of_ble_eq_true rfl) dX11_readWord_38 (fun b9 => ?_)
      refine jo_ifz_eq (pc := 41) dX11_readWord_41 (tgt := 45) rfl ?_ ?_
      · refine jo_aload_n (pc := 45) 0 rfl dX11_readWord_45 rfl ?_
        refine jo_iload_n (pc := 46) 1 rfl dX11_readWord_46 rfl ?_
        refine jo_iload_n (pc := 47) 1 rfl dX11_readWord_47 rfl ?_
        refine jo_iconst (pc := 48) dX11_readWord_48 (ic_i_1) ?_
        refine jo_iadd (pc := 49) dX11_readWord_49 ?_
        refine jo_cV_V_i (pc := 50) (μ' := mu_X11_times) (fx := f_X11_times σ8 x0 (x0 + 1)) (As := [.int x0, .int (x0 + 1)]) (c_X11_times hw hN) (ok_X11_times) (by simp only [mu_X11_readWord, mu_X11_times]; omega) (all3 gw_1523 gw_1525 gw_86) (ik_306 hw hN) (by decide) (q := (RX11, TX11, 39)) rfl rfl rfl rfl (Nat.le_of_ble_eq_true rfl) dX11_readWord_50 (fun σ10 => ?_)
        refine jo_aload_n (pc := 53) 0 rfl dX11_readWord_53 rfl ?_
        refine jo_iload_n (pc := 54) 1 rfl dX11_readWord_54 rfl ?_
        refine jo_cV_V_i (pc := 55) (μ' := mu_X11_checks) (fx := f_X11_checks σ10 x0) (As := [.int x0]) (c_X11_checks hw hN) (ok_X11_checks) (by simp only [mu_X11_readWord, mu_X11_checks]; omega) (all3 gw_1705 gw_1707 gw_120) (ik_306 hw hN) (by decide) (q := (RX11, TX11, 39)) rfl rfl rfl rfl (Nat.le_of_ble_eq_true rfl) dX11_readWord_55 (fun σ11 => ?_)
        refine jo_goto (pc := 58) dX11_readWord_58 (tgt := 5) rfl ?_
        exact jo_leaf (by rfl) (hF5_2 σ11)
      · exact jo_return (pc := 44) rfl rfl dX11_readWord_44
theorem co_X11_readWord {w : Wd} (hw : WOK w) (hN : wn w = NT) {d : Nat} {rec : Mem → Int32 → Option Mem} (hrec : ∀ {τ0 : Mem} {y0 : Int32}, ∀ τ, rec τ0 y0 = some τ → MC w (mu_X11_readWord d) none [.ref (adr w 306), .int y0] τ0 τ) {σ : Mem} {x0 : Int32} : ∀ σ', o_X11_readWord rec σ x0 = some σ' → MC w (mu_X11_readWord (d + 4)) none [.ref (adr w 306), .int x0] σ σ' := mc_ofV (ok_X11_readWord _) rfl (Nat.le_of_ble_eq_true rfl) (t_X11_readWord hw hN hrec)
noncomputable def f_X11_readWord : Nat → Mem → Int32 → Option Mem
  | 0 => fun _ _ => none
  | n + 1 => fun σ x0 => o_X11_readWord (f_X11_readWord n) σ x0
theorem c_X11_readWord (n : Nat) {w : Wd} (hw : WOK w) (hN : wn w = NT) {σ : Mem} {x0 : Int32} : ∀ σ', f_X11_readWord n σ x0 = some σ' → MC w (mu_X11_readWord (4 * n)) none [.ref (adr w 306), .int x0] σ σ' := by
  induction n generalizing σ x0 with
  | zero => intro σ' h; cases h
  | succ n ih => exact co_X11_readWord hw hN (rec := f_X11_readWord n) (d := 4 * n) ih
