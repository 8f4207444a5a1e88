abbrev mu_X11_layer : MD := (yX11_layer, cX11_layer, 3, some .int, 2)
theorem ok_X11_layer : MOK mu_X11_layer 1 := ⟨gw_1816, gw_171, (by decide +kernel : plainFor yX11_layer = true), ⟨(by decide +kernel : yX11_layer.cls ≠ "java/lang/invoke/MethodHandle"), (by decide +kernel : yX11_layer.cls ≠ "java/lang/invoke/VarHandle"), (by decide +kernel : (parseMethodDescriptor yX11_layer.desc).map (fun d => d.parameters.length) = some 1)⟩, Nat.le_of_ble_eq_true rfl⟩
noncomputable def j_X11_layer_33 (σ : Mem) : Option Int32 :=
  (f_X11_level σ).bind (fun (v1 : Int32) => some (v1 + 1))
noncomputable def j_X11_layer_21 (σ : Mem) (i2 : Int32) : Option (Unit ⊕ Int32) :=
  (f_X11_weight σ i2).bind (fun (v3 : Int32) => some (Sum.inr v3))
noncomputable def l_X11_layer_2 (σ : Mem) (x0 : Int32) (i4 : Int32) : Option (Int32 ⊕ (Int32 ⊕ (Unit ⊕ Int32))) :=
  (f_X11_n σ).bind (fun (v5 : Int32) => if v5 ≤ i4 then (some (Sum.inr (Sum.inr (Sum.inl ())))) else ((f_X11_of σ x0 i4).bind (fun (v6 : Int64) => if v6 = 0 then (some (Sum.inl (i4 + 1))) else (some (Sum.inr (Sum.inl i4))))))
noncomputable def f_X11_layer (σ : Mem) (x0 : Int32) : Option Int32 :=
  ((loopO (fun (z4 : Int32) => l_X11_layer_2 σ x0 z4) 0 : Option (Int32 ⊕ (Unit ⊕ Int32))).bind (Sum.elim (fun (z2 : Int32) => j_X11_layer_21 σ z2) some) : Option (Unit ⊕ Int32)).bind (Sum.elim (fun (z0 : Unit) => j_X11_layer_33 σ) some)
theorem t_X11_layer {w : Wd} (hw : WOK w) (hN : wn w = NT) {σ : Mem} {x0 : Int32} : JO w mu_X11_layer vI σ [(0, .ref (adr w 306)), (1, .int x0)] [] 0 (f_X11_layer σ x0) (fun z => some (z, σ)) := by
  unfold f_X11_layer
  refine jo_iconst (pc := 0) dX11_layer_0 (ic_i_0) ?_
  refine jo_istore_n (pc := 1) (lv' := [(2, .int 0), (0, .ref (adr w 306)), (1, .int x0)]) dX11_layer_1 rfl (ltb rfl) rfl ?_
  refine jo_joinS (S := Unit) (fun (z0 : Unit) => σ) (fun (z0 : Unit) => [(0, .ref (adr w 306))]) (fun (z0 : Unit) => []) 33 ?_ (fun h33_0 => ?_)
  · intro _
    show JO w mu_X11_layer vI σ [(0, .ref (adr w 306))] [] 33 (j_X11_layer_33 σ) _
    unfold j_X11_layer_33
    refine jo_aload_n (pc := 33) 0 rfl dX11_layer_33 rfl ?_
    refine jo_cV_I_p (pc := 34) (μ' := mu_X11_level) (fx := f_X11_level σ) (As := []) (c_X11_level hw hN) (ok_X11_level) (ltb rfl) (all3 gw_1637 gw_1639 gw_106) (ik_306 hw hN) (by decide) (q := (RX11, TX11, 39)) rfl rfl rfl rfl (Nat.le_of_ble_eq_true rfl) dX11_layer_34 (fun v1 => ?_)
    refine jo_iconst (pc := 37) dX11_layer_37 (ic_i_1) ?_
    refine jo_iadd (pc := 38) dX11_layer_38 ?_
    exact jo_ireturn (pc := 39) rfl rfl dX11_layer_39
  · refine jo_joinS (S := Int32) (fun (z2 : Int32) => σ) (fun (z2 : Int32) => [(0, .ref (adr w 306)), (2, .int z2)]) (fun (z2 : Int32) => []) 21 ?_ (fun h21_2 => ?_)
    · intro i2
      show JO w mu_X11_layer vI σ [(0, .ref (adr w 306)), (2, .int i2)] [] 21 (j_X11_layer_21 σ i2) _
      unfold j_X11_layer_21
      refine jo_aload_n (pc := 21) 0 rfl dX11_layer_21 rfl ?_
      refine jo_iload_n (pc := 22) 1 rfl dX11_layer_22 rfl ?_
      refine jo_cV_I_p (pc := 23) (μ' := mu_X11_weight) (fx := f_X11_weight σ i2) (As := [.int i2]) (c_X11_weight hw hN) (ok_X11_weight) (ltb rfl) (all3 gw_1446 gw_1448 gw_69) (ik_306 hw hN) (by decide) (q := (RX11, TX11, 39)) rfl rfl rfl rfl (Nat.le_of_ble_eq_true rfl) dX11_layer_23 (fun v3 => ?_)
      exact jo_ireturn (pc := 26) rfl rfl dX11_layer_26
    · refine jo_lv (lv' := [(0, .ref (adr w 306)), (1, .int x0), (2, .int 0)]) [1, 2, 0] rfl ?_
      refine jo_loop (X := Int32 ⊕ (Unit ⊕ Int32)) (fun (z4 : Int32) => σ) (fun (z4 : Int32) => [(0, .ref (adr w 306)), (1, .int x0), (2, .int z4)]) (body := (fun (z4 : Int32) => l_X11_layer_2 σ x0 z4)) (fun F2_4 hF2_4 s => ?_) 0
      revert s; intro i4
      show JO w mu_X11_layer vI σ [(0, .ref (adr w 306)), (1, .int x0), (2, .int i4)] [] 2 (l_X11_layer_2 σ x0 i4) _
      unfold l_X11_layer_2
      refine jo_iload_n (pc := 2) 2 rfl dX11_layer_2 rfl ?_
      refine jo_aload_n (pc := 3) 0 rfl dX11_layer_3 rfl ?_
      refine jo_cV_I_p (pc := 4) (μ' := mu_X11_n) (fx := f_X11_n σ) (As := []) (c_X11_n hw hN) (ok_X11_n) (ltb rfl) (all3 gw_1441 gw_1443 gw_68) (ik_306 hw hN) (by decide) (q := (RX11, TX11, 39)) rfl rfl rfl rfl (Nat.le_of_ble_eq_true rfl) dX11_layer_4 (fun v5 => ?_)
      refine jo_icmp_ge (pc := 7) dX11_layer_7 (tgt := 33) rfl ?_ ?_
      · refine jo_lv (lv' := [(0, .ref (adr w 306))]) [0] rfl ?_
        exact jo_leaf (by rfl) (h33_0 ())
      · refine jo_aload_n (pc := 10) 0 rfl dX11_layer_10 rfl ?_
        refine jo_iload_n (pc := 11) 1 rfl dX11_layer_11 rfl ?_
        refine jo_iload_n (pc := 12) 2 rfl dX11_layer_12 rfl ?_
        refine jo_cV_J_p (pc := 13) (μ' := mu_X11_of) (fx := f_X11_of σ x0 i4) (As := [.int x0, .int i4]) (c_X11_of hw hN) (ok_X11_of) (ltb rfl) (all3 gw_1527 gw_1529 gw_87) (ik_306 hw hN) (by decide) (q := (RX11, TX11, 39)) rfl rfl rfl rfl (Nat.le_of_ble_eq_true rfl) dX11_layer_13 (fun v6 => ?_)
        refine jo_lconst (pc := 16) dX11_layer_16 (ic_l_0) ?_
        refine jo_lcmp_eq (pc := 17) dX11_layer_17 dX11_layer_18 (tgt := 27) rfl ?_ ?_
        · refine jo_iinc (pc := 27) (lv' := [(2, .int (i4 + 1)), (0, .ref (adr w 306)), (1, .int x0)]) 2 rfl dX11_layer_27 (congrArg (fun z => i4 + z) (ic_i_1)) (ltb rfl) rfl ?_
          refine jo_goto (pc := 30) dX11_layer_30 (tgt := 2) rfl ?_
          refine jo_lv (lv' := [(0, .ref (adr w 306)), (1, .int x0), (2, .int (i4 + 1))]) [1, 2, 0] rfl ?_
          exact jo_leaf (by rfl) (hF2_4 (i4 + 1))
        · refine jo_lv (lv' := [(0, .ref (adr w 306)), (2, .int i4)]) [0, 2] rfl ?_
          exact jo_leaf (by rfl) (h21_2 i4)
theorem c_X11_layer {w : Wd} (hw : WOK w) (hN : wn w = NT) {σ : Mem} {x0 : Int32} : ∀ r, f_X11_layer σ x0 = some r → MC w mu_X11_layer (vI r) [.ref (adr w 306), .int x0] σ σ := mc_ofP ok_X11_layer rfl (Nat.le_of_ble_eq_true rfl) (t_X11_layer hw hN)
abbrev mu_X11_place : MD := (yX11_place, cX11_place, 5, some .int, 1)
theorem ok_X11_place : MOK mu_X11_place 1 := ⟨gw_1807, gw_171, (by decide +kernel : plainFor yX11_place = true), ⟨(by decide +kernel : yX11_place.cls ≠ "java/lang/invoke/MethodHandle"), (by decide +kernel : yX11_place.cls ≠ "java/lang/invoke/VarHandle"), (by decide +kernel : (parseMethodDescriptor yX11_place.desc).map (fun d => d.parameters.length) = some 1)⟩, Nat.le_of_ble_eq_true rfl⟩
noncomputable def j_X11_place_75 (σ : Mem) : Option Int32 :=
  gF σ 306 29 (fun (v1 : Int32) => some v1)
noncomputable def j_X11_place_63 (i2 : Int32) (i4 : Int32) : Option (Int32 ⊕ (Unit ⊕ Int32)) :=
  if i4 = 0 then (some (Sum.inl (i2 + 1))) else (some (Sum.inr (Sum.inr i2)))
noncomputable def j_X11_place_56 (i6 : Int32) (b10 : Bool) : Option ((Int32 × Int32) ⊕ Int32) :=
  some (Sum.inl (b2i b10, i6 + 1))
noncomputable def l_X11_place_15 (σ : Mem) (x0 : Int32) (i2 : Int32) (i5 : Int32) (i6 : Int32) : Option ((Int32 × Int32) ⊕ Int32) :=
  (f_X11_n σ).bind (fun (v7 : Int32) => if v7 ≤ i6 then (some (Sum.inr i5)) else (if i5 = 0 then (some (Sum.inr i5)) else (gL σ 319 ((6 * i2) + i6) (fun (v8 : Int64) => (f_X11_of σ x0 i6).bind (fun (v9 : Int64) => (if v8 = v9 then (some true) else (some false) : Option Bool).bind (fun (z10 : Bool) => j_X11_place_56 i6 z10))))))
noncomputable def l_X11_place_2 (σ : Mem) (x0 : Int32) (i2 : Int32) : Option (Int32 ⊕ (Unit ⊕ Int32)) :=
  gF σ 306 29 (fun (v3 : Int32) => if v3 ≤ i2 then (some (Sum.inr (Sum.inl ()))) else ((loopO (fun (z6 : (Int32 × Int32)) => l_X11_place_15 σ x0 i2 z6.1 z6.2) (1, 0) : Option Int32).bind (fun (z4 : Int32) => j_X11_place_63 i2 z4)))
noncomputable def f_X11_place (σ : Mem) (x0 : Int32) : Option Int32 :=
  (loopO (fun (z2 : Int32) => l_X11_place_2 σ x0 z2) 0 : Option (Unit ⊕ Int32)).bind (Sum.elim (fun (z0 : Unit) => j_X11_place_75 σ) some)
theorem t_X11_place {w : Wd} (hw : WOK w) (hN : wn w = NT) {σ : Mem} {x0 : Int32} : JO w mu_X11_place vI σ [(0, .ref (adr w 306)), (1, .int x0)] [] 0 (f_X11_place σ x0) (fun z => some (z, σ)) := by
  unfold f_X11_place
  refine jo_iconst (pc := 0) dX11_place_0 (ic_i_0) ?_
  refine jo_istore_n (pc := 1) (lv' := [(2, .int 0), (0, .ref (adr w 306)), (1, .int x0)]) dX11_place_1 rfl (ltb rfl) rfl ?_
  refine jo_joinS (S := Unit) (fun (z0 : Unit) => σ) (fun (z0 : Unit) => [(0, .ref (adr w 306))]) (fun (z0 : Unit) => []) 75 ?_ (fun h75_0 => ?_)
  · intro _
    show JO w mu_X11_place vI σ [(0, .ref (adr w 306))] [] 75 (j_X11_place_75 σ) _
    unfold j_X11_place_75
    refine jo_aload_n (pc := 75) 0 rfl dX11_place_75 rfl ?_
    refine jo_getf (pc := 76) ok_11_29 (ik_306 hw hN) gw_1322 dX11_place_76 (fun v1 => ?_)
    exact jo_ireturn (pc := 79) rfl rfl dX11_place_79
  · refine jo_lv (lv' := [(0, .ref (adr w 306)), (1, .int x0), (2, .int 0)]) [1, 2, 0] rfl ?_
    refine jo_loop (X := Unit ⊕ Int32) (fun (z2 : Int32) => σ) (fun (z2 : Int32) => [(0, .ref (adr w 306)), (1, .int x0), (2, .int z2)]) (body := (fun (z2 : Int32) => l_X11_place_2 σ x0 z2)) (fun F2_2 hF2_2 s => ?_) 0
    revert s; intro i2
    show JO w mu_X11_place vI σ [(0, .ref (adr w 306)), (1, .int x0), (2, .int i2)] [] 2 (l_X11_place_2 σ x0 i2) _
    unfold l_X11_place_2
    refine jo_iload_n (pc := 2) 2 rfl dX11_place_2 rfl ?_
    refine jo_aload_n (pc := 3) 0 rfl dX11_place_3 rfl ?_
    refine jo_getf (pc := 4) ok_11_29 (ik_306 hw hN) gw_1322 dX11_place_4 (fun v3 => ?_)
    refine jo_icmp_ge (pc := 7) dX11_place_7 (tgt := 75) rfl ?_ ?_
    · refine jo_lv (lv' := [(0, .ref (adr w 306))]) [0] rfl ?_
      exact jo_leaf (by rfl) (h75_0 ())
    · refine jo_iconst (pc := 10) dX11_place_10 (ic_i_1) ?_
      refine jo_istore_n (pc := 11) (lv' := [(3, .int 1), (0, .ref (adr w 306)), (1, .int x0), (2, .int i2)]) dX11_place_11 rfl (ltb rfl) rfl ?_
      refine jo_iconst (pc := 12) dX11_place_12 (ic_i_0) ?_
      refine jo_istore (pc := 13) (lv' := [(4, .int 0), (3, .int 1), (0, .ref (adr w 306)), (1, .int x0), (2, .int i2)]) dX11_place_13 (ltb rfl) rfl ?_
      refine jo_join1 (S := Int32) (fun (z4 : Int32) => σ) (fun (z4 : Int32) => [(0, .ref (adr w 306)), (1, .int x0), (2, .int i2), (3, .int z4)]) (fun (z4 : Int32) => []) 63 ?_ (fun h63_4 => ?_)
      · intro i4
        show JO w mu_X11_place vI σ [(0, .ref (adr w 306)), (1, .int x0), (2, .int i2), (3, .int i4)] [] 63 (j_X11_place_63 i2 i4) _
        unfold j_X11_place_63
        refine jo_iload_n (pc := 63) 3 rfl dX11_place_63 rfl ?_
        refine jo_if_eq (pc := 64) dX11_place_64 (tgt := 69) rfl ?_ ?_
        · refine jo_iinc (pc := 69) (lv' := [(2, .int (i2 + 1)), (0, .ref (adr w 306)), (1, .int x0), (3, .int i4)]) 2 rfl dX11_place_69 (congrArg (fun z => i2 + z) (ic_i_1)) (ltb rfl) rfl ?_
          refine jo_goto (pc := 72) dX11_place_72 (tgt := 2) rfl ?_
          refine jo_lv (lv' := [(0, .ref (adr w 306)), (1, .int x0), (2, .int (i2 + 1))]) [1, 2, 0] rfl ?_
          exact jo_leaf (by rfl) (hF2_2 (i2 + 1))
        · refine jo_iload_n (pc := 67) 2 rfl dX11_place_67 rfl ?_
          exact jo_ireturn (pc := 68) rfl rfl dX11_place_68
      · refine jo_lv (lv' := [(0, .ref (adr w 306)), (1, .int x0), (2, .int i2), (3, .int 1), (4, .int 0)]) [2, 3, 4, 1, 0] rfl ?_
        refine jo_loop (X := Int32) (fun (z6 : (Int32 × Int32)) => σ) (fun (z6 : (Int32 × Int32)) => [(0, .ref (adr w 306)), (1, .int x0), (2, .int i2), (3, .int z6.1), (4, .int z6.2)]) (body := (fun (z6 : (Int32 × Int32)) => l_X11_place_15 σ x0 i2 z6.1 z6.2)) (fun F15_6 hF15_6 s => ?_) (1, 0)
        obtain ⟨i5, i6⟩ := s
        show JO w mu_X11_place vI σ [(0, .ref (adr w 306)), (1, .int x0), (2, .int i2), (3, .int i5), (4, .int i6)] [] 15 (l_X11_place_15 σ x0 i2 i5 i6) _
        unfold l_X11_place_15
        refine jo_iload (pc := 15) 4 rfl dX11_place_15 ?_
        refine jo_aload_n (pc := 17) 0 rfl dX11_place_17 rfl ?_
        refine jo_cV_I_p (pc := 18) (μ' := mu_X11_n) (fx := f_X11_n σ) (As := []) (c_X11_n hw hN) (ok_X11_n) (ltb rfl) (all3 gw_1441 gw_1443 gw_68) (ik_306 hw hN) (by decide) (q := (RX11, TX11, 39)) rfl rfl rfl rfl (Nat.le_of_ble_eq_true rfl) dX11_place_18 (fun v7 => ?_)
        refine jo_icmp_ge (pc := 21) dX11_place_21 (tgt := 63) rfl ?_ ?_
        · refine jo_lv (lv' := [(0, .ref (adr w 306)), (1, .int x0), (2, .int i2), (3, .int i5)]) [0, 1, 2, 3] rfl ?_
          exact jo_leaf (by rfl) (h63_4 i5)
        · refine jo_iload_n (pc := 24) 3 rfl dX11_place_24 rfl ?_
          refine jo_if_eq (pc := 25) dX11_place_25 (tgt := 63) rfl ?_ ?_
          · refine jo_lv (lv' := [(0, .ref (adr w 306)), (1, .int x0), (2, .int i2), (3, .int i5)]) [0, 1, 2, 3] rfl ?_
            exact jo_leaf (by rfl) (h63_4 i5)
          · refine jo_aload_n (pc := 28) 0 rfl dX11_place_28 rfl ?_
            refine jo_getrE (pc := 29) ok_11_28 (ik_306 hw hN) rf_306_28 gw_1321 dX11_place_29 ?_
            refine jo_bipush (pc := 32) dX11_place_32 (ic_b_6) ?_
            refine jo_iload_n (pc := 34) 2 rfl dX11_place_34 rfl ?_
            refine jo_imul (pc := 35) dX11_place_35 ?_
            refine jo_iload (pc := 36) 4 rfl dX11_place_36 ?_
            refine jo_iadd (pc := 38) dX11_place_38 ?_
            refine jo_lald (pc := 39) (ik_319 hw hN) dX11_place_39 (fun v8 => ?_)
            refine jo_aload_n (pc := 40) 0 rfl dX11_place_40 rfl ?_
            refine jo_iload_n (pc := 41) 1 rfl dX11_place_41 rfl ?_
            refine jo_iload (pc := 42) 4 rfl dX11_place_42 ?_
            refine jo_cV_J_p (pc := 44) (μ' := mu_X11_of) (fx := f_X11_of σ x0 i6) (As := [.int x0, .int i6]) (c_X11_of hw hN) (ok_X11_of) (ltb rfl) (all3 gw_1527 gw_1529 gw_87) (ik_306 hw hN) (by decide) (q := (RX11, TX11, 39)) rfl rfl rfl rfl (Nat.le_of_ble_eq_true rfl) dX11_place_44 (fun v9 => ?_)
            refine jo_join1 (S := Bool) (fun (z10 : Bool) => σ) (fun (z10 : Bool) => [(0, .ref (adr w 306)), (1, .int x0), (2, .int i2), (4, .int i6)]) (fun (z10 : Bool) => [.int (b2i z10)]) 56 ?_ (fun h56_10 => ?_)
            · intro b10
              show JO w mu_X11_place vI σ [(0, .ref (adr w 306)), (1, .int x0), (2, .int i2), (4, .int i6)] [.int (b2i b10)] 56 (j_X11_place_56 i6 b10) _
              unfold j_X11_place_56
              refine jo_istore_n (pc := 56) (lv' := [(3, .int (b2i b10)), (0, .ref (adr w 306)), (1, .int x0), (2, .int i2), (4, .int i6)]) dX11_place_56 rfl (ltb rfl) rfl ?_
              refine jo_iinc (pc := 57) (lv' := [(4, .int (i6 + 1)), (3, .int (b2i b10)), (0, .ref (adr w 306)), (1, .int x0), (2, .int i2)]) 4 rfl dX11_place_57 (congrArg (fun z => i6 + z) (ic_i_1)) (ltb rfl) rfl ?_
              refine jo_goto (pc := 60) dX11_place_60 (tgt := 15) rfl ?_
              refine jo_lv (lv' := [(0, .ref (adr w 306)), (1, .int x0), (2, .int i2), (3, .int (b2i b10)), (4, .int (i6 + 1))]) [2, 3, 4, 1, 0] rfl ?_
              exact jo_leaf (by rfl) (hF15_6 (b2i b10, i6 + 1))
            · refine jo_lcmp_ne (pc := 47) dX11_place_47 dX11_place_48 (tgt := 55) rfl ?_ ?_
              · refine jo_iconst (pc := 55) dX11_place_55 (ic_i_0) ?_
                refine jo_lv (lv' := [(0, .ref (adr w 306)), (1, .int x0), (2, .int i2), (4, .int i6)]) [0, 1, 2, 4] rfl ?_
                exact jo_leaf (by rfl) (h56_10 false)
              · refine jo_iconst (pc := 51) dX11_place_51 (ic_i_1) ?_
                refine jo_goto (pc := 52) dX11_place_52 (tgt := 56) rfl ?_
                refine jo_lv (lv' := [(0, .ref (adr w 306)), (1, .int x0), (2, .int i2), (4, .int i6)]) [0, 1, 2, 4] rfl ?_
                exact jo_leaf (by rfl) (h56_10 true)
theorem c_X11_place {w : Wd} (hw : WOK w) (hN : wn w = NT) {σ : Mem} {x0 : Int32} : ∀ r, f_X11_place σ x0 = some r → MC w mu_X11_place (vI r) [.ref (adr w 306), .int x0] σ σ := mc_ofP ok_X11_place rfl (Nat.le_of_ble_eq_true rfl) (t_X11_place hw hN)
abbrev mu_X11_meets : MD := (yX11_meets, cX11_meets, 4, none, 2)
theorem ok_X11_meets : MOK mu_X11_meets 1 := ⟨gw_1803, gw_171, (by decide +kernel : plainFor yX11_meets = true), ⟨(by decide +kernel : yX11_meets.cls ≠ "java/lang/invoke/MethodHandle"), (by decide +kernel : yX11_meets.cls ≠ "java/lang/invoke/VarHandle"), (by decide +kernel : (parseMethodDescriptor yX11_meets.desc).map (fun d => d.parameters.length) = some 1)⟩, Nat.le_of_ble_eq_true rfl⟩
noncomputable def j_X11_meets_46 (σ3 : Mem) : Option Mem :=
  gF σ3 306 29 (fun (v4 : Int32) => pF σ3 306 29 (v4 + 1) (fun (σ5 : Mem) => some σ5))
noncomputable def l_X11_meets_17 (x0 : Int32) (v1 : Int32) (σ6 : Mem) (i7 : Int32) : Option ((Mem × Int32) ⊕ Mem) :=
  if 6 ≤ i7 then (some (Sum.inr σ6)) else ((f_X11_of σ6 x0 i7).bind (fun (v8 : Int64) => pL σ6 319 ((6 * v1) + i7) v8 (fun (σ9 : Mem) => some (Sum.inl (σ9, i7 + 1)))))
noncomputable def f_X11_meets (σ : Mem) (x0 : Int32) : Option Mem :=
  (f_X11_place σ x0).bind (fun (v1 : Int32) => gF σ 306 29 (fun (v2 : Int32) => if v2 ≤ v1 then ((loopO (fun (z7 : (Mem × Int32)) => l_X11_meets_17 x0 v1 z7.1 z7.2) (σ, 0) : Option Mem).bind (fun (z3 : Mem) => j_X11_meets_46 z3)) else (some σ)))
theorem t_X11_meets {w : Wd} (hw : WOK w) (hN : wn w = NT) {σ : Mem} {x0 : Int32} : JO w mu_X11_meets vV σ [(0, .ref (adr w 306)), (1, .int x0)] [] 0 (f_X11_meets σ x0) (fun z => some ((), z)) := by
  unfold f_X11_meets
  refine jo_aload_n (pc := 0) 0 rfl dX11_meets_0 rfl ?_
  refine jo_iload_n (pc := 1) 1 rfl dX11_meets_1 rfl ?_
  refine jo_cV_I_p (pc := 2) (μ' := mu_X11_place) (fx := f_X11_place σ x0) (As := [.int x0]) (c_X11_place hw hN) (ok_X11_place) (ltb rfl) (all3 gw_1804 gw_1806 gw_133) (ik_306 hw hN) (by decide) (q := (RX11, TX11, 39)) rfl rfl rfl rfl (Nat.le_of_ble_eq_true rfl) dX11_meets_2 (fun v1 => ?_)
  refine jo_istore_n (pc := 5) (lv' := [(2, .int v1), (0, .ref (adr w 306)), (1, .int x0)]) dX11_meets_5 rfl (ltb rfl) rfl ?_
  refine jo_iload_n (pc := 6) 0 rfl dX11_meets_6 rfl ?_
  refine jo_aload_n (pc := 7) 1 rfl dX11_meets_7 rfl ?_
  refine jo_getf (pc := 8) ok_11_29 (ik_306 hw hN) gw_1322 dX11_meets_8 (fun v2 => ?_)
  refine jo_icmp_ge (pc := 11) dX11_meets_11 (tgt := 15) rfl ?_ ?_
  · refine jo_iconst (pc := 15) dX11_meets_15 (ic_i_0) ?_
    refine jo_istore_n (pc := 16) (lv' := [(3, .int 0), (2, .int v1), (0, .ref (adr w 306)), (1, .int x0)]) dX11_meets_16 rfl (ltb rfl) rfl ?_
    refine jo_join1 (S := Mem) (fun (z3 : Mem) => z3) (fun (z3 : Mem) => [(0, .ref (adr w 306))]) (fun (z3 : Mem) => []) 46 ?_ (fun h46_3 => ?_)
    · intro σ3
      show JO w mu_X11_meets vV σ3 [(0, .ref (adr w 306))] [] 46 (j_X11_meets_46 σ3) _
      unfold j_X11_meets_46
      refine jo_aload_n (pc := 46) 0 rfl dX11_meets_46 rfl ?_
      refine jo_aload_n (pc := 47) 0 rfl dX11_meets_47 rfl ?_
      refine jo_getf (pc := 48) ok_11_29 (ik_306 hw hN) gw_1322 dX11_meets_48 (fun v4 => ?_)
      refine jo_iconst (pc := 51) dX11_meets_51 (ic_i_1) ?_
      refine jo_iadd (pc := 52) dX11_meets_52 ?_
      refine jo_putf (pc := 53) ok_11_29 okp_11_29 (ik_306 hw hN) gw_1322 dX11_meets_53 (fun σ5 => ?_)
      exact jo_return (pc := 56) rfl rfl dX11_meets_56
    · refine jo_lv (lv' := [(2, .int v1), (0, .ref (adr w 306)), (1, .int x0), (3, .int 0)]) [1, 2, 3, 0] rfl ?_
      refine jo_loop (X := Mem) (fun (z7 : (Mem × Int32)) => z7.1) (fun (z7 : (Mem × Int32)) => [(2, .int v1), (0, .ref (adr w 306)), (1, .int x0), (3, .int z7.2)]) (body := (fun (z7 : (Mem × Int32)) => l_X11_meets_17 x0 v1 z7.1 z7.2)) (fun F17_7 hF17_7 s => ?_) (σ, 0)
      obtain ⟨σ6, i7⟩ := s
      show JO w mu_X11_meets vV σ6 [(2, .int v1), (0, .ref (adr w 306)), (1, .int x0), (3, .int i7)] [] 17 (l_X11_meets_17 x0 v1 σ6 i7) _
      unfold l_X11_meets_17
      refine jo_iload_n (pc := 17) 3 rfl dX11_meets_17 rfl ?_
      refine jo_bipush (pc := 18) dX11_meets_18 (ic_b_6) ?_
      refine jo_icmp_ge (pc := 20) dX11_meets_20 (tgt := 46) rfl ?_ ?_
      · refine jo_lv (lv' := [(0, .ref (adr w 306))]) [1] rfl ?_
        exact jo_leaf (by rfl) (h46_3 σ6)
      · refine jo_aload_n (pc := 23) 1 rfl dX11_meets_23 rfl ?_
        refine jo_getrE (pc := 24) ok_11_28 (ik_306 hw hN) rf_306_28 gw_1321 dX11_meets_24 ?_
        refine jo_bipush (pc := 27) dX11_meets_27 (ic_b_6) ?_
        refine jo_iload_n (pc := 29) 0 rfl dX11_meets_29 rfl ?_
        refine jo_imul (pc := 30) dX11_meets_30 ?_
        refine jo_iload_n (pc := 31) 3 rfl dX11_meets_31 rfl ?_
        refine jo_iadd (pc := 32) dX11_meets_32 ?_
        refine jo_aload_n (pc := 33) 1 rfl dX11_meets_33 rfl ?_
        refine jo_iload_n (pc := 34) 2 rfl dX11_meets_34 rfl ?_
        refine jo_iload_n (pc := 35) 3 rfl dX11_meets_35 rfl ?_
        refine jo_cV_J_p (pc := 36) (μ' := mu_X11_of) (fx := f_X11_of σ6 x0 i7) (As := [.int x0, .int i7]) (c_X11_of hw hN) (ok_X11_of) (ltb rfl) (all3 gw_1527 gw_1529 gw_87) (ik_306 hw hN) (by decide) (q := (RX11, TX11, 39)) rfl rfl rfl rfl (Nat.le_of_ble_eq_true rfl) dX11_meets_36 (fun v8 => ?_)
        refine jo_last (pc := 39) (ik_319 hw hN) dX11_meets_39 (fun σ9 => ?_)
        refine jo_iinc (pc := 40) (lv' := [(3, .int (i7 + 1)), (2, .int v1), (0, .ref (adr w 306)), (1, .int x0)]) 3 rfl dX11_meets_40 (congrArg (fun z => i7 + z) (ic_i_1)) (ltb rfl) rfl ?_
        refine jo_goto (pc := 43) dX11_meets_43 (tgt := 17) rfl ?_
        refine jo_lv (lv' := [(2, .int v1), (0, .ref (adr w 306)), (1, .int x0), (3, .int (i7 + 1))]) [1, 2, 3, 0] rfl ?_
        exact jo_leaf (by rfl) (hF17_7 (σ9, i7 + 1))
  · exact jo_return (pc := 14) rfl rfl dX11_meets_14
theorem c_X11_meets {w : Wd} (hw : WOK w) (hN : wn w = NT) {σ : Mem} {x0 : Int32} : ∀ σ', f_X11_meets σ x0 = some σ' → MC w mu_X11_meets none [.ref (adr w 306), .int x0] σ σ' := mc_ofV ok_X11_meets rfl (Nat.le_of_ble_eq_true rfl) (t_X11_meets hw hN)
abbrev mu_X11_laysBall : MD := (yX11_laysBall, cX11_laysBall, 8, some .int, 3)
theorem ok_X11_laysBall : MOK mu_X11_laysBall 1 := ⟨gw_1799, gw_171, (by decide +kernel : plainFor yX11_laysBall = true), ⟨(by decide +kernel : yX11_laysBall.cls ≠ "java/lang/invoke/MethodHandle"), (by decide +kernel : yX11_laysBall.cls ≠ "java/lang/invoke/VarHandle"), (by decide +kernel : (parseMethodDescriptor yX11_laysBall.desc).map (fun d => d.parameters.length) = some 1)⟩, Nat.le_of_ble_eq_true rfl⟩
noncomputable def j_X11_laysBall_174 (σ4 : Mem) : Option (Int32 × Mem) :=
  gF σ4 306 29 (fun (v5 : Int32) => some (v5, σ4))
noncomputable def j_X11_laysBall_148 (σ6 : Mem) : Option (Mem ⊕ (Int32 × Mem)) :=
  gF σ6 306 29 (fun (v7 : Int32) => some (Sum.inr (v7, σ6)))
noncomputable def j_X11_laysBall_165 (i10 : Int32) (v11 : Int32) (σ12 : Mem) : Option ((Mem × Int32 × Int32) ⊕ (Mem ⊕ (Mem ⊕ (Int32 × Mem)))) :=
  some (Sum.inl (σ12, v11, i10 + 1))
noncomputable def j_X11_laysBall_159 (i14 : Int32) (σ15 : Mem) : Option ((Mem × Int32) ⊕ (Mem ⊕ ((Mem × Int32 × Int32) ⊕ (Mem ⊕ (Mem ⊕ (Int32 × Mem)))))) :=
  some (Sum.inl (σ15, i14 + 1))
noncomputable def j_X11_laysBall_153 (i17 : Int32) (σ20 : Mem) : Option ((Mem × Int32) ⊕ (Mem ⊕ ((Mem × Int32) ⊕ (Mem ⊕ ((Mem × Int32 × Int32) ⊕ (Mem ⊕ (Mem ⊕ (Int32 × Mem)))))))) :=
  some (Sum.inl (σ20, i17 + 1))
noncomputable def j_X11_laysBall_129 (i17 : Int32) (σ21 : Mem) (l22 : Int64) : Option (Mem ⊕ ((Mem × Int32) ⊕ (Mem ⊕ ((Mem × Int32) ⊕ (Mem ⊕ ((Mem × Int32 × Int32) ⊕ (Mem ⊕ (Mem ⊕ (Int32 × Mem))))))))) :=
  (f_X11_timesLetter σ21 20 (i17 / 2) l22).bind (fun (σ23 : Mem) => (f_X11_meets σ23 20).bind (fun (σ24 : Mem) => gF σ24 306 29 (fun (v25 : Int32) => if v25 ≤ 1000 then (some (Sum.inl σ24)) else (some (Sum.inr (Sum.inr (Sum.inr (Sum.inr (Sum.inr (Sum.inr (Sum.inl σ24)))))))))))
noncomputable def j_X11_laysBall_108 (i17 : Int32) (σ21 : Mem) : Option (Mem ⊕ ((Mem × Int32) ⊕ (Mem ⊕ ((Mem × Int32) ⊕ (Mem ⊕ ((Mem × Int32 × Int32) ⊕ (Mem ⊕ (Mem ⊕ (Int32 × Mem))))))))) :=
  nzI 2 (nzI 2 ((if (i17 - i17 / 2 * 2) = 0 then (some 1) else (some (-1)) : Option Int64).bind (fun (z22 : Int64) => j_X11_laysBall_129 i17 σ21 z22)))
noncomputable def l_X11_laysBall_74 (i14 : Int32) (σ26 : Mem) (i27 : Int32) : Option ((Mem × Int32) ⊕ Mem) :=
  if 6 ≤ i27 then (some (Sum.inr σ26)) else (gL σ26 319 ((6 * i14) + i27) (fun (v28 : Int64) => (f_X11_puts σ26 20 i27 v28).bind (fun (σ29 : Mem) => some (Sum.inl (σ29, i27 + 1)))))
noncomputable def l_X11_laysBall_45 (i14 : Int32) (σ16 : Mem) (i17 : Int32) : Option ((Mem × Int32) ⊕ (Mem ⊕ ((Mem × Int32) ⊕ (Mem ⊕ ((Mem × Int32 × Int32) ⊕ (Mem ⊕ (Mem ⊕ (Int32 × Mem)))))))) :=
  (f_X11_n σ16).bind (fun (v18 : Int32) => if (2 * v18) ≤ i17 then (some (Sum.inr (Sum.inl σ16))) else (nzI 2 ((f_X11_weight σ16 (i17 / 2)).bind (fun (v19 : Int32) => (if v19 ≤ 1 then ((loopO (fun (z27 : (Mem × Int32)) => l_X11_laysBall_74 i14 z27.1 z27.2) (σ16, 0) : Option Mem).bind (fun (z21 : Mem) => j_X11_laysBall_108 i17 z21)) else (some (Sum.inl σ16)) : Option (Mem ⊕ ((Mem × Int32) ⊕ (Mem ⊕ ((Mem × Int32) ⊕ (Mem ⊕ ((Mem × Int32 × Int32) ⊕ (Mem ⊕ (Mem ⊕ (Int32 × Mem)))))))))).bind (Sum.elim (fun (z20 : Mem) => j_X11_laysBall_153 i17 z20) some)))))
noncomputable def l_X11_laysBall_35 (v11 : Int32) (σ13 : Mem) (i14 : Int32) : Option ((Mem × Int32) ⊕ (Mem ⊕ ((Mem × Int32 × Int32) ⊕ (Mem ⊕ (Mem ⊕ (Int32 × Mem)))))) :=
  if v11 ≤ i14 then (some (Sum.inr (Sum.inl σ13))) else ((loopO (fun (z17 : (Mem × Int32)) => l_X11_laysBall_45 i14 z17.1 z17.2) (σ13, 0) : Option (Mem ⊕ ((Mem × Int32) ⊕ (Mem ⊕ ((Mem × Int32 × Int32) ⊕ (Mem ⊕ (Mem ⊕ (Int32 × Mem)))))))).bind (Sum.elim (fun (z15 : Mem) => j_X11_laysBall_159 i14 z15) some))
noncomputable def l_X11_laysBall_21 (x0 : Int32) (σ8 : Mem) (i9 : Int32) (i10 : Int32) : Option ((Mem × Int32 × Int32) ⊕ (Mem ⊕ (Mem ⊕ (Int32 × Mem)))) :=
  if x0 ≤ i10 then (some (Sum.inr (Sum.inr (Sum.inl σ8)))) else (gF σ8 306 29 (fun (v11 : Int32) => (loopO (fun (z14 : (Mem × Int32)) => l_X11_laysBall_35 v11 z14.1 z14.2) (σ8, i9) : Option (Mem ⊕ ((Mem × Int32 × Int32) ⊕ (Mem ⊕ (Mem ⊕ (Int32 × Mem)))))).bind (Sum.elim (fun (z12 : Mem) => j_X11_laysBall_165 i10 v11 z12) some)))
noncomputable def f_X11_laysBall (σ : Mem) (x0 : Int32) : Option (Int32 × Mem) :=
  pF σ 306 29 0 (fun (σ1 : Mem) => (f_X11_ones σ1 20).bind (fun (σ2 : Mem) => (f_X11_meets σ2 20).bind (fun (σ3 : Mem) => ((loopO (fun (z10 : (Mem × Int32 × Int32)) => l_X11_laysBall_21 x0 z10.1 z10.2.1 z10.2.2) (σ3, 0, 0) : Option (Mem ⊕ (Mem ⊕ (Int32 × Mem)))).bind (Sum.elim (fun (z6 : Mem) => j_X11_laysBall_148 z6) some) : Option (Mem ⊕ (Int32 × Mem))).bind (Sum.elim (fun (z4 : Mem) => j_X11_laysBall_174 z4) some))))
theorem t_X11_laysBall {w : Wd} (hw : WOK w) (hN : wn w = NT) {σ : Mem} {x0 : Int32} : JO w mu_X11_laysBall vI σ [(0, .ref (adr w 306)), (1, .int x0)] [] 0 (f_X11_laysBall σ x0) some := by
  unfold f_X11_laysBall
  refine jo_aload_n (pc := 0) 0 rfl dX11_laysBall_0 rfl ?_
  refine jo_iconst (pc := 1) dX11_laysBall_1 (ic_i_0) ?_
  refine jo_putf (pc := 2) ok_11_29 okp_11_29 (ik_306 hw hN) gw_1322 dX11_laysBall_2 (fun σ1 => ?_)
  refine jo_aload_n (pc := 5) 0 rfl dX11_laysBall_5 rfl ?_
  refine jo_bipush (pc := 6) dX11_laysBall_6 (ic_b_20) ?_
  refine jo_cV_V_i (pc := 8) (μ' := mu_X11_ones) (fx := f_X11_ones σ1 20) (As := [.int 20]) (c_X11_ones hw hN) (ok_X11_ones) (ltb rfl) (all3 gw_1587 gw_1589 gw_99) (ik_306 hw hN) (by decide) (q := (RX11, TX11, 39)) rfl rfl rfl rfl (Nat.le_of_ble_eq_true rfl) dX11_laysBall_8 (fun σ2 => ?_)
  refine jo_aload_n (pc := 11) 0 rfl dX11_laysBall_11 rfl ?_
  refine jo_bipush (pc := 12) dX11_laysBall_12 (ic_b_20) ?_
  refine jo_cV_V_i (pc := 14) (μ' := mu_X11_meets) (fx := f_X11_meets σ2 20) (As := [.int 20]) (c_X11_meets hw hN) (ok_X11_meets) (ltb rfl) (all3 gw_1800 gw_1802 gw_132) (ik_306 hw hN) (by decide) (q := (RX11, TX11, 39)) rfl rfl rfl rfl (Nat.le_of_ble_eq_true rfl) dX11_laysBall_14 (fun σ3 => ?_)
  refine jo_iconst (pc := 17) dX11_laysBall_17 (ic_i_0) ?_
  refine jo_istore_n (pc := 18) (lv' := [(2, .int 0), (0, .ref (adr w 306)), (1, .int x0)]) dX11_laysBall_18 rfl (ltb rfl) rfl ?_
  refine jo_iconst (pc := 19) dX11_laysBall_19 (ic_i_0) ?_
  refine jo_istore_n (pc := 20) (lv' := [(3, .int 0), (2, .int 0), (0, .ref (adr w 306)), (1, .int x0)]) dX11_laysBall_20 rfl (ltb rfl) rfl ?_
  refine jo_joinS (S := Mem) (fun (z4 : Mem) => z4) (fun (z4 : Mem) => [(0, .ref (adr w 306))]) (fun (z4 : Mem) => []) 174 ?_ (fun h174_4 => ?_)
  · intro σ4
    show JO w mu_X11_laysBall vI σ4 [(0, .ref (adr w 306))] [] 174 (j_X11_laysBall_174 σ4) _
    unfold j_X11_laysBall_174
    refine jo_aload_n (pc := 174) 0 rfl dX11_laysBall_174 rfl ?_
    refine jo_getf (pc := 175) ok_11_29 (ik_306 hw hN) gw_1322 dX11_laysBall_175 (fun v5 => ?_)
    exact jo_ireturn (pc := 178) rfl rfl dX11_laysBall_178
  · refine jo_joinS (S := Mem) (fun (z6 : Mem) => z6) (fun (z6 : Mem) => [(0, .ref (adr w 306))]) (fun (z6 : Mem) => []) 148 ?_ (fun h148_6 => ?_)
    · intro σ6
      show JO w mu_X11_laysBall vI σ6 [(0, .ref (adr w 306))] [] 148 (j_X11_laysBall_148 σ6) _
      unfold j_X11_laysBall_148
      refine jo_aload_n (pc := 148) 0 rfl dX11_laysBall_148 rfl ?_
      refine jo_getf (pc := 149) ok_11_29 (ik_306 hw hN) gw_1322 dX11_laysBall_149 (fun v7 => ?_)
      exact jo_ireturn (pc := 152) rfl rfl dX11_laysBall_152
    · refine jo_lv (lv' := [(0, .ref (adr w 306)), (1, .int x0), (2, .int 0), (3, .int 0)]) [2, 3, 1, 0] rfl ?_
      refine jo_loop (X := Mem ⊕ (Mem ⊕ (Int32 × Mem))) (fun (z10 : (Mem × Int32 × Int32)) => z10.1) (fun (z10 : (Mem × Int32 × Int32)) => [(0, .ref (adr w 306)), (1, .int x0), (2, .int z10.2.1), (3, .int z10.2.2)]) (body := (fun (z10 : (Mem × Int32 × Int32)) => l_X11_laysBall_21 x0 z10.1 z10.2.1 z10.2.2)) (fun F21_10 hF21_10 s => ?_) (σ3, 0, 0)
      obtain ⟨σ8, i9, i10⟩ := s
      show JO w mu_X11_laysBall vI σ8 [(0, .ref (adr w 306)), (1, .int x0), (2, .int i9), (3, .int i10)] [] 21 (l_X11_laysBall_21 x0 σ8 i9 i10) _
      unfold l_X11_laysBall_21
      refine jo_iload_n (pc := 21) 3 rfl dX11_laysBall_21 rfl ?_
      refine jo_iload_n (pc := 22) 1 rfl dX11_laysBall_22 rfl ?_
      refine jo_icmp_ge (pc := 23) dX11_laysBall_23 (tgt := 174) rfl ?_ ?_
      · refine jo_lv (lv' := [(0, .ref (adr w 306))]) [0] rfl ?_
        exact jo_leaf (by rfl) (h174_4 σ8)
      · refine jo_aload_n (pc := 26) 0 rfl dX11_laysBall_26 rfl ?_
        refine jo_getf (pc := 27) ok_11_29 (ik_306 hw hN) gw_1322 dX11_laysBall_27 (fun v11 => ?_)
        refine jo_istore (pc := 30) (lv' := [(4, .int v11), (0, .ref (adr w 306)), (1, .int x0), (2, .int i9), (3, .int i10)]) dX11_laysBall_30 (ltb rfl) rfl ?_
        refine jo_iload_n (pc := 32) 3 rfl dX11_laysBall_32 rfl ?_
        refine jo_istore (pc := 33) (lv' := [(5, .int i9), (4, .int v11), (0, .ref (adr w 306)), (1, .int x0), (2, .int i9), (3, .int i10)]) dX11_laysBall_33 (ltb rfl) rfl ?_
        refine jo_joinS (S := Mem) (fun (z12 : Mem) => z12) (fun (z12 : Mem) => [(4, .int v11), (0, .ref (adr w 306)), (1, .int x0), (3, .int i10)]) (fun (z12 : Mem) => []) 165 ?_ (fun h165_12 => ?_)
        · intro σ12
          show JO w mu_X11_laysBall vI σ12 [(4, .int v11), (0, .ref (adr w 306)), (1, .int x0), (3, .int i10)] [] 165 (j_X11_laysBall_165 i10 v11 σ12) _
          unfold j_X11_laysBall_165
          refine jo_iload (pc := 165) 0 rfl dX11_laysBall_165 ?_
          refine jo_istore_n (pc := 167) (lv' := [(2, .int v11), (4, .int v11), (0, .ref (adr w 306)), (1, .int x0), (3, .int i10)]) dX11_laysBall_167 rfl (ltb rfl) rfl ?_
          refine jo_iinc (pc := 168) (lv' := [(3, .int (i10 + 1)), (2, .int v11), (4, .int v11), (0, .ref (adr w 306)), (1, .int x0)]) 4 rfl dX11_laysBall_168 (congrArg (fun z => i10 + z) (ic_i_1)) (ltb rfl) rfl ?_
          refine jo_goto (pc := 171) dX11_laysBall_171 (tgt := 21) rfl ?_
          refine jo_lv (lv' := [(0, .ref (adr w 306)), (1, .int x0), (2, .int v11), (3, .int (i10 + 1))]) [3, 4, 1, 0] rfl ?_
          exact jo_leaf (by rfl) (hF21_10 (σ12, v11, i10 + 1))
        · refine jo_lv (lv' := [(4, .int v11), (0, .ref (adr w 306)), (1, .int x0), (3, .int i10), (5, .int i9)]) [1, 2, 3, 5, 0] rfl ?_
          refine jo_loop (X := Mem ⊕ ((Mem × Int32 × Int32) ⊕ (Mem ⊕ (Mem ⊕ (Int32 × Mem))))) (fun (z14 : (Mem × Int32)) => z14.1) (fun (z14 : (Mem × Int32)) => [(4, .int v11), (0, .ref (adr w 306)), (1, .int x0), (3, .int i10), (5, .int z14.2)]) (body := (fun (z14 : (Mem × Int32)) => l_X11_laysBall_35 v11 z14.1 z14.2)) (fun F35_14 hF35_14 s => ?_) (σ8, i9)
          obtain ⟨σ13, i14⟩ := s
          show JO w mu_X11_laysBall vI σ13 [(4, .int v11), (0, .ref (adr w 306)), (1, .int x0), (3, .int i10), (5, .int i14)] [] 35 (l_X11_laysBall_35 v11 σ13 i14) _
          unfold l_X11_laysBall_35
          refine jo_iload (pc := 35) 4 rfl dX11_laysBall_35 ?_
          refine jo_iload (pc := 37) 0 rfl dX11_laysBall_37 ?_
          refine jo_icmp_ge (pc := 39) dX11_laysBall_39 (tgt := 165) rfl ?_ ?_
          · refine jo_lv (lv' := [(4, .int v11), (0, .ref (adr w 306)), (1, .int x0), (3, .int i10)]) [0, 1, 2, 3] rfl ?_
            exact jo_leaf (by rfl) (h165_12 σ13)
          · refine jo_iconst (pc := 42) dX11_laysBall_42 (ic_i_0) ?_
            refine jo_istore (pc := 43) (lv' := [(6, .int 0), (4, .int v11), (0, .ref (adr w 306)), (1, .int x0), (3, .int i10), (5, .int i14)]) dX11_laysBall_43 (ltb rfl) rfl ?_
            refine jo_joinS (S := Mem) (fun (z15 : Mem) => z15) (fun (z15 : Mem) => [(4, .int v11), (0, .ref (adr w 306)), (1, .int x0), (3, .int i10), (5, .int i14)]) (fun (z15 : Mem) => []) 159 ?_ (fun h159_15 => ?_)
            · intro σ15
              show JO w mu_X11_laysBall vI σ15 [(4, .int v11), (0, .ref (adr w 306)), (1, .int x0), (3, .int i10), (5, .int i14)] [] 159 (j_X11_laysBall_159 i14 σ15) _
              unfold j_X11_laysBall_159
              refine jo_iinc (pc := 159) (lv' := [(5, .int (i14 + 1)), (4, .int v11), (0, .ref (adr w 306)), (1, .int x0), (3, .int i10)]) 4 rfl dX11_laysBall_159 (congrArg (fun z => i14 + z) (ic_i_1)) (ltb rfl) rfl ?_
              refine jo_goto (pc := 162) dX11_laysBall_162 (tgt := 35) rfl ?_
              refine jo_lv (lv' := [(4, .int v11), (0, .ref (adr w 306)), (1, .int x0), (3, .int i10), (5, .int (i14 + 1))]) [1, 2, 3, 4, 0] rfl ?_
              exact jo_leaf (by rfl) (hF35_14 (σ15, i14 + 1))
            · refine jo_lv (lv' := [(4, .int v11), (0, .ref (adr w 306)), (1, .int x0), (3, .int i10), (5, .int i14), (6, .int 0)]) [1, 2, 3, 4, 5, 0] rfl ?_
              refine jo_loop (X := Mem ⊕ ((Mem × Int32) ⊕ (Mem ⊕ ((Mem × Int32 × Int32) ⊕ (Mem ⊕ (Mem ⊕ (Int32 × Mem))))))) (fun (z17 : (Mem × Int32)) => z17.1) (fun (z17 : (Mem × Int32)) => [(4, .int v11), (0, .ref (adr w 306)), (1, .int x0), (3, .int i10), (5, .int i14), (6, .int z17.2)]) (body := (fun (z17 : (Mem × Int32)) => l_X11_laysBall_45 i14 z17.1 z17.2)) (fun F45_17 hF45_17 s => ?_) (σ13, 0)
              obtain ⟨σ16, i17⟩ := s
              show JO w mu_X11_laysBall vI σ16 [(4, .int v11), (0, .ref (adr w 306)), (1, .int x0), (3, .int i10), (5, .int i14), (6, .int i17)] [] 45 (l_X11_laysBall_45 i14 σ16 i17) _
              unfold l_X11_laysBall_45
              refine jo_iload (pc := 45) 5 rfl dX11_laysBall_45 ?_
              refine jo_iconst (pc := 47) dX11_laysBall_47 (ic_i_2) ?_
              refine jo_aload_n (pc := 48) 1 rfl dX11_laysBall_48 rfl ?_
              refine jo_cV_I_p (pc := 49) (μ' := mu_X11_n) (fx := f_X11_n σ16) (As := []) (c_X11_n hw hN) (ok_X11_n) (ltb rfl) (all3 gw_1441 gw_1443 gw_68) (ik_306 hw hN) (by decide) (q := (RX11, TX11, 39)) rfl rfl rfl rfl (Nat.le_of_ble_eq_true rfl) dX11_laysBall_49 (fun v18 => ?_)
              refine jo_imul (pc := 52) dX11_laysBall_52 ?_
              refine jo_icmp_ge (pc := 53) dX11_laysBall_53 (tgt := 159) rfl ?_ ?_
              · refine jo_lv (lv' := [(4, .int v11), (0, .ref (adr w 306)), (1, .int x0), (3, .int i10), (5, .int i14)]) [0, 1, 2, 3, 4] rfl ?_
                exact jo_leaf (by rfl) (h159_15 σ16)
              · refine jo_aload_n (pc := 56) 1 rfl dX11_laysBall_56 rfl ?_
                refine jo_iload (pc := 57) 5 rfl dX11_laysBall_57 ?_
                refine jo_iconst (pc := 59) dX11_laysBall_59 (ic_i_2) ?_
                refine jo_idiv (pc := 60) dX11_laysBall_60 ?_
                refine jo_cV_I_p (pc := 61) (μ' := mu_X11_weight) (fx := f_X11_weight σ16 (i17 / 2)) (As := [.int (i17 / 2)]) (c_X11_weight hw hN) (ok_X11_weight) (ltb rfl) (all3 gw_1446 gw_1448 gw_69) (ik_306 hw hN) (by decide) (q := (RX11, TX11, 39)) rfl rfl rfl rfl (Nat.le_of_ble_eq_true rfl) dX11_laysBall_61 (fun v19 => ?_)
                refine jo_iconst (pc := 64) dX11_laysBall_64 (ic_i_1) ?_
                refine jo_joinS (S := Mem) (fun (z20 : Mem) => z20) (fun (z20 : Mem) => [(4, .int v11), (0, .ref (adr w 306)), (1, .int x0), (3, .int i10), (5, .int i14), (6, .int i17)]) (fun (z20 : Mem) => []) 153 ?_ (fun h153_20 => ?_)
                · intro σ20
                  show JO w mu_X11_laysBall vI σ20 [(4, .int v11), (0, .ref (adr w 306)), (1, .int x0), (3, .int i10), (5, .int i14), (6, .int i17)] [] 153 (j_X11_laysBall_153 i17 σ20) _
                  unfold j_X11_laysBall_153
                  refine jo_iinc (pc := 153) (lv' := [(6, .int (i17 + 1)), (4, .int v11), (0, .ref (adr w 306)), (1, .int x0), (3, .int i10), (5, .int i14)]) 5 rfl dX11_laysBall_153 (congrArg (fun z => i17 + z) (ic_i_1)) (ltb rfl) rfl ?_
                  refine jo_goto (pc := 156) dX11_laysBall_156 (tgt := 45) rfl ?_
                  refine jo_lv (lv' := [(4, .int v11), (0, .ref (adr w 306)), (1, .int x0), (3, .int i10), (5, .int i14), (6, .int (i17 + 1))]) [1, 2, 3, 4, 5, 0] rfl ?_
                  exact jo_leaf (by rfl) (hF45_17 (σ20, i17 + 1))
                · refine jo_icmp_le (pc := 65) dX11_laysBall_65 (tgt := 71) rfl ?_ ?_
                  · refine jo_iconst (pc := 71) dX11_laysBall_71 (ic_i_0) ?_
                    refine jo_istore (pc := 72) (lv' := [(7, .int 0), (4, .int v11), (0, .ref (adr w 306)), (1, .int x0), (3, .int i10), (5, .int i14), (6, .int i17)]) dX11_laysBall_72 (ltb rfl) rfl ?_
                    refine jo_join1 (S := Mem) (fun (z21 : Mem) => z21) (fun (z21 : Mem) => [(4, .int v11), (0, .ref (adr w 306)), (1, .int x0), (3, .int i10), (5, .int i14), (6, .int i17)]) (fun (z21 : Mem) => []) 108 ?_ (fun h108_21 => ?_)
                    · intro σ21
                      show JO w mu_X11_laysBall vI σ21 [(4, .int v11), (0, .ref (adr w 306)), (1, .int x0), (3, .int i10), (5, .int i14), (6, .int i17)] [] 108 (j_X11_laysBall_108 i17 σ21) _
                      unfold j_X11_laysBall_108
                      refine jo_aload_n (pc := 108) 1 rfl dX11_laysBall_108 rfl ?_
                      refine jo_bipush (pc := 109) dX11_laysBall_109 (ic_b_20) ?_
                      refine jo_iload (pc := 111) 5 rfl dX11_laysBall_111 ?_
                      refine jo_iconst (pc := 113) dX11_laysBall_113 (ic_i_2) ?_
                      refine jo_idiv (pc := 114) dX11_laysBall_114 ?_
                      refine jo_iload (pc := 115) 5 rfl dX11_laysBall_115 ?_
                      refine jo_iconst (pc := 117) dX11_laysBall_117 (ic_i_2) ?_
                      refine jo_irem (pc := 118) dX11_laysBall_118 ?_
                      refine jo_join1 (S := Int64) (fun (z22 : Int64) => σ21) (fun (z22 : Int64) => [(4, .int v11), (0, .ref (adr w 306)), (1, .int x0), (3, .int i10), (5, .int i14), (6, .int i17)]) (fun (z22 : Int64) => [.long z22, .int (i17 / 2), .int 20, .ref (adr w 306)]) 129 ?_ (fun h129_22 => ?_)
                      · intro l22
                        show JO w mu_X11_laysBall vI σ21 [(4, .int v11), (0, .ref (adr w 306)), (1, .int x0), (3, .int i10), (5, .int i14), (6, .int i17)] [.long l22, .int (i17 / 2), .int 20, .ref (adr w 306)] 129 (j_X11_laysBall_129 i17 σ21 l22) _
                        unfold j_X11_laysBall_129
                        refine jo_cV_V_i (pc := 129) (μ' := mu_X11_timesLetter) (fx := f_X11_timesLetter σ21 20 (i17 / 2) l22) (As := [.int 20, .int (i17 / 2), .long l22]) (c_X11_timesLetter hw hN) (ok_X11_timesLetter) (ltb rfl) (all3 gw_1531 gw_1533 gw_88) (ik_306 hw hN) (by decide) (q := (RX11, TX11, 39)) rfl rfl rfl rfl (Nat.le_of_ble_eq_true rfl) dX11_laysBall_129 (fun σ23 => ?_)
                        refine jo_aload_n (pc := 132) 1 rfl dX11_laysBall_132 rfl ?_
                        refine jo_bipush (pc := 133) dX11_laysBall_133 (ic_b_20) ?_
                        refine jo_cV_V_i (pc := 135) (μ' := mu_X11_meets) (fx := f_X11_meets σ23 20) (As := [.int 20]) (c_X11_meets hw hN) (ok_X11_meets) (ltb rfl) (all3 gw_1800 gw_1802 gw_132) (ik_306 hw hN) (by decide) (q := (RX11, TX11, 39)) rfl rfl rfl rfl (Nat.le_of_ble_eq_true rfl) dX11_laysBall_135 (fun σ24 => ?_)
                        refine jo_aload_n (pc := 138) 1 rfl dX11_laysBall_138 rfl ?_
                        refine jo_getf (pc := 139) ok_11_29 (ik_306 hw hN) gw_1322 dX11_laysBall_139 (fun v25 => ?_)
                        refine jo_sipush (pc := 142) dX11_laysBall_142 (ic_s_1000) ?_
                        refine jo_icmp_le (pc := 145) dX11_laysBall_145 (tgt := 153) rfl ?_ ?_
                        · exact jo_leaf (by rfl) (h153_20 σ24)
                        · refine jo_lv (lv' := [(0, .ref (adr w 306))]) [1] rfl ?_
                          exact jo_leaf (by rfl) (h148_6 σ24)
                      · refine jo_if_ne (pc := 119) dX11_laysBall_119 (tgt := 126) rfl ?_ ?_
                        · refine jo_ldc2 (pc := 126) dX11_laysBall_126 gw_1552 ?_
                          exact jo_leaf (by rfl) (h129_22 (-1))
                        · refine jo_lconst (pc := 122) dX11_laysBall_122 (ic_l_1) ?_
                          refine jo_goto (pc := 123) dX11_laysBall_123 (tgt := 129) rfl ?_
                          exact jo_leaf (by rfl) (h129_22 1)
                    · refine jo_lv (lv' := [(4, .int v11), (0, .ref (adr w 306)), (1, .int x0), (3, .int i10), (5, .int i14), (6, .int i17), (7, .int 0)]) [1, 2, 3, 4, 5, 6, 0] rfl ?_
                      refine jo_loop (X := Mem) (fun (z27 : (Mem × Int32)) => z27.1) (fun (z27 : (Mem × Int32)) => [(4, .int v11), (0, .ref (adr w 306)), (1, .int x0), (3, .int i10), (5, .int i14), (6, .int i17), (7, .int z27.2)]) (body := (fun (z27 : (Mem × Int32)) => l_X11_laysBall_74 i14 z27.1 z27.2)) (fun F74_27 hF74_27 s => ?_) (σ16, 0)
                      obtain ⟨σ26, i27⟩ := s
                      show JO w mu_X11_laysBall vI σ26 [(4, .int v11), (0, .ref (adr w 306)), (1, .int x0), (3, .int i10), (5, .int i14), (6, .int i17), (7, .int i27)] [] 74 (l_X11_laysBall_74 i14 σ26 i27) _
                      unfold l_X11_laysBall_74
                      refine jo_iload (pc := 74) 6 rfl dX11_laysBall_74 ?_
                      refine jo_bipush (pc := 76) dX11_laysBall_76 (ic_b_6) ?_
                      refine jo_icmp_ge (pc := 78) dX11_laysBall_78 (tgt := 108) rfl ?_ ?_
                      · refine jo_lv (lv' := [(4, .int v11), (0, .ref (adr w 306)), (1, .int x0), (3, .int i10), (5, .int i14), (6, .int i17)]) [0, 1, 2, 3, 4, 5] rfl ?_
                        exact jo_leaf (by rfl) (h108_21 σ26)
                      · refine jo_aload_n (pc := 81) 1 rfl dX11_laysBall_81 rfl ?_
                        refine jo_bipush (pc := 82) dX11_laysBall_82 (ic_b_20) ?_
                        refine jo_iload (pc := 84) 6 rfl dX11_laysBall_84 ?_
                        refine jo_aload_n (pc := 86) 1 rfl dX11_laysBall_86 rfl ?_
                        refine jo_getrE (pc := 87) ok_11_28 (ik_306 hw hN) rf_306_28 gw_1321 dX11_laysBall_87 ?_
                        refine jo_bipush (pc := 90) dX11_laysBall_90 (ic_b_6) ?_
                        refine jo_iload (pc := 92) 4 rfl dX11_laysBall_92 ?_
                        refine jo_imul (pc := 94) dX11_laysBall_94 ?_
                        refine jo_iload (pc := 95) 6 rfl dX11_laysBall_95 ?_
                        refine jo_iadd (pc := 97) dX11_laysBall_97 ?_
                        refine jo_lald (pc := 98) (ik_319 hw hN) dX11_laysBall_98 (fun v28 => ?_)
                        refine jo_cV_V_i (pc := 99) (μ' := mu_X11_puts) (fx := f_X11_puts σ26 20 i27 v28) (As := [.int 20, .int i27, .long v28]) (c_X11_puts hw hN) (ok_X11_puts) (ltb rfl) (all3 gw_1519 gw_1521 gw_85) (ik_306 hw hN) (by decide) (q := (RX11, TX11, 39)) rfl rfl rfl rfl (Nat.le_of_ble_eq_true rfl) dX11_laysBall_99 (fun σ29 => ?_)
                        refine jo_iinc (pc := 102) (lv' := [(7, .int (i27 + 1)), (4, .int v11), (0, .ref (adr w 306)), (1, .int x0), (3, .int i10), (5, .int i14), (6, .int i17)]) 6 rfl dX11_laysBall_102 (congrArg (fun z => i27 + z) (ic_i_1)) (ltb rfl) rfl ?_
                        refine jo_goto (pc := 105) dX11_laysBall_105 (tgt := 74) rfl ?_
                        refine jo_lv (lv' := [(4, .int v11), (0, .ref (adr w 306)), (1, .int x0), (3, .int i10), (5, .int i14), (6, .int i17), (7, .int (i27 + 1))]) [1, 2, 3, 4, 5, 6, 0] rfl ?_
                        exact jo_leaf (by rfl) (hF74_27 (σ29, i27 + 1))
                  · refine jo_goto (pc := 68) dX11_laysBall_68 (tgt := 153) rfl ?_
                    exact jo_leaf (by rfl) (h153_20 σ16)
theorem c_X11_laysBall {w : Wd} (hw : WOK w) (hN : wn w = NT) {σ : Mem} {x0 : Int32} : ∀ r σ', f_X11_laysBall σ x0 = some (r, σ') → MC w mu_X11_laysBall (vI r) [.ref (adr w 306), .int x0] σ σ' := mc_of ok_X11_laysBall rfl (Nat.le_of_ble_eq_true rfl) (t_X11_laysBall hw hN)
abbrev mu_X11_ball : MD := (yX11_ball, cX11_ball, 3, some .int, 37)
theorem ok_X11_ball : MOK mu_X11_ball 1 := ⟨gw_1794, gw_171, (by decide +kernel : plainFor yX11_ball = true), ⟨(by decide +kernel : yX11_ball.cls ≠ "java/lang/invoke/MethodHandle"), (by decide +kernel : yX11_ball.cls ≠ "java/lang/invoke/VarHandle"), (by decide +kernel : (parseMethodDescriptor yX11_ball.desc).map (fun d => d.parameters.length) = some 1)⟩, Nat.le_of_ble_eq_true rfl⟩
noncomputable def f_X11_ball (σ : Mem) (x0 : Int32) : Option (Int32 × Mem) :=
  pF σ 306 0 0 (fun (σ1 : Mem) => (f_X11_isIn σ1 (Int32.toInt64 x0) 0 4).bind (fun (b2 : Bool) => if b2 then bq (f_X11_isConsistent σ1) (fun (b3 : Bool) (σ4 : Mem) => if b3 then bq (f_X11_laysBall σ4 x0) (fun (v5 : Int32) (σ6 : Mem) => if v5 ≤ 1000 then (some (v5, σ6)) else (some ((-1), σ6))) else some ((-1), σ4)) else some ((-1), σ1)))
theorem t_X11_ball {w : Wd} (hw : WOK w) (hN : wn w = NT) {σ : Mem} {x0 : Int32} : JO w mu_X11_ball vI σ [(0, .ref (adr w 306)), (1, .int x0)] [] 0 (f_X11_ball σ x0) some := by
  unfold f_X11_ball
  refine jo_aload_n (pc := 0) 0 rfl dX11_ball_0 rfl ?_
  refine jo_iconst (pc := 1) dX11_ball_1 (ic_i_0) ?_
  refine jo_putf (pc := 2) ok_11_0 okp_11_0 (ik_306 hw hN) gw_1293 dX11_ball_2 (fun σ1 => ?_)
  refine jo_aload_n (pc := 5) 0 rfl dX11_ball_5 rfl ?_
  refine jo_iload_n (pc := 6) 1 rfl dX11_ball_6 rfl ?_
  refine jo_i2l (pc := 7) dX11_ball_7 ?_
  refine jo_lconst (pc := 8) dX11_ball_8 (ic_l_0) ?_
  refine jo_ldc2 (pc := 9) dX11_ball_9 gw_1795 ?_
  refine jo_cV_Z_p (pc := 12) (μ' := mu_X11_isIn) (fx := f_X11_isIn σ1 (Int32.toInt64 x0) 0 4) (As := [.long (Int32.toInt64 x0), .long 0, .long 4]) (c_X11_isIn hw hN) (ok_X11_isIn) (ltb rfl) (all3 gw_1420 gw_1422 gw_64) (ik_306 hw hN) (by decide) (q := (RX11, TX11, 39)) rfl rfl rfl rfl (Nat.le_of_ble_eq_true rfl) dX11_ball_12 (fun b2 => ?_)
  refine jo_ifz_eq (pc := 15) dX11_ball_15 (tgt := 25) rfl ?_ ?_
  · refine jo_iconst (pc := 25) dX11_ball_25 (ic_i_m1) ?_
    exact jo_ireturn (pc := 26) rfl rfl dX11_ball_26
  · refine jo_aload_n (pc := 18) 0 rfl dX11_ball_18 rfl ?_
    refine jo_cV_Z_i (pc := 19) (μ' := mu_X11_isConsistent) (fx := f_X11_isConsistent σ1) (As := []) (c_X11_isConsistent hw hN) (ok_X11_isConsistent) (ltb rfl) (all3 gw_1475 gw_1477 gw_74) (ik_306 hw hN) (by decide) (q := (RX11, TX11, 39)) rfl rfl rfl rfl (Nat.le_of_ble_eq_true rfl) dX11_ball_19 (fun b3 σ4 => ?_)
    refine jo_ifz_ne (pc := 22) dX11_ball_22 (tgt := 27) rfl ?_ ?_
    · refine jo_aload_n (pc := 27) 0 rfl dX11_ball_27 rfl ?_
      refine jo_iload_n (pc := 28) 1 rfl dX11_ball_28 rfl ?_
      refine jo_cV_I_i (pc := 29) (μ' := mu_X11_laysBall) (fx := f_X11_laysBall σ4 x0) (As := [.int x0]) (c_X11_laysBall hw hN) (ok_X11_laysBall) (ltb rfl) (all3 gw_1796 gw_1798 gw_131) (ik_306 hw hN) (by decide) (q := (RX11, TX11, 39)) rfl rfl rfl rfl (Nat.le_of_ble_eq_true rfl) dX11_ball_29 (fun v5 σ6 => ?_)
      refine jo_istore_n (pc := 32) (lv' := [(2, .int v5), (0, .ref (adr w 306)), (1, .int x0)]) dX11_ball_32 rfl (ltb rfl) rfl ?_
      refine jo_iload_n (pc := 33) 0 rfl dX11_ball_33 rfl ?_
      refine jo_sipush (pc := 34) dX11_ball_34 (ic_s_1000) ?_
      refine jo_icmp_le (pc := 37) dX11_ball_37 (tgt := 44) rfl ?_ ?_
      · refine jo_iload_n (pc := 44) 0 rfl dX11_ball_44 rfl ?_
        exact jo_ireturn (pc := 45) rfl rfl dX11_ball_45
      · refine jo_iconst (pc := 40) dX11_ball_40 (ic_i_m1) ?_
        refine jo_goto (pc := 41) dX11_ball_41 (tgt := 45) rfl ?_
        exact jo_ireturn (pc := 45) rfl rfl dX11_ball_45
    · refine jo_iconst (pc := 25) dX11_ball_25 (ic_i_m1) ?_
      exact jo_ireturn (pc := 26) rfl rfl dX11_ball_26
theorem c_X11_ball {w : Wd} (hw : WOK w) (hN : wn w = NT) {σ : Mem} {x0 : Int32} : ∀ r σ', f_X11_ball σ x0 = some (r, σ') → MC w mu_X11_ball (vI r) [.ref (adr w 306), .int x0] σ σ' := mc_of ok_X11_ball rfl (Nat.le_of_ble_eq_true rfl) (t_X11_ball hw hN)
abbrev mu_X11_shortOf : MD := (yX11_shortOf, cX11_shortOf, 3, some .int, 4)
theorem ok_X11_shortOf : MOK mu_X11_shortOf 1 := ⟨gw_1820, gw_171, (by decide +kernel : plainFor yX11_shortOf = true), ⟨(by decide +kernel : yX11_shortOf.cls ≠ "java/lang/invoke/MethodHandle"), (by decide +kernel : yX11_shortOf.cls ≠ "java/lang/invoke/VarHandle"), (by decide +kernel : (parseMethodDescriptor yX11_shortOf.desc).map (fun d => d.parameters.length) = some 1)⟩, Nat.le_of_ble_eq_true rfl⟩
noncomputable def l_X11_shortOf_2 (x0 : Int32) (σ1 : Mem) (i2 : Int32) : Option ((Mem × Int32) ⊕ (Int32 × Mem)) :=
  if 4 < i2 then (some (Sum.inr ((-1), σ1))) else (bq (f_X11_laysBall σ1 i2) (fun (v3 : Int32) (σ4 : Mem) => if v3 ≤ 1000 then ((f_X11_place σ4 x0).bind (fun (v5 : Int32) => gF σ4 306 29 (fun (v6 : Int32) => if v6 ≤ v5 then (some (Sum.inl (σ4, i2 + 1))) else (some (Sum.inr (i2, σ4)))))) else (some (Sum.inr ((-1), σ4)))))
noncomputable def f_X11_shortOf (σ : Mem) (x0 : Int32) : Option (Int32 × Mem) :=
  loopO (fun (z2 : (Mem × Int32)) => l_X11_shortOf_2 x0 z2.1 z2.2) (σ, 0)
theorem t_X11_shortOf {w : Wd} (hw : WOK w) (hN : wn w = NT) {σ : Mem} {x0 : Int32} : JO w mu_X11_shortOf vI σ [(0, .ref (adr w 306)), (1, .int x0)] [] 0 (f_X11_shortOf σ x0) some := by
  unfold f_X11_shortOf
  refine jo_iconst (pc := 0) dX11_shortOf_0 (ic_i_0) ?_
  refine jo_istore_n (pc := 1) (lv' := [(2, .int 0), (0, .ref (adr w 306)), (1, .int x0)]) dX11_shortOf_1 rfl (ltb rfl) rfl ?_
  refine jo_lv (lv' := [(0, .ref (adr w 306)), (1, .int x0), (2, .int 0)]) [1, 2, 0] rfl ?_
  refine jo_loop (X := (Int32 × Mem)) (fun (z2 : (Mem × Int32)) => z2.1) (fun (z2 : (Mem × Int32)) => [(0, .ref (adr w 306)), (1, .int x0), (2, .int z2.2)]) (body := (fun (z2 : (Mem × Int32)) => l_X11_shortOf_2 x0 z2.1 z2.2)) (fun F2_2 hF2_2 s => ?_) (σ, 0)
  obtain ⟨σ1, i2⟩ := s
  show JO w mu_X11_shortOf vI σ1 [(0, .ref (adr w 306)), (1, .int x0), (2, .int i2)] [] 2 (l_X11_shortOf_2 x0 σ1 i2) _
  unfold l_X11_shortOf_2
  refine jo_iload_n (pc := 2) 2 rfl dX11_shortOf_2 rfl ?_
  refine jo_iconst (pc := 3) dX11_shortOf_3 (ic_i_4) ?_
  refine jo_icmp_gt (pc := 4) dX11_shortOf_4 (tgt := 40) rfl ?_ ?_
  · refine jo_iconst (pc := 40) dX11_shortOf_40 (ic_i_m1) ?_
    exact jo_ireturn (pc := 41) rfl rfl dX11_shortOf_41
  · refine jo_aload_n (pc := 7) 0 rfl dX11_shortOf_7 rfl ?_
    refine jo_iload_n (pc := 8) 2 rfl dX11_shortOf_8 rfl ?_
    refine jo_cV_I_i (pc := 9) (μ' := mu_X11_laysBall) (fx := f_X11_laysBall σ1 i2) (As := [.int i2]) (c_X11_laysBall hw hN) (ok_X11_laysBall) (ltb rfl) (all3 gw_1796 gw_1798 gw_131) (ik_306 hw hN) (by decide) (q := (RX11, TX11, 39)) rfl rfl rfl rfl (Nat.le_of_ble_eq_true rfl) dX11_shortOf_9 (fun v3 σ4 => ?_)
    refine jo_sipush (pc := 12) dX11_shortOf_12 (ic_s_1000) ?_
    refine jo_icmp_le (pc := 15) dX11_shortOf_15 (tgt := 20) rfl ?_ ?_
    · refine jo_aload_n (pc := 20) 0 rfl dX11_shortOf_20 rfl ?_
      refine jo_iload_n (pc := 21) 1 rfl dX11_shortOf_21 rfl ?_
      refine jo_cV_I_p (pc := 22) (μ' := mu_X11_place) (fx := f_X11_place σ4 x0) (As := [.int x0]) (c_X11_place hw hN) (ok_X11_place) (ltb rfl) (all3 gw_1804 gw_1806 gw_133) (ik_306 hw hN) (by decide) (q := (RX11, TX11, 39)) rfl rfl rfl rfl (Nat.le_of_ble_eq_true rfl) dX11_shortOf_22 (fun v5 => ?_)
      refine jo_aload_n (pc := 25) 0 rfl dX11_shortOf_25 rfl ?_
      refine jo_getf (pc := 26) ok_11_29 (ik_306 hw hN) gw_1322 dX11_shortOf_26 (fun v6 => ?_)
      refine jo_icmp_ge (pc := 29) dX11_shortOf_29 (tgt := 34) rfl ?_ ?_
      · refine jo_iinc (pc := 34) (lv' := [(2, .int (i2 + 1)), (0, .ref (adr w 306)), (1, .int x0)]) 2 rfl dX11_shortOf_34 (congrArg (fun z => i2 + z) (ic_i_1)) (ltb rfl) rfl ?_
        refine jo_goto (pc := 37) dX11_shortOf_37 (tgt := 2) rfl ?_
        refine jo_lv (lv' := [(0, .ref (adr w 306)), (1, .int x0), (2, .int (i2 + 1))]) [1, 2, 0] rfl ?_
        exact jo_leaf (by rfl) (hF2_2 (σ4, i2 + 1))
      · refine jo_iload_n (pc := 32) 2 rfl dX11_shortOf_32 rfl ?_
        exact jo_ireturn (pc := 33) rfl rfl dX11_shortOf_33
    · refine jo_iconst (pc := 18) dX11_shortOf_18 (ic_i_m1) ?_
      exact jo_ireturn (pc := 19) rfl rfl dX11_shortOf_19
theorem c_X11_shortOf {w : Wd} (hw : WOK w) (hN : wn w = NT) {σ : Mem} {x0 : Int32} : ∀ r σ', f_X11_shortOf σ x0 = some (r, σ') → MC w mu_X11_shortOf (vI r) [.ref (adr w 306), .int x0] σ σ' := mc_of ok_X11_shortOf rfl (Nat.le_of_ble_eq_true rfl) (t_X11_shortOf hw hN)
abbrev mu_X11_greatestRoot : MD := (yX11_greatestRoot, cX11_greatestRoot, 3, some .int, 7)
theorem ok_X11_greatestRoot : MOK mu_X11_greatestRoot 1 := ⟨gw_1859, gw_171, (by decide +kernel : plainFor yX11_greatestRoot = true), ⟨(by decide +kernel : yX11_greatestRoot.cls ≠ "java/lang/invoke/MethodHandle"), (by decide +kernel : yX11_greatestRoot.cls ≠ "java/lang/invoke/VarHandle"), (by decide +kernel : (parseMethodDescriptor yX11_greatestRoot.desc).map (fun d => d.parameters.length) = some 1)⟩, Nat.le_of_ble_eq_true rfl⟩
noncomputable def j_X11_greatestRoot_28 (i2 : Int32) (σ4 : Mem) : Option ((Mem × Int32) ⊕ (Int32 × Mem)) :=
  some (Sum.inl (σ4, i2 + (-1)))
noncomputable def l_X11_greatestRoot_3 (x0 : Int32) (σ1 : Mem) (i2 : Int32) : Option ((Mem × Int32) ⊕ (Int32 × Mem)) :=
  if i2 ≤ 1 then (some (Sum.inr (1, σ1))) else (bq (f_X11_extracts σ1 x0 1 i2) (fun (b3 : Bool) (σ4 : Mem) => (if b3 then (f_X11_isElement σ4 1).bind (fun (b5 : Bool) => if b5 then some (Sum.inr (Sum.inr (i2, σ4))) else some (Sum.inl ())) else some (Sum.inl ()) : Option (Unit ⊕ ((Mem × Int32) ⊕ (Int32 × Mem)))).bind (Sum.elim (fun (z4 : Unit) => j_X11_greatestRoot_28 i2 σ4) some)))
noncomputable def f_X11_greatestRoot (σ : Mem) (x0 : Int32) : Option (Int32 × Mem) :=
  loopO (fun (z2 : (Mem × Int32)) => l_X11_greatestRoot_3 x0 z2.1 z2.2) (σ, 99)
theorem t_X11_greatestRoot {w : Wd} (hw : WOK w) (hN : wn w = NT) {σ : Mem} {x0 : Int32} : JO w mu_X11_greatestRoot vI σ [(0, .ref (adr w 306)), (1, .int x0)] [] 0 (f_X11_greatestRoot σ x0) some := by
  unfold f_X11_greatestRoot
  refine jo_bipush (pc := 0) dX11_greatestRoot_0 (ic_b_99) ?_
  refine jo_istore_n (pc := 2) (lv' := [(2, .int 99), (0, .ref (adr w 306)), (1, .int x0)]) dX11_greatestRoot_2 rfl (ltb rfl) rfl ?_
  refine jo_lv (lv' := [(0, .ref (adr w 306)), (1, .int x0), (2, .int 99)]) [1, 2, 0] rfl ?_
  refine jo_loop (X := (Int32 × Mem)) (fun (z2 : (Mem × Int32)) => z2.1) (fun (z2 : (Mem × Int32)) => [(0, .ref (adr w 306)), (1, .int x0), (2, .int z2.2)]) (body := (fun (z2 : (Mem × Int32)) => l_X11_greatestRoot_3 x0 z2.1 z2.2)) (fun F3_2 hF3_2 s => ?_) (σ, 99)
  obtain ⟨σ1, i2⟩ := s
  show JO w mu_X11_greatestRoot vI σ1 [(0, .ref (adr w 306)), (1, .int x0), (2, .int i2)] [] 3 (l_X11_greatestRoot_3 x0 σ1 i2) _
  unfold l_X11_greatestRoot_3
  refine jo_iload_n (pc := 3) 2 rfl dX11_greatestRoot_3 rfl ?_
  refine jo_iconst (pc := 4) dX11_greatestRoot_4 (ic_i_1) ?_
  refine jo_icmp_le (pc := 5) dX11_greatestRoot_5 (tgt := 34) rfl ?_ ?_
  · refine jo_iconst (pc := 34) dX11_greatestRoot_34 (ic_i_1) ?_
    exact jo_ireturn (pc := 35) rfl rfl dX11_greatestRoot_35
  · refine jo_aload_n (pc := 8) 0 rfl dX11_greatestRoot_8 rfl ?_
    refine jo_iload_n (pc := 9) 1 rfl dX11_greatestRoot_9 rfl ?_
    refine jo_iconst (pc := 10) dX11_greatestRoot_10 (ic_i_1) ?_
    refine jo_iload_n (pc := 11) 2 rfl dX11_greatestRoot_11 rfl ?_
    refine jo_cV_Z_i (pc := 12) (μ' := mu_X11_extracts) (fx := f_X11_extracts σ1 x0 1 i2) (As := [.int x0, .int 1, .int i2]) (c_X11_extracts hw hN) (ok_X11_extracts) (ltb rfl) (all3 gw_1625 gw_1627 gw_104) (ik_306 hw hN) (by decide) (q := (RX11, TX11, 39)) rfl rfl rfl rfl (Nat.le_of_ble_eq_true rfl) dX11_greatestRoot_12 (fun b3 σ4 => ?_)
    refine jo_joinS (S := Unit) (fun (z4 : Unit) => σ4) (fun (z4 : Unit) => [(0, .ref (adr w 306)), (1, .int x0), (2, .int i2)]) (fun (z4 : Unit) => []) 28 ?_ (fun h28_4 => ?_)
    · intro _
      show JO w mu_X11_greatestRoot vI σ4 [(0, .ref (adr w 306)), (1, .int x0), (2, .int i2)] [] 28 (j_X11_greatestRoot_28 i2 σ4) _
      unfold j_X11_greatestRoot_28
      refine jo_iinc (pc := 28) (lv' := [(2, .int (i2 + (-1))), (0, .ref (adr w 306)), (1, .int x0)]) 2 rfl dX11_greatestRoot_28 (congrArg (fun z => i2 + z) (ic_i_m1)) (ltb rfl) rfl ?_
      refine jo_goto (pc := 31) dX11_greatestRoot_31 (tgt := 3) rfl ?_
      refine jo_lv (lv' := [(0, .ref (adr w 306)), (1, .int x0), (2, .int (i2 + (-1)))]) [1, 2, 0] rfl ?_
      exact jo_leaf (by rfl) (hF3_2 (σ4, i2 + (-1)))
    · refine jo_ifz_eq (pc := 15) dX11_greatestRoot_15 (tgt := 28) rfl ?_ ?_
      · exact jo_leaf (by rfl) (h28_4 ())
      · refine jo_aload_n (pc := 18) 0 rfl dX11_greatestRoot_18 rfl ?_
        refine jo_iconst (pc := 19) dX11_greatestRoot_19 (ic_i_1) ?_
        refine jo_cV_Z_p (pc := 20) (μ' := mu_X11_isElement) (fx := f_X11_isElement σ4 1) (As := [.int 1]) (c_X11_isElement hw hN) (ok_X11_isElement) (ltb rfl) (all3 gw_1571 gw_1573 gw_97) (ik_306 hw hN) (by decide) (q := (RX11, TX11, 39)) rfl rfl rfl rfl (Nat.le_of_ble_eq_true rfl) dX11_greatestRoot_20 (fun b5 => ?_)
        refine jo_ifz_eq (pc := 23) dX11_greatestRoot_23 (tgt := 28) rfl ?_ ?_
        · exact jo_leaf (by rfl) (h28_4 ())
        · refine jo_iload_n (pc := 26) 2 rfl dX11_greatestRoot_26 rfl ?_
          exact jo_ireturn (pc := 27) rfl rfl dX11_greatestRoot_27
theorem c_X11_greatestRoot {w : Wd} (hw : WOK w) (hN : wn w = NT) {σ : Mem} {x0 : Int32} : ∀ r σ', f_X11_greatestRoot σ x0 = some (r, σ') → MC w mu_X11_greatestRoot (vI r) [.ref (adr w 306), .int x0] σ σ' := mc_of ok_X11_greatestRoot rfl (Nat.le_of_ble_eq_true rfl) (t_X11_greatestRoot hw hN)
abbrev mu_X11_sameAs : MD := (yX11_sameAs, cX11_sameAs, 4, some .int, 2)
theorem ok_X11_sameAs : MOK mu_X11_sameAs 1 := ⟨gw_1863, gw_171, (by decide +kernel : plainFor yX11_sameAs = true), ⟨(by decide +kernel : yX11_sameAs.cls ≠ "java/lang/invoke/MethodHandle"), (by decide +kernel : yX11_sameAs.cls ≠ "java/lang/invoke/VarHandle"), (by decide +kernel : (parseMethodDescriptor yX11_sameAs.desc).map (fun d => d.parameters.length) = some 1)⟩, Nat.le_of_ble_eq_true rfl⟩
noncomputable def j_X11_sameAs_31 (i3 : Int32) (σ4 : Mem) (i6 : Int32) : Option ((Mem × Int32 × Int32) ⊕ (Int32 × Mem)) :=
  some (Sum.inl (σ4, i6, i3 + 1))
noncomputable def l_X11_sameAs_4 (σ1 : Mem) (i2 : Int32) (i3 : Int32) : Option ((Mem × Int32 × Int32) ⊕ (Int32 × Mem)) :=
  if 10 ≤ i3 then (some (Sum.inr (i2, σ1))) else ((f_X11_laysRegister σ1 1 i3).bind (fun (σ4 : Mem) => (f_X11_areSame σ4 0 1).bind (fun (b5 : Bool) => (if b5 then bd (i2 ||| (1 <<< (i3 &&& 31))) (fun (v7 : Int32) => some v7) else some i2 : Option Int32).bind (fun (z6 : Int32) => j_X11_sameAs_31 i3 σ4 z6))))
noncomputable def f_X11_sameAs (σ : Mem) (x0 : Int32) : Option (Int32 × Mem) :=
  loopO (fun (z3 : (Mem × Int32 × Int32)) => l_X11_sameAs_4 z3.1 z3.2.1 z3.2.2) (σ, 0, 0)
theorem t_X11_sameAs {w : Wd} (hw : WOK w) (hN : wn w = NT) {σ : Mem} {x0 : Int32} : JO w mu_X11_sameAs vI σ [(0, .ref (adr w 306)), (1, .int x0)] [] 0 (f_X11_sameAs σ x0) some := by
  unfold f_X11_sameAs
  refine jo_iconst (pc := 0) dX11_sameAs_0 (ic_i_0) ?_
  refine jo_istore_n (pc := 1) (lv' := [(2, .int 0), (0, .ref (adr w 306)), (1, .int x0)]) dX11_sameAs_1 rfl (ltb rfl) rfl ?_
  refine jo_iconst (pc := 2) dX11_sameAs_2 (ic_i_0) ?_
  refine jo_istore_n (pc := 3) (lv' := [(3, .int 0), (2, .int 0), (0, .ref (adr w 306)), (1, .int x0)]) dX11_sameAs_3 rfl (ltb rfl) rfl ?_
  refine jo_lv (lv' := [(0, .ref (adr w 306)), (2, .int 0), (3, .int 0)]) [2, 1, 0] rfl ?_
  refine jo_loop (X := (Int32 × Mem)) (fun (z3 : (Mem × Int32 × Int32)) => z3.1) (fun (z3 : (Mem × Int32 × Int32)) => [(0, .ref (adr w 306)), (2, .int z3.2.1), (3, .int z3.2.2)]) (body := (fun (z3 : (Mem × Int32 × Int32)) => l_X11_sameAs_4 z3.1 z3.2.1 z3.2.2)) (fun F4_3 hF4_3 s => ?_) (σ, 0, 0)
  obtain ⟨σ1, i2, i3⟩ := s
  show JO w mu_X11_sameAs vI σ1 [(0, .ref (adr w 306)), (2, .int i2), (3, .int i3)] [] 4 (l_X11_sameAs_4 σ1 i2 i3) _
  unfold l_X11_sameAs_4
  refine jo_iload_n (pc := 4) 2 rfl dX11_sameAs_4 rfl ?_
  refine jo_bipush (pc := 5) dX11_sameAs_5 (ic_b_10) ?_
  refine jo_icmp_ge (pc := 7) dX11_sameAs_7 (tgt := 37) rfl ?_ ?_
  · refine jo_iload_n (pc := 37) 1 rfl dX11_sameAs_37 rfl ?_
    exact jo_ireturn (pc := 38) rfl rfl dX11_sameAs_38
  · refine jo_aload_n (pc := 10) 0 rfl dX11_sameAs_10 rfl ?_
    refine jo_iconst (pc := 11) dX11_sameAs_11 (ic_i_1) ?_
    refine jo_iload_n (pc := 12) 2 rfl dX11_sameAs_12 rfl ?_
    refine jo_cV_V_i (pc := 13) (μ' := mu_X11_laysRegister) (fx := f_X11_laysRegister σ1 1 i3) (As := [.int 1, .int i3]) (c_X11_laysRegister hw hN) (ok_X11_laysRegister) (ltb rfl) (all3 gw_1559 gw_1561 gw_94) (ik_306 hw hN) (by decide) (q := (RX11, TX11, 39)) rfl rfl rfl rfl (Nat.le_of_ble_eq_true rfl) dX11_sameAs_13 (fun σ4 => ?_)
    refine jo_aload_n (pc := 16) 0 rfl dX11_sameAs_16 rfl ?_
    refine jo_iconst (pc := 17) dX11_sameAs_17 (ic_i_0) ?_
    refine jo_iconst (pc := 18) dX11_sameAs_18 (ic_i_1) ?_
    refine jo_cV_Z_p (pc := 19) (μ' := mu_X11_areSame) (fx := f_X11_areSame σ4 0 1) (As := [.int 0, .int 1]) (c_X11_areSame hw hN) (ok_X11_areSame) (ltb rfl) (all3 gw_1641 gw_1643 gw_107) (ik_306 hw hN) (by decide) (q := (RX11, TX11, 39)) rfl rfl rfl rfl (Nat.le_of_ble_eq_true rfl) dX11_sameAs_19 (fun b5 => ?_)
    refine jo_join1 (S := Int32) (fun (z6 : Int32) => σ4) (fun (z6 : Int32) => [(0, .ref (adr w 306)), (3, .int i3), (2, .int z6)]) (fun (z6 : Int32) => []) 31 ?_ (fun h31_6 => ?_)
    · intro i6
      show JO w mu_X11_sameAs vI σ4 [(0, .ref (adr w 306)), (3, .int i3), (2, .int i6)] [] 31 (j_X11_sameAs_31 i3 σ4 i6) _
      unfold j_X11_sameAs_31
      refine jo_iinc (pc := 31) (lv' := [(3, .int (i3 + 1)), (0, .ref (adr w 306)), (2, .int i6)]) 1 rfl dX11_sameAs_31 (congrArg (fun z => i3 + z) (ic_i_1)) (ltb rfl) rfl ?_
      refine jo_goto (pc := 34) dX11_sameAs_34 (tgt := 4) rfl ?_
      refine jo_lv (lv' := [(0, .ref (adr w 306)), (2, .int i6), (3, .int (i3 + 1))]) [1, 2, 0] rfl ?_
      exact jo_leaf (by rfl) (hF4_3 (σ4, i6, i3 + 1))
    · refine jo_ifz_eq (pc := 22) dX11_sameAs_22 (tgt := 31) rfl ?_ ?_
      · refine jo_lv (lv' := [(0, .ref (adr w 306)), (3, .int i3), (2, .int i2)]) [0, 2, 1] rfl ?_
        exact jo_leaf (by rfl) (h31_6 i2)
      · refine jo_iload_n (pc := 25) 1 rfl dX11_sameAs_25 rfl ?_
        refine jo_iconst (pc := 26) dX11_sameAs_26 (ic_i_1) ?_
        refine jo_iload_n (pc := 27) 2 rfl dX11_sameAs_27 rfl ?_
        refine jo_ishl (pc := 28) dX11_sameAs_28 ?_
        refine jo_ior (pc := 29) dX11_sameAs_29 ?_
        refine jo_bd ?_
        refine jo_istore_n (pc := 30) (lv' := [(2, .int (i2 ||| (1 <<< (i3 &&& 31)))), (0, .ref (adr w 306)), (3, .int i3)]) dX11_sameAs_30 rfl (ltb rfl) rfl ?_
        generalize (i2 ||| (1 <<< (i3 &&& 31))) = v7
        refine jo_lv (lv' := [(0, .ref (adr w 306)), (3, .int i3), (2, .int v7)]) [1, 2, 0] rfl ?_
        exact jo_leaf (by rfl) (h31_6 v7)
theorem c_X11_sameAs {w : Wd} (hw : WOK w) (hN : wn w = NT) {σ : Mem} {x0 : Int32} : ∀ r σ', f_X11_sameAs σ x0 = some (r, σ') → MC w mu_X11_sameAs (vI r) [.ref (adr w 306), .int x0] σ σ' := mc_of ok_X11_sameAs rfl (Nat.le_of_ble_eq_true rfl) (t_X11_sameAs hw hN)
abbrev mu_X11_addsTail : MD := (yX11_addsTail, cX11_addsTail, 4, none, 1)
theorem ok_X11_addsTail : MOK mu_X11_addsTail 2 := ⟨gw_1828, gw_171, (by decide +kernel : plainFor yX11_addsTail = true), ⟨(by decide +kernel : yX11_addsTail.cls ≠ "java/lang/invoke/MethodHandle"), (by decide +kernel : yX11_addsTail.cls ≠ "java/lang/invoke/VarHandle"), (by decide +kernel : (parseMethodDescriptor yX11_addsTail.desc).map (fun d => d.parameters.length) = some 2)⟩, Nat.le_of_ble_eq_true rfl⟩
noncomputable def j_X11_addsTail_53 (σ1 : Mem) : Option Mem :=
  gF σ1 306 31 (fun (v2 : Int32) => pF σ1 306 31 (v2 + 1) (fun (σ3 : Mem) => some σ3))
noncomputable def j_X11_addsTail_46 (σ4 : Mem) (i5 : Int32) (v6 : Int32) (l7 : Int64) : Option ((Mem × Int32) ⊕ Mem) :=
  pL σ4 320 ((18 * v6) + i5) l7 (fun (σ8 : Mem) => some (Sum.inl (σ8, i5 + 1)))
noncomputable def j_X11_addsTail_45  : Option Int64 :=
  some 0
noncomputable def l_X11_addsTail_2 (x0 : Int32) (x1 : Int32) (σ4 : Mem) (i5 : Int32) : Option ((Mem × Int32) ⊕ Mem) :=
  if 18 ≤ i5 then (some (Sum.inr σ4)) else (gF σ4 306 31 (fun (v6 : Int32) => ((if i5 ≤ x0 then (some (Sum.inl ())) else ((f_X11_n σ4).bind (fun (v9 : Int32) => if v9 ≤ i5 then (some (Sum.inl ())) else ((f_X11_tail σ4 x0 x1 i5).bind (fun (v10 : Int32) => some (Sum.inr (Int32.toInt64 v10)))))) : Option (Unit ⊕ Int64)).bind (Sum.elim (fun (z8 : Unit) => j_X11_addsTail_45) some) : Option Int64).bind (fun (z7 : Int64) => j_X11_addsTail_46 σ4 i5 v6 z7)))
noncomputable def f_X11_addsTail (σ : Mem) (x0 : Int32) (x1 : Int32) : Option Mem :=
  (loopO (fun (z5 : (Mem × Int32)) => l_X11_addsTail_2 x0 x1 z5.1 z5.2) (σ, 0) : Option Mem).bind (fun (z1 : Mem) => j_X11_addsTail_53 z1)
theorem t_X11_addsTail {w : Wd} (hw : WOK w) (hN : wn w = NT) {σ : Mem} {x0 : Int32} {x1 : Int32} : JO w mu_X11_addsTail vV σ [(0, .ref (adr w 306)), (1, .int x0), (2, .int x1)] [] 0 (f_X11_addsTail σ x0 x1) (fun z => some ((), z)) := by
  unfold f_X11_addsTail
  refine jo_iconst (pc := 0) dX11_addsTail_0 (ic_i_0) ?_
  refine jo_istore_n (pc := 1) (lv' := [(3, .int 0), (0, .ref (adr w 306)), (1, .int x0), (2, .int x1)]) dX11_addsTail_1 rfl (ltb rfl) rfl ?_
  refine jo_join1 (S := Mem) (fun (z1 : Mem) => z1) (fun (z1 : Mem) => [(0, .ref (adr w 306))]) (fun (z1 : Mem) => []) 53 ?_ (fun h53_1 => ?_)
  · intro σ1
    show JO w mu_X11_addsTail vV σ1 [(0, .ref (adr w 306))] [] 53 (j_X11_addsTail_53 σ1) _
    unfold j_X11_addsTail_53
    refine jo_aload_n (pc := 53) 0 rfl dX11_addsTail_53 rfl ?_
    refine jo_aload_n (pc := 54) 0 rfl dX11_addsTail_54 rfl ?_
    refine jo_getf (pc := 55) ok_11_31 (ik_306 hw hN) gw_1324 dX11_addsTail_55 (fun v2 => ?_)
    refine jo_iconst (pc := 58) dX11_addsTail_58 (ic_i_1) ?_
    refine jo_iadd (pc := 59) dX11_addsTail_59 ?_
    refine jo_putf (pc := 60) ok_11_31 okp_11_31 (ik_306 hw hN) gw_1324 dX11_addsTail_60 (fun σ3 => ?_)
    exact jo_return (pc := 63) rfl rfl dX11_addsTail_63
  · refine jo_lv (lv' := [(0, .ref (adr w 306)), (1, .int x0), (2, .int x1), (3, .int 0)]) [1, 2, 3, 0] rfl ?_
    refine jo_loop (X := Mem) (fun (z5 : (Mem × Int32)) => z5.1) (fun (z5 : (Mem × Int32)) => [(0, .ref (adr w 306)), (1, .int x0), (2, .int x1), (3, .int z5.2)]) (body := (fun (z5 : (Mem × Int32)) => l_X11_addsTail_2 x0 x1 z5.1 z5.2)) (fun F2_5 hF2_5 s => ?_) (σ, 0)
    obtain ⟨σ4, i5⟩ := s
    show JO w mu_X11_addsTail vV σ4 [(0, .ref (adr w 306)), (1, .int x0), (2, .int x1), (3, .int i5)] [] 2 (l_X11_addsTail_2 x0 x1 σ4 i5) _
    unfold l_X11_addsTail_2
    refine jo_iload_n (pc := 2) 3 rfl dX11_addsTail_2 rfl ?_
    refine jo_bipush (pc := 3) dX11_addsTail_3 (ic_b_18) ?_
    refine jo_icmp_ge (pc := 5) dX11_addsTail_5 (tgt := 53) rfl ?_ ?_
    · refine jo_lv (lv' := [(0, .ref (adr w 306))]) [0] rfl ?_
      exact jo_leaf (by rfl) (h53_1 σ4)
    · refine jo_aload_n (pc := 8) 0 rfl dX11_addsTail_8 rfl ?_
      refine jo_getrE (pc := 9) ok_11_30 (ik_306 hw hN) rf_306_30 gw_1323 dX11_addsTail_9 ?_
      refine jo_bipush (pc := 12) dX11_addsTail_12 (ic_b_18) ?_
      refine jo_aload_n (pc := 14) 0 rfl dX11_addsTail_14 rfl ?_
      refine jo_getf (pc := 15) ok_11_31 (ik_306 hw hN) gw_1324 dX11_addsTail_15 (fun v6 => ?_)
      refine jo_imul (pc := 18) dX11_addsTail_18 ?_
      refine jo_iload_n (pc := 19) 3 rfl dX11_addsTail_19 rfl ?_
      refine jo_iadd (pc := 20) dX11_addsTail_20 ?_
      refine jo_iload_n (pc := 21) 3 rfl dX11_addsTail_21 rfl ?_
      refine jo_iload_n (pc := 22) 1 rfl dX11_addsTail_22 rfl ?_
      refine jo_join1 (S := Int64) (fun (z7 : Int64) => σ4) (fun (z7 : Int64) => [(0, .ref (adr w 306)), (1, .int x0), (2, .int x1), (3, .int i5)]) (fun (z7 : Int64) => [.long z7, .int ((18 * v6) + i5), .ref (adr w 320)]) 46 ?_ (fun h46_7 => ?_)
      · intro l7
        show JO w mu_X11_addsTail vV σ4 [(0, .ref (adr w 306)), (1, .int x0), (2, .int x1), (3, .int i5)] [.long l7, .int ((18 * v6) + i5), .ref (adr w 320)] 46 (j_X11_addsTail_46 σ4 i5 v6 l7) _
        unfold j_X11_addsTail_46
        refine jo_last (pc := 46) (ik_320 hw hN) dX11_addsTail_46 (fun σ8 => ?_)
        refine jo_iinc (pc := 47) (lv' := [(3, .int (i5 + 1)), (0, .ref (adr w 306)), (1, .int x0), (2, .int x1)]) 3 rfl dX11_addsTail_47 (congrArg (fun z => i5 + z) (ic_i_1)) (ltb rfl) rfl ?_
        refine jo_goto (pc := 50) dX11_addsTail_50 (tgt := 2) rfl ?_
        refine jo_lv (lv' := [(0, .ref (adr w 306)), (1, .int x0), (2, .int x1), (3, .int (i5 + 1))]) [1, 2, 3, 0] rfl ?_
        exact jo_leaf (by rfl) (hF2_5 (σ8, i5 + 1))
      · refine jo_joinS (S := Unit) (fun (z8 : Unit) => σ4) (fun (z8 : Unit) => [(0, .ref (adr w 306)), (1, .int x0), (2, .int x1), (3, .int i5)]) (fun (z8 : Unit) => [.int ((18 * v6) + i5), .ref (adr w 320)]) 45 ?_ (fun h45_8 => ?_)
        · intro _
          show JO w mu_X11_addsTail vV σ4 [(0, .ref (adr w 306)), (1, .int x0), (2, .int x1), (3, .int i5)] [.int ((18 * v6) + i5), .ref (adr w 320)] 45 (j_X11_addsTail_45) _
          unfold j_X11_addsTail_45
          refine jo_lconst (pc := 45) dX11_addsTail_45 (ic_l_0) ?_
          exact jo_leaf (by rfl) (h46_7 0)
        · refine jo_icmp_le (pc := 23) dX11_addsTail_23 (tgt := 45) rfl ?_ ?_
          · exact jo_leaf (by rfl) (h45_8 ())
          · refine jo_iload_n (pc := 26) 3 rfl dX11_addsTail_26 rfl ?_
            refine jo_aload_n (pc := 27) 0 rfl dX11_addsTail_27 rfl ?_
            refine jo_cV_I_p (pc := 28) (μ' := mu_X11_n) (fx := f_X11_n σ4) (As := []) (c_X11_n hw hN) (ok_X11_n) (ltb rfl) (all3 gw_1441 gw_1443 gw_68) (ik_306 hw hN) (by decide) (q := (RX11, TX11, 39)) rfl rfl rfl rfl (Nat.le_of_ble_eq_true rfl) dX11_addsTail_28 (fun v9 => ?_)
            refine jo_icmp_ge (pc := 31) dX11_addsTail_31 (tgt := 45) rfl ?_ ?_
            · exact jo_leaf (by rfl) (h45_8 ())
            · refine jo_aload_n (pc := 34) 0 rfl dX11_addsTail_34 rfl ?_
              refine jo_iload_n (pc := 35) 1 rfl dX11_addsTail_35 rfl ?_
              refine jo_iload_n (pc := 36) 2 rfl dX11_addsTail_36 rfl ?_
              refine jo_iload_n (pc := 37) 3 rfl dX11_addsTail_37 rfl ?_
              refine jo_cV_I_p (pc := 38) (μ' := mu_X11_tail) (fx := f_X11_tail σ4 x0 x1 i5) (As := [.int x0, .int x1, .int i5]) (c_X11_tail hw hN) (ok_X11_tail) (ltb rfl) (all3 gw_1495 gw_1497 gw_79) (ik_306 hw hN) (by decide) (q := (RX11, TX11, 39)) rfl rfl rfl rfl (Nat.le_of_ble_eq_true rfl) dX11_addsTail_38 (fun v10 => ?_)
              refine jo_i2l (pc := 41) dX11_addsTail_41 ?_
              refine jo_goto (pc := 42) dX11_addsTail_42 (tgt := 46) rfl ?_
              exact jo_leaf (by rfl) (h46_7 (Int32.toInt64 v10))
theorem c_X11_addsTail {w : Wd} (hw : WOK w) (hN : wn w = NT) {σ : Mem} {x0 : Int32} {x1 : Int32} : ∀ σ', f_X11_addsTail σ x0 x1 = some σ' → MC w mu_X11_addsTail none [.ref (adr w 306), .int x0, .int x1] σ σ' := mc_ofV ok_X11_addsTail rfl (Nat.le_of_ble_eq_true rfl) (t_X11_addsTail hw hN)
abbrev mu_X11_ofColumn : MD := (yX11_ofColumn, cX11_ofColumn, 3, some .long, 0)
theorem ok_X11_ofColumn : MOK mu_X11_ofColumn 2 := ⟨gw_1840, gw_171, (by decide +kernel : plainFor yX11_ofColumn = true), ⟨(by decide +kernel : yX11_ofColumn.cls ≠ "java/lang/invoke/MethodHandle"), (by decide +kernel : yX11_ofColumn.cls ≠ "java/lang/invoke/VarHandle"), (by decide +kernel : (parseMethodDescriptor yX11_ofColumn.desc).map (fun d => d.parameters.length) = some 2)⟩, Nat.le_of_ble_eq_true rfl⟩
noncomputable def f_X11_ofColumn (σ : Mem) (x0 : Int32) (x1 : Int32) : Option Int64 :=
  gL σ 320 ((18 * x0) + x1) (fun (v1 : Int64) => some v1)
theorem t_X11_ofColumn {w : Wd} (hw : WOK w) (hN : wn w = NT) {σ : Mem} {x0 : Int32} {x1 : Int32} : JO w mu_X11_ofColumn vL σ [(0, .ref (adr w 306)), (1, .int x0), (2, .int x1)] [] 0 (f_X11_ofColumn σ x0 x1) (fun z => some (z, σ)) := by
  unfold f_X11_ofColumn
  refine jo_aload_n (pc := 0) 0 rfl dX11_ofColumn_0 rfl ?_
  refine jo_getrE (pc := 1) ok_11_30 (ik_306 hw hN) rf_306_30 gw_1323 dX11_ofColumn_1 ?_
  refine jo_bipush (pc := 4) dX11_ofColumn_4 (ic_b_18) ?_
  refine jo_iload_n (pc := 6) 1 rfl dX11_ofColumn_6 rfl ?_
  refine jo_imul (pc := 7) dX11_ofColumn_7 ?_
  refine jo_iload_n (pc := 8) 2 rfl dX11_ofColumn_8 rfl ?_
  refine jo_iadd (pc := 9) dX11_ofColumn_9 ?_
  refine jo_lald (pc := 10) (ik_320 hw hN) dX11_ofColumn_10 (fun v1 => ?_)
  exact jo_lreturn (pc := 11) rfl rfl dX11_ofColumn_11
theorem c_X11_ofColumn {w : Wd} (hw : WOK w) (hN : wn w = NT) {σ : Mem} {x0 : Int32} {x1 : Int32} : ∀ r, f_X11_ofColumn σ x0 x1 = some r → MC w mu_X11_ofColumn (vL r) [.ref (adr w 306), .int x0, .int x1] σ σ := mc_ofP ok_X11_ofColumn rfl (Nat.le_of_ble_eq_true rfl) (t_X11_ofColumn hw hN)
abbrev mu_J9_abs_067f4 : MD := (yJ9_abs_067f4, cJ9_abs_067f4, 2, some .long, 0)
theorem ok_J9_abs_067f4 : MOK mu_J9_abs_067f4 1 := ⟨gw_1843, gw_172, (by decide +kernel : plainFor yJ9_abs_067f4 = true), ⟨(by decide +kernel : yJ9_abs_067f4.cls ≠ "java/lang/invoke/MethodHandle"), (by decide +kernel : yJ9_abs_067f4.cls ≠ "java/lang/invoke/VarHandle"), (by decide +kernel : (parseMethodDescriptor yJ9_abs_067f4.desc).map (fun d => d.parameters.length) = some 1)⟩, Nat.le_of_ble_eq_true rfl⟩
noncomputable def f_J9_abs_067f4 (σ : Mem) (x0 : Int64) : Option Int64 :=
  if 0 ≤ x0 then (some x0) else (some (-x0))
theorem t_J9_abs_067f4 {w : Wd} (hw : WOK w) {σ : Mem} {x0 : Int64} : JO w mu_J9_abs_067f4 vL σ [(0, .long x0)] [] 0 (f_J9_abs_067f4 σ x0) (fun z => some (z, σ)) := by
  unfold f_J9_abs_067f4
  refine jo_lload_n (pc := 0) 0 rfl dJ9_abs_067f4_0 rfl ?_
  refine jo_lconst (pc := 1) dJ9_abs_067f4_1 (ic_l_0) ?_
  refine jo_lcmp_ge (pc := 2) dJ9_abs_067f4_2 dJ9_abs_067f4_3 (tgt := 11) rfl ?_ ?_
  · refine jo_lload_n (pc := 11) 0 rfl dJ9_abs_067f4_11 rfl ?_
    exact jo_lreturn (pc := 12) rfl rfl dJ9_abs_067f4_12
  · refine jo_lload_n (pc := 6) 0 rfl dJ9_abs_067f4_6 rfl ?_
    refine jo_lneg (pc := 7) dJ9_abs_067f4_7 ?_
    refine jo_goto (pc := 8) dJ9_abs_067f4_8 (tgt := 12) rfl ?_
    exact jo_lreturn (pc := 12) rfl rfl dJ9_abs_067f4_12
theorem c_J9_abs_067f4 {w : Wd} (hw : WOK w) {σ : Mem} {x0 : Int64} : ∀ r, f_J9_abs_067f4 σ x0 = some r → MC w mu_J9_abs_067f4 (vL r) [.long x0] σ σ := mc_ofP ok_J9_abs_067f4 rfl (Nat.le_of_ble_eq_true rfl) (t_J9_abs_067f4 hw)
abbrev mu_X11_changes : MD := (yX11_changes, cX11_changes, 6, none, 0)
theorem ok_X11_changes : MOK mu_X11_changes 2 := ⟨gw_1847, gw_171, (by decide +kernel : plainFor yX11_changes = true), ⟨(by decide +kernel : yX11_changes.cls ≠ "java/lang/invoke/MethodHandle"), (by decide +kernel : yX11_changes.cls ≠ "java/lang/invoke/VarHandle"), (by decide +kernel : (parseMethodDescriptor yX11_changes.desc).map (fun d => d.parameters.length) = some 2)⟩, Nat.le_of_ble_eq_true rfl⟩
noncomputable def l_X11_changes_2 (x0 : Int32) (x1 : Int32) (σ1 : Mem) (i2 : Int32) : Option ((Mem × Int32) ⊕ Mem) :=
  if 18 ≤ i2 then (some (Sum.inr σ1)) else (gL σ1 320 ((18 * x0) + i2) (fun (v3 : Int64) => gL σ1 320 ((18 * x1) + i2) (fun (v4 : Int64) => pL σ1 320 ((18 * x0) + i2) v4 (fun (σ5 : Mem) => pL σ5 320 ((18 * x1) + i2) v3 (fun (σ6 : Mem) => some (Sum.inl (σ6, i2 + 1)))))))
noncomputable def f_X11_changes (σ : Mem) (x0 : Int32) (x1 : Int32) : Option Mem :=
  loopO (fun (z2 : (Mem × Int32)) => l_X11_changes_2 x0 x1 z2.1 z2.2) (σ, 0)
theorem t_X11_changes {w : Wd} (hw : WOK w) (hN : wn w = NT) {σ : Mem} {x0 : Int32} {x1 : Int32} : JO w mu_X11_changes vV σ [(0, .ref (adr w 306)), (1, .int x0), (2, .int x1)] [] 0 (f_X11_changes σ x0 x1) (fun z => some ((), z)) := by
  unfold f_X11_changes
  refine jo_iconst (pc := 0) dX11_changes_0 (ic_i_0) ?_
  refine jo_istore_n (pc := 1) (lv' := [(3, .int 0), (0, .ref (adr w 306)), (1, .int x0), (2, .int x1)]) dX11_changes_1 rfl (ltb rfl) rfl ?_
  refine jo_lv (lv' := [(0, .ref (adr w 306)), (1, .int x0), (2, .int x1), (3, .int 0)]) [1, 2, 3, 0] rfl ?_
  refine jo_loop (X := Mem) (fun (z2 : (Mem × Int32)) => z2.1) (fun (z2 : (Mem × Int32)) => [(0, .ref (adr w 306)), (1, .int x0), (2, .int x1), (3, .int z2.2)]) (body := (fun (z2 : (Mem × Int32)) => l_X11_changes_2 x0 x1 z2.1 z2.2)) (fun F2_2 hF2_2 s => ?_) (σ, 0)
  obtain ⟨σ1, i2⟩ := s
  show JO w mu_X11_changes vV σ1 [(0, .ref (adr w 306)), (1, .int x0), (2, .int x1), (3, .int i2)] [] 2 (l_X11_changes_2 x0 x1 σ1 i2) _
  unfold l_X11_changes_2
  refine jo_iload_n (pc := 2) 3 rfl dX11_changes_2 rfl ?_
  refine jo_bipush (pc := 3) dX11_changes_3 (ic_b_18) ?_
  refine jo_icmp_ge (pc := 5) dX11_changes_5 (tgt := 62) rfl ?_ ?_
  · exact jo_return (pc := 62) rfl rfl dX11_changes_62
  · refine jo_aload_n (pc := 8) 0 rfl dX11_changes_8 rfl ?_
    refine jo_getrE (pc := 9) ok_11_30 (ik_306 hw hN) rf_306_30 gw_1323 dX11_changes_9 ?_
    refine jo_bipush (pc := 12) dX11_changes_12 (ic_b_18) ?_
    refine jo_iload_n (pc := 14) 1 rfl dX11_changes_14 rfl ?_
    refine jo_imul (pc := 15) dX11_changes_15 ?_
    refine jo_iload_n (pc := 16) 3 rfl dX11_changes_16 rfl ?_
    refine jo_iadd (pc := 17) dX11_changes_17 ?_
    refine jo_lald (pc := 18) (ik_320 hw hN) dX11_changes_18 (fun v3 => ?_)
    refine jo_lstore (pc := 19) (lv' := [(4, .long v3), (0, .ref (adr w 306)), (1, .int x0), (2, .int x1), (3, .int i2)]) dX11_changes_19 (ltb rfl) rfl ?_
    refine jo_aload_n (pc := 21) 1 rfl dX11_changes_21 rfl ?_
    refine jo_getrE (pc := 22) ok_11_30 (ik_306 hw hN) rf_306_30 gw_1323 dX11_changes_22 ?_
    refine jo_bipush (pc := 25) dX11_changes_25 (ic_b_18) ?_
    refine jo_iload_n (pc := 27) 2 rfl dX11_changes_27 rfl ?_
    refine jo_imul (pc := 28) dX11_changes_28 ?_
    refine jo_iload_n (pc := 29) 4 rfl dX11_changes_29 rfl ?_
    refine jo_iadd (pc := 30) dX11_changes_30 ?_
    refine jo_aload_n (pc := 31) 1 rfl dX11_changes_31 rfl ?_
    refine jo_getrE (pc := 32) ok_11_30 (ik_306 hw hN) rf_306_30 gw_1323 dX11_changes_32 ?_
    refine jo_bipush (pc := 35) dX11_changes_35 (ic_b_18) ?_
    refine jo_iload_n (pc := 37) 3 rfl dX11_changes_37 rfl ?_
    refine jo_imul (pc := 38) dX11_changes_38 ?_
    refine jo_iload_n (pc := 39) 4 rfl dX11_changes_39 rfl ?_
    refine jo_iadd (pc := 40) dX11_changes_40 ?_
    refine jo_lald (pc := 41) (ik_320 hw hN) dX11_changes_41 (fun v4 => ?_)
    refine jo_last (pc := 42) (ik_320 hw hN) dX11_changes_42 (fun σ5 => ?_)
    refine jo_aload_n (pc := 43) 1 rfl dX11_changes_43 rfl ?_
    refine jo_getrE (pc := 44) ok_11_30 (ik_306 hw hN) rf_306_30 gw_1323 dX11_changes_44 ?_
    refine jo_bipush (pc := 47) dX11_changes_47 (ic_b_18) ?_
    refine jo_iload_n (pc := 49) 3 rfl dX11_changes_49 rfl ?_
    refine jo_imul (pc := 50) dX11_changes_50 ?_
    refine jo_iload_n (pc := 51) 4 rfl dX11_changes_51 rfl ?_
    refine jo_iadd (pc := 52) dX11_changes_52 ?_
    refine jo_lload (pc := 53) 0 rfl dX11_changes_53 ?_
    refine jo_last (pc := 55) (ik_320 hw hN) dX11_changes_55 (fun σ6 => ?_)
    refine jo_iinc (pc := 56) (lv' := [(3, .int (i2 + 1)), (4, .long v3), (0, .ref (adr w 306)), (1, .int x0), (2, .int x1)]) 4 rfl dX11_changes_56 (congrArg (fun z => i2 + z) (ic_i_1)) (ltb rfl) rfl ?_
    refine jo_goto (pc := 59) dX11_changes_59 (tgt := 2) rfl ?_
    refine jo_lv (lv' := [(0, .ref (adr w 306)), (1, .int x0), (2, .int x1), (3, .int (i2 + 1))]) [2, 3, 4, 0] rfl ?_
    exact jo_leaf (by rfl) (hF2_2 (σ6, i2 + 1))
theorem c_X11_changes {w : Wd} (hw : WOK w) (hN : wn w = NT) {σ : Mem} {x0 : Int32} {x1 : Int32} : ∀ σ', f_X11_changes σ x0 x1 = some σ' → MC w mu_X11_changes none [.ref (adr w 306), .int x0, .int x1] σ σ' := mc_ofV ok_X11_changes rfl (Nat.le_of_ble_eq_true rfl) (t_X11_changes hw hN)
abbrev mu_X11_lessens : MD := (yX11_lessens, cX11_lessens, 6, none, 0)
theorem ok_X11_lessens : MOK mu_X11_lessens 3 := ⟨gw_1851, gw_171, (by decide +kernel : plainFor yX11_lessens = true), ⟨(by decide +kernel : yX11_lessens.cls ≠ "java/lang/invoke/MethodHandle"), (by decide +kernel : yX11_lessens.cls ≠ "java/lang/invoke/VarHandle"), (by decide +kernel : (parseMethodDescriptor yX11_lessens.desc).map (fun d => d.parameters.length) = some 3)⟩, Nat.le_of_ble_eq_true rfl⟩
noncomputable def l_X11_lessens_3 (x0 : Int32) (x1 : Int32) (x2 : Int64) (σ1 : Mem) (i2 : Int32) : Option ((Mem × Int32) ⊕ Mem) :=
  if 18 ≤ i2 then (some (Sum.inr σ1)) else (gL σ1 320 ((18 * x0) + i2) (fun (v3 : Int64) => gL σ1 320 ((18 * x1) + i2) (fun (v4 : Int64) => pL σ1 320 ((18 * x0) + i2) (v3 - (x2 * v4)) (fun (σ5 : Mem) => some (Sum.inl (σ5, i2 + 1))))))
noncomputable def f_X11_lessens (σ : Mem) (x0 : Int32) (x1 : Int32) (x2 : Int64) : Option Mem :=
  loopO (fun (z2 : (Mem × Int32)) => l_X11_lessens_3 x0 x1 x2 z2.1 z2.2) (σ, 0)
theorem t_X11_lessens {w : Wd} (hw : WOK w) (hN : wn w = NT) {σ : Mem} {x0 : Int32} {x1 : Int32} {x2 : Int64} : JO w mu_X11_lessens vV σ [(0, .ref (adr w 306)), (1, .int x0), (2, .int x1), (3, .long x2)] [] 0 (f_X11_lessens σ x0 x1 x2) (fun z => some ((), z)) := by
  unfold f_X11_lessens
  refine jo_iconst (pc := 0) dX11_lessens_0 (ic_i_0) ?_
  refine jo_istore (pc := 1) (lv' := [(5, .int 0), (0, .ref (adr w 306)), (1, .int x0), (2, .int x1), (3, .long x2)]) dX11_lessens_1 (ltb rfl) rfl ?_
  refine jo_lv (lv' := [(0, .ref (adr w 306)), (1, .int x0), (2, .int x1), (3, .long x2), (5, .int 0)]) [1, 2, 3, 4, 0] rfl ?_
  refine jo_loop (X := Mem) (fun (z2 : (Mem × Int32)) => z2.1) (fun (z2 : (Mem × Int32)) => [(0, .ref (adr w 306)), (1, .int x0), (2, .int x1), (3, .long x2), (5, .int z2.2)]) (body := (fun (z2 : (Mem × Int32)) => l_X11_lessens_3 x0 x1 x2 z2.1 z2.2)) (fun F3_2 hF3_2 s => ?_) (σ, 0)
  obtain ⟨σ1, i2⟩ := s
  show JO w mu_X11_lessens vV σ1 [(0, .ref (adr w 306)), (1, .int x0), (2, .int x1), (3, .long x2), (5, .int i2)] [] 3 (l_X11_lessens_3 x0 x1 x2 σ1 i2) _
  unfold l_X11_lessens_3
  refine jo_iload (pc := 3) 4 rfl dX11_lessens_3 ?_
  refine jo_bipush (pc := 5) dX11_lessens_5 (ic_b_18) ?_
  refine jo_icmp_ge (pc := 7) dX11_lessens_7 (tgt := 55) rfl ?_ ?_
  · exact jo_return (pc := 55) rfl rfl dX11_lessens_55
  · refine jo_aload_n (pc := 10) 0 rfl dX11_lessens_10 rfl ?_
    refine jo_getrE (pc := 11) ok_11_30 (ik_306 hw hN) rf_306_30 gw_1323 dX11_lessens_11 ?_
    refine jo_bipush (pc := 14) dX11_lessens_14 (ic_b_18) ?_
    refine jo_iload_n (pc := 16) 1 rfl dX11_lessens_16 rfl ?_
    refine jo_imul (pc := 17) dX11_lessens_17 ?_
    refine jo_iload (pc := 18) 4 rfl dX11_lessens_18 ?_
    refine jo_iadd (pc := 20) dX11_lessens_20 ?_
    refine jo_aload_n (pc := 21) 0 rfl dX11_lessens_21 rfl ?_
    refine jo_getrE (pc := 22) ok_11_30 (ik_306 hw hN) rf_306_30 gw_1323 dX11_lessens_22 ?_
    refine jo_bipush (pc := 25) dX11_lessens_25 (ic_b_18) ?_
    refine jo_iload_n (pc := 27) 1 rfl dX11_lessens_27 rfl ?_
    refine jo_imul (pc := 28) dX11_lessens_28 ?_
    refine jo_iload (pc := 29) 4 rfl dX11_lessens_29 ?_
    refine jo_iadd (pc := 31) dX11_lessens_31 ?_
    refine jo_lald (pc := 32) (ik_320 hw hN) dX11_lessens_32 (fun v3 => ?_)
    refine jo_lload_n (pc := 33) 3 rfl dX11_lessens_33 rfl ?_
    refine jo_aload_n (pc := 34) 0 rfl dX11_lessens_34 rfl ?_
    refine jo_getrE (pc := 35) ok_11_30 (ik_306 hw hN) rf_306_30 gw_1323 dX11_lessens_35 ?_
    refine jo_bipush (pc := 38) dX11_lessens_38 (ic_b_18) ?_
    refine jo_iload_n (pc := 40) 2 rfl dX11_lessens_40 rfl ?_
    refine jo_imul (pc := 41) dX11_lessens_41 ?_
    refine jo_iload (pc := 42) 4 rfl dX11_lessens_42 ?_
    refine jo_iadd (pc := 44) dX11_lessens_44 ?_
    refine jo_lald (pc := 45) (ik_320 hw hN) dX11_lessens_45 (fun v4 => ?_)
    refine jo_lmul (pc := 46) dX11_lessens_46 ?_
    refine jo_lsub (pc := 47) dX11_lessens_47 ?_
    refine jo_last (pc := 48) (ik_320 hw hN) dX11_lessens_48 (fun σ5 => ?_)
    refine jo_iinc (pc := 49) (lv' := [(5, .int (i2 + 1)), (0, .ref (adr w 306)), (1, .int x0), (2, .int x1), (3, .long x2)]) 4 rfl dX11_lessens_49 (congrArg (fun z => i2 + z) (ic_i_1)) (ltb rfl) rfl ?_
    refine jo_goto (pc := 52) dX11_lessens_52 (tgt := 3) rfl ?_
    refine jo_lv (lv' := [(0, .ref (adr w 306)), (1, .int x0), (2, .int x1), (3, .long x2), (5, .int (i2 + 1))]) [1, 2, 3, 4, 0] rfl ?_
    exact jo_leaf (by rfl) (hF3_2 (σ5, i2 + 1))
theorem c_X11_lessens {w : Wd} (hw : WOK w) (hN : wn w = NT) {σ : Mem} {x0 : Int32} {x1 : Int32} {x2 : Int64} : ∀ σ', f_X11_lessens σ x0 x1 x2 = some σ' → MC w mu_X11_lessens none [.ref (adr w 306), .int x0, .int x1, .long x2] σ σ' := mc_ofV ok_X11_lessens rfl (Nat.le_of_ble_eq_true rfl) (t_X11_lessens hw hN)
abbrev mu_X11_clearsAt : MD := (yX11_clearsAt, cX11_clearsAt, 7, some .boolean, 1)
theorem ok_X11_clearsAt : MOK mu_X11_clearsAt 2 := ⟨gw_1836, gw_171, (by decide +kernel : plainFor yX11_clearsAt = true), ⟨(by decide +kernel : yX11_clearsAt.cls ≠ "java/lang/invoke/MethodHandle"), (by decide +kernel : yX11_clearsAt.cls ≠ "java/lang/invoke/VarHandle"), (by decide +kernel : (parseMethodDescriptor yX11_clearsAt.desc).map (fun d => d.parameters.length) = some 2)⟩, Nat.le_of_ble_eq_true rfl⟩
noncomputable def l_X11_clearsAt_219 (x0 : Int32) (v7 : Int64) (σ8 : Mem) (i9 : Int32) : Option ((Mem × Int32) ⊕ (Bool × Mem)) :=
  if 18 ≤ i9 then (some (Sum.inr (true, σ8))) else (gL σ8 321 i9 (fun (v10 : Int64) => (f_X11_ofColumn σ8 x0 i9).bind (fun (v11 : Int64) => pL σ8 321 i9 (v10 - (v7 * v11)) (fun (σ12 : Mem) => some (Sum.inl (σ12, i9 + 1))))))
noncomputable def j_X11_clearsAt_176 (x0 : Int32) (x1 : Int32) (σ1 : Mem) : Option (Bool × Mem) :=
  pF σ1 306 33 1 (fun (σ2 : Mem) => gL σ2 321 x1 (fun (v3 : Int64) => (f_X11_ofColumn σ2 x0 x1).bind (fun (v4 : Int64) => nzL v4 (if (v3 - v3 / v4 * v4) = 0 then (gL σ2 321 x1 (fun (v5 : Int64) => (f_X11_ofColumn σ2 x0 x1).bind (fun (v6 : Int64) => nzL v6 (bd (v5 / v6) (fun (v7 : Int64) => loopO (fun (z9 : (Mem × Int32)) => l_X11_clearsAt_219 x0 v7 z9.1 z9.2) (σ2, 0)))))) else (some (false, σ2))))))
noncomputable def j_X11_clearsAt_75 (x1 : Int32) (σ13 : Mem) : Option (Mem ⊕ (Bool × Mem)) :=
  gL σ13 321 x1 (fun (v14 : Int64) => if v14 = 0 then (some (Sum.inr (true, σ13))) else (some (Sum.inr (false, σ13))))
noncomputable def j_X11_clearsAt_173 (σ20 : Mem) (i22 : Int32) : Option ((Mem × Int32) ⊕ (Mem ⊕ (Mem ⊕ (Bool × Mem)))) :=
  some (Sum.inl (σ20, i22))
noncomputable def j_X11_clearsAt_166 (i17 : Int32) (σ20 : Mem) (i21 : Int32) : Option ((Mem × Int32) ⊕ (Mem ⊕ (Mem ⊕ (Bool × Mem)))) :=
  (if i21 = 0 then (some (-1)) else (some i17) : Option Int32).bind (fun (z22 : Int32) => j_X11_clearsAt_173 σ20 z22)
noncomputable def j_X11_clearsAt_158 (i25 : Int32) (σ29 : Mem) (b30 : Bool) : Option ((Mem × Int32 × Int32) ⊕ (Mem × Int32)) :=
  some (Sum.inl (σ29, b2i b30, i25 + 1))
noncomputable def j_X11_clearsAt_153  : Option Bool :=
  some true
noncomputable def l_X11_clearsAt_106 (x0 : Int32) (x1 : Int32) (σ23 : Mem) (i24 : Int32) (i25 : Int32) : Option ((Mem × Int32 × Int32) ⊕ (Mem × Int32)) :=
  gF σ23 306 31 (fun (v26 : Int32) => if v26 ≤ i25 then (some (Sum.inr (σ23, i24))) else ((f_X11_ofColumn σ23 i25 x1).bind (fun (v27 : Int64) => (f_X11_ofColumn σ23 x0 x1).bind (fun (v28 : Int64) => nzL v28 ((f_X11_lessens σ23 i25 x0 (v27 / v28)).bind (fun (σ29 : Mem) => ((if i24 = 0 then ((f_X11_ofColumn σ29 i25 x1).bind (fun (v31 : Int64) => if v31 = 0 then (some (Sum.inr false)) else (some (Sum.inl ())))) else (some (Sum.inl ())) : Option (Unit ⊕ Bool)).bind (Sum.elim (fun (z30 : Unit) => j_X11_clearsAt_153) some) : Option Bool).bind (fun (z30 : Bool) => j_X11_clearsAt_158 i25 σ29 z30)))))))
noncomputable def j_X11_clearsAt_70 (x0 : Int32) (x1 : Int32) (σ15 : Mem) (i17 : Int32) : Option ((Mem × Int32) ⊕ (Mem ⊕ (Mem ⊕ (Bool × Mem)))) :=
  if i17 = (-1) then (some (Sum.inr (Sum.inl σ15))) else ((f_X11_changes σ15 i17 x0).bind (fun (σ18 : Mem) => bd (x0 + 1) (fun (v19 : Int32) => (loopO (fun (z25 : (Mem × Int32 × Int32)) => l_X11_clearsAt_106 x0 x1 z25.1 z25.2.1 z25.2.2) (σ18, 0, v19) : Option (Mem × Int32)).bind (fun (z21 : (Mem × Int32)) => j_X11_clearsAt_166 i17 z21.1 z21.2))))
noncomputable def j_X11_clearsAt_64 (i33 : Int32) (i36 : Int32) : Option ((Int32 × Int32) ⊕ Int32) :=
  some (Sum.inl (i36, i33 + 1))
noncomputable def j_X11_clearsAt_61 (i33 : Int32) : Option Int32 :=
  some i33
noncomputable def l_X11_clearsAt_12 (x1 : Int32) (σ15 : Mem) (i32 : Int32) (i33 : Int32) : Option ((Int32 × Int32) ⊕ Int32) :=
  gF σ15 306 31 (fun (v34 : Int32) => if v34 ≤ i33 then (some (Sum.inr i32)) else ((f_X11_ofColumn σ15 i33 x1).bind (fun (v35 : Int64) => (if v35 = 0 then (some i32) else ((if i32 = (-1) then (some (Sum.inl ())) else ((f_X11_ofColumn σ15 i33 x1).bind (fun (v37 : Int64) => (f_J9_abs_067f4 σ15 v37).bind (fun (v38 : Int64) => (f_X11_ofColumn σ15 i32 x1).bind (fun (v39 : Int64) => (f_J9_abs_067f4 σ15 v39).bind (fun (v40 : Int64) => if v40 ≤ v38 then (some (Sum.inr i32)) else (some (Sum.inl ()))))))) : Option (Unit ⊕ Int32)).bind (Sum.elim (fun (z36 : Unit) => j_X11_clearsAt_61 i33) some)) : Option Int32).bind (fun (z36 : Int32) => j_X11_clearsAt_64 i33 z36))))
noncomputable def l_X11_clearsAt_2 (x0 : Int32) (x1 : Int32) (σ15 : Mem) (i16 : Int32) : Option ((Mem × Int32) ⊕ (Mem ⊕ (Mem ⊕ (Bool × Mem)))) :=
  if i16 = (-1) then (some (Sum.inr (Sum.inr (Sum.inl σ15)))) else ((loopO (fun (z33 : (Int32 × Int32)) => l_X11_clearsAt_12 x1 σ15 z33.1 z33.2) ((-1), x0) : Option Int32).bind (fun (z17 : Int32) => j_X11_clearsAt_70 x0 x1 σ15 z17))
noncomputable def f_X11_clearsAt (σ : Mem) (x0 : Int32) (x1 : Int32) : Option (Bool × Mem) :=
  ((loopO (fun (z16 : (Mem × Int32)) => l_X11_clearsAt_2 x0 x1 z16.1 z16.2) (σ, x0) : Option (Mem ⊕ (Mem ⊕ (Bool × Mem)))).bind (Sum.elim (fun (z13 : Mem) => j_X11_clearsAt_75 x1 z13) some) : Option (Mem ⊕ (Bool × Mem))).bind (Sum.elim (fun (z1 : Mem) => j_X11_clearsAt_176 x0 x1 z1) some)
theorem t_X11_clearsAt {w : Wd} (hw : WOK w) (hN : wn w = NT) {σ : Mem} {x0 : Int32} {x1 : Int32} : JO w mu_X11_clearsAt vB σ [(0, .ref (adr w 306)), (1, .int x0), (2, .int x1)] [] 0 (f_X11_clearsAt σ x0 x1) some := by
  unfold f_X11_clearsAt
  refine jo_iload_n (pc := 0) 1 rfl dX11_clearsAt_0 rfl ?_
  refine jo_istore_n (pc := 1) (lv' := [(3, .int x0), (0, .ref (adr w 306)), (1, .int x0), (2, .int x1)]) dX11_clearsAt_1 rfl (ltb rfl) rfl ?_
  refine jo_joinS (S := Mem) (fun (z1 : Mem) => z1) (fun (z1 : Mem) => [(0, .ref (adr w 306)), (1, .int x0), (2, .int x1)]) (fun (z1 : Mem) => []) 176 ?_ (fun h176_1 => ?_)
  · intro σ1
    show JO w mu_X11_clearsAt vB σ1 [(0, .ref (adr w 306)), (1, .int x0), (2, .int x1)] [] 176 (j_X11_clearsAt_176 x0 x1 σ1) _
    unfold j_X11_clearsAt_176
    refine jo_aload_n (pc := 176) 0 rfl dX11_clearsAt_176 rfl ?_
    refine jo_iconst (pc := 177) dX11_clearsAt_177 (ic_i_1) ?_
    refine jo_putz01 (pc := 178) (by decide) ok_11_33 okp_11_33 (ik_306 hw hN) gw_1326 dX11_clearsAt_178 (fun σ2 => ?_)
    refine jo_aload_n (pc := 181) 0 rfl dX11_clearsAt_181 rfl ?_
    refine jo_getrE (pc := 182) ok_11_32 (ik_306 hw hN) rf_306_32 gw_1325 dX11_clearsAt_182 ?_
    refine jo_iload_n (pc := 185) 2 rfl dX11_clearsAt_185 rfl ?_
    refine jo_lald (pc := 186) (ik_321 hw hN) dX11_clearsAt_186 (fun v3 => ?_)
    refine jo_aload_n (pc := 187) 0 rfl dX11_clearsAt_187 rfl ?_
    refine jo_iload_n (pc := 188) 1 rfl dX11_clearsAt_188 rfl ?_
    refine jo_iload_n (pc := 189) 2 rfl dX11_clearsAt_189 rfl ?_
    refine jo_cV_J_p (pc := 190) (μ' := mu_X11_ofColumn) (fx := f_X11_ofColumn σ2 x0 x1) (As := [.int x0, .int x1]) (c_X11_ofColumn hw hN) (ok_X11_ofColumn) (ltb rfl) (all3 gw_1837 gw_1839 gw_140) (ik_306 hw hN) (by decide) (q := (RX11, TX11, 39)) rfl rfl rfl rfl (Nat.le_of_ble_eq_true rfl) dX11_clearsAt_190 (fun v4 => ?_)
    refine jo_lrem (pc := 193) dX11_clearsAt_193 ?_
    refine jo_lconst (pc := 194) dX11_clearsAt_194 (ic_l_0) ?_
    refine jo_lcmp_eq (pc := 195) dX11_clearsAt_195 dX11_clearsAt_196 (tgt := 201) rfl ?_ ?_
    · refine jo_aload_n (pc := 201) 0 rfl dX11_clearsAt_201 rfl ?_
      refine jo_getrE (pc := 202) ok_11_32 (ik_306 hw hN) rf_306_32 gw_1325 dX11_clearsAt_202 ?_
      refine jo_iload_n (pc := 205) 2 rfl dX11_clearsAt_205 rfl ?_
      refine jo_lald (pc := 206) (ik_321 hw hN) dX11_clearsAt_206 (fun v5 => ?_)
      refine jo_aload_n (pc := 207) 0 rfl dX11_clearsAt_207 rfl ?_
      refine jo_iload_n (pc := 208) 1 rfl dX11_clearsAt_208 rfl ?_
      refine jo_iload_n (pc := 209) 2 rfl dX11_clearsAt_209 rfl ?_
      refine jo_cV_J_p (pc := 210) (μ' := mu_X11_ofColumn) (fx := f_X11_ofColumn σ2 x0 x1) (As := [.int x0, .int x1]) (c_X11_ofColumn hw hN) (ok_X11_ofColumn) (ltb rfl) (all3 gw_1837 gw_1839 gw_140) (ik_306 hw hN) (by decide) (q := (RX11, TX11, 39)) rfl rfl rfl rfl (Nat.le_of_ble_eq_true rfl) dX11_clearsAt_210 (fun v6 => ?_)
      refine jo_ldiv (pc := 213) dX11_clearsAt_213 ?_
      refine jo_bd ?_
      refine jo_lstore (pc := 214) (lv' := [(4, .long (v5 / v6)), (0, .ref (adr w 306)), (1, .int x0), (2, .int x1)]) dX11_clearsAt_214 (ltb rfl) rfl ?_
      generalize (v5 / v6) = v7
      refine jo_iconst (pc := 216) dX11_clearsAt_216 (ic_i_0) ?_
      refine jo_istore (pc := 217) (lv' := [(6, .int 0), (4, .long v7), (0, .ref (adr w 306)), (1, .int x0), (2, .int x1)]) dX11_clearsAt_217 (ltb rfl) rfl ?_
      refine jo_lv (lv' := [(4, .long v7), (0, .ref (adr w 306)), (1, .int x0), (6, .int 0)]) [1, 2, 3, 0] rfl ?_
      refine jo_loop (X := (Bool × Mem)) (fun (z9 : (Mem × Int32)) => z9.1) (fun (z9 : (Mem × Int32)) => [(4, .long v7), (0, .ref (adr w 306)), (1, .int x0), (6, .int z9.2)]) (body := (fun (z9 : (Mem × Int32)) => l_X11_clearsAt_219 x0 v7 z9.1 z9.2)) (fun F219_9 hF219_9 s => ?_) (σ2, 0)
      obtain ⟨σ8, i9⟩ := s
      show JO w mu_X11_clearsAt vB σ8 [(4, .long v7), (0, .ref (adr w 306)), (1, .int x0), (6, .int i9)] [] 219 (l_X11_clearsAt_219 x0 v7 σ8 i9) _
      unfold l_X11_clearsAt_219
      refine jo_iload (pc := 219) 3 rfl dX11_clearsAt_219 ?_
      refine jo_bipush (pc := 221) dX11_clearsAt_221 (ic_b_18) ?_
      refine jo_icmp_ge (pc := 223) dX11_clearsAt_223 (tgt := 257) rfl ?_ ?_
      · refine jo_iconst (pc := 257) dX11_clearsAt_257 (ic_i_1) ?_
        exact jo_breturn (pc := 258) (b := true) rfl rfl dX11_clearsAt_258
      · refine jo_aload_n (pc := 226) 1 rfl dX11_clearsAt_226 rfl ?_
        refine jo_getrE (pc := 227) ok_11_32 (ik_306 hw hN) rf_306_32 gw_1325 dX11_clearsAt_227 ?_
        refine jo_iload (pc := 230) 3 rfl dX11_clearsAt_230 ?_
        refine jo_aload_n (pc := 232) 1 rfl dX11_clearsAt_232 rfl ?_
        refine jo_getrE (pc := 233) ok_11_32 (ik_306 hw hN) rf_306_32 gw_1325 dX11_clearsAt_233 ?_
        refine jo_iload (pc := 236) 3 rfl dX11_clearsAt_236 ?_
        refine jo_lald (pc := 238) (ik_321 hw hN) dX11_clearsAt_238 (fun v10 => ?_)
        refine jo_lload (pc := 239) 0 rfl dX11_clearsAt_239 ?_
        refine jo_aload_n (pc := 241) 1 rfl dX11_clearsAt_241 rfl ?_
        refine jo_iload_n (pc := 242) 2 rfl dX11_clearsAt_242 rfl ?_
        refine jo_iload (pc := 243) 3 rfl dX11_clearsAt_243 ?_
        refine jo_cV_J_p (pc := 245) (μ' := mu_X11_ofColumn) (fx := f_X11_ofColumn σ8 x0 i9) (As := [.int x0, .int i9]) (c_X11_ofColumn hw hN) (ok_X11_ofColumn) (ltb rfl) (all3 gw_1837 gw_1839 gw_140) (ik_306 hw hN) (by decide) (q := (RX11, TX11, 39)) rfl rfl rfl rfl (Nat.le_of_ble_eq_true rfl) dX11_clearsAt_245 (fun v11 => ?_)
        refine jo_lmul (pc := 248) dX11_clearsAt_248 ?_
        refine jo_lsub (pc := 249) dX11_clearsAt_249 ?_
        refine jo_last (pc := 250) (ik_321 hw hN) dX11_clearsAt_250 (fun σ12 => ?_)
        refine jo_iinc (pc := 251) (lv' := [(6, .int (i9 + 1)), (4, .long v7), (0, .ref (adr w 306)), (1, .int x0)]) 3 rfl dX11_clearsAt_251 (congrArg (fun z => i9 + z) (ic_i_1)) (ltb rfl) rfl ?_
        refine jo_goto (pc := 254) dX11_clearsAt_254 (tgt := 219) rfl ?_
        refine jo_lv (lv' := [(4, .long v7), (0, .ref (adr w 306)), (1, .int x0), (6, .int (i9 + 1))]) [1, 2, 3, 0] rfl ?_
        exact jo_leaf (by rfl) (hF219_9 (σ12, i9 + 1))
    · refine jo_iconst (pc := 199) dX11_clearsAt_199 (ic_i_0) ?_
      exact jo_breturn (pc := 200) (b := false) rfl rfl dX11_clearsAt_200
  · refine jo_joinS (S := Mem) (fun (z13 : Mem) => z13) (fun (z13 : Mem) => [(0, .ref (adr w 306)), (2, .int x1)]) (fun (z13 : Mem) => []) 75 ?_ (fun h75_13 => ?_)
    · intro σ13
      show JO w mu_X11_clearsAt vB σ13 [(0, .ref (adr w 306)), (2, .int x1)] [] 75 (j_X11_clearsAt_75 x1 σ13) _
      unfold j_X11_clearsAt_75
      refine jo_aload_n (pc := 75) 0 rfl dX11_clearsAt_75 rfl ?_
      refine jo_getrE (pc := 76) ok_11_32 (ik_306 hw hN) rf_306_32 gw_1325 dX11_clearsAt_76 ?_
      refine jo_iload_n (pc := 79) 1 rfl dX11_clearsAt_79 rfl ?_
      refine jo_lald (pc := 80) (ik_321 hw hN) dX11_clearsAt_80 (fun v14 => ?_)
      refine jo_lconst (pc := 81) dX11_clearsAt_81 (ic_l_0) ?_
      refine jo_lcmp_ne (pc := 82) dX11_clearsAt_82 dX11_clearsAt_83 (tgt := 90) rfl ?_ ?_
      · refine jo_iconst (pc := 90) dX11_clearsAt_90 (ic_i_0) ?_
        exact jo_breturn (pc := 91) (b := false) rfl rfl dX11_clearsAt_91
      · refine jo_iconst (pc := 86) dX11_clearsAt_86 (ic_i_1) ?_
        refine jo_goto (pc := 87) dX11_clearsAt_87 (tgt := 91) rfl ?_
        exact jo_breturn (pc := 91) (b := true) rfl rfl dX11_clearsAt_91
    · refine jo_lv (lv' := [(0, .ref (adr w 306)), (1, .int x0), (2, .int x1), (3, .int x0)]) [1, 2, 3, 0] rfl ?_
      refine jo_loop (X := Mem ⊕ (Mem ⊕ (Bool × Mem))) (fun (z16 : (Mem × Int32)) => z16.1) (fun (z16 : (Mem × Int32)) => [(0, .ref (adr w 306)), (1, .int x0), (2, .int x1), (3, .int z16.2)]) (body := (fun (z16 : (Mem × Int32)) => l_X11_clearsAt_2 x0 x1 z16.1 z16.2)) (fun F2_16 hF2_16 s => ?_) (σ, x0)
      obtain ⟨σ15, i16⟩ := s
      show JO w mu_X11_clearsAt vB σ15 [(0, .ref (adr w 306)), (1, .int x0), (2, .int x1), (3, .int i16)] [] 2 (l_X11_clearsAt_2 x0 x1 σ15 i16) _
      unfold l_X11_clearsAt_2
      refine jo_iload_n (pc := 2) 3 rfl dX11_clearsAt_2 rfl ?_
      refine jo_iconst (pc := 3) dX11_clearsAt_3 (ic_i_m1) ?_
      refine jo_icmp_eq (pc := 4) dX11_clearsAt_4 (tgt := 176) rfl ?_ ?_
      · refine jo_lv (lv' := [(0, .ref (adr w 306)), (1, .int x0), (2, .int x1)]) [0, 1, 2] rfl ?_
        exact jo_leaf (by rfl) (h176_1 σ15)
      · refine jo_iconst (pc := 7) dX11_clearsAt_7 (ic_i_m1) ?_
        refine jo_istore_n (pc := 8) (lv' := [(3, .int (-1)), (0, .ref (adr w 306)), (1, .int x0), (2, .int x1)]) dX11_clearsAt_8 rfl (ltb rfl) rfl ?_
        refine jo_iload_n (pc := 9) 2 rfl dX11_clearsAt_9 rfl ?_
        refine jo_istore (pc := 10) (lv' := [(4, .int x0), (3, .int (-1)), (0, .ref (adr w 306)), (1, .int x0), (2, .int x1)]) dX11_clearsAt_10 (ltb rfl) rfl ?_
        refine jo_join1 (S := Int32) (fun (z17 : Int32) => σ15) (fun (z17 : Int32) => [(0, .ref (adr w 306)), (1, .int x0), (2, .int x1), (3, .int z17)]) (fun (z17 : Int32) => []) 70 ?_ (fun h70_17 => ?_)
        · intro i17
          show JO w mu_X11_clearsAt vB σ15 [(0, .ref (adr w 306)), (1, .int x0), (2, .int x1), (3, .int i17)] [] 70 (j_X11_clearsAt_70 x0 x1 σ15 i17) _
          unfold j_X11_clearsAt_70
          refine jo_iload_n (pc := 70) 3 rfl dX11_clearsAt_70 rfl ?_
          refine jo_iconst (pc := 71) dX11_clearsAt_71 (ic_i_m1) ?_
          refine jo_icmp_ne (pc := 72) dX11_clearsAt_72 (tgt := 92) rfl ?_ ?_
          · refine jo_aload_n (pc := 92) 0 rfl dX11_clearsAt_92 rfl ?_
            refine jo_iload_n (pc := 93) 3 rfl dX11_clearsAt_93 rfl ?_
            refine jo_iload_n (pc := 94) 1 rfl dX11_clearsAt_94 rfl ?_
            refine jo_cV_V_i (pc := 95) (μ' := mu_X11_changes) (fx := f_X11_changes σ15 i17 x0) (As := [.int i17, .int x0]) (c_X11_changes hw hN) (ok_X11_changes) (ltb rfl) (all3 gw_1844 gw_1846 gw_141) (ik_306 hw hN) (by decide) (q := (RX11, TX11, 39)) rfl rfl rfl rfl (Nat.le_of_ble_eq_true rfl) dX11_clearsAt_95 (fun σ18 => ?_)
            refine jo_iconst (pc := 98) dX11_clearsAt_98 (ic_i_0) ?_
            refine jo_istore (pc := 99) (lv' := [(4, .int 0), (0, .ref (adr w 306)), (1, .int x0), (2, .int x1), (3, .int i17)]) dX11_clearsAt_99 (ltb rfl) rfl ?_
            refine jo_iload_n (pc := 101) 2 rfl dX11_clearsAt_101 rfl ?_
            refine jo_iconst (pc := 102) dX11_clearsAt_102 (ic_i_1) ?_
            refine jo_iadd (pc := 103) dX11_clearsAt_103 ?_
            refine jo_bd ?_
            refine jo_istore (pc := 104) (lv' := [(5, .int (x0 + 1)), (4, .int 0), (0, .ref (adr w 306)), (1, .int x0), (2, .int x1), (3, .int i17)]) dX11_clearsAt_104 (ltb rfl) rfl ?_
            generalize (x0 + 1) = v19
            refine jo_join1 (S := (Mem × Int32)) (fun (z21 : (Mem × Int32)) => z21.1) (fun (z21 : (Mem × Int32)) => [(0, .ref (adr w 306)), (1, .int x0), (2, .int x1), (3, .int i17), (4, .int z21.2)]) (fun (z21 : (Mem × Int32)) => []) 166 ?_ (fun h166_21 => ?_)
            · intro s
              obtain ⟨σ20, i21⟩ := s
              show JO w mu_X11_clearsAt vB σ20 [(0, .ref (adr w 306)), (1, .int x0), (2, .int x1), (3, .int i17), (4, .int i21)] [] 166 (j_X11_clearsAt_166 i17 σ20 i21) _
              unfold j_X11_clearsAt_166
              refine jo_iload (pc := 166) 4 rfl dX11_clearsAt_166 ?_
              refine jo_join1 (S := Int32) (fun (z22 : Int32) => σ20) (fun (z22 : Int32) => [(0, .ref (adr w 306)), (1, .int x0), (2, .int x1), (3, .int z22)]) (fun (z22 : Int32) => []) 173 ?_ (fun h173_22 => ?_)
              · intro i22
                show JO w mu_X11_clearsAt vB σ20 [(0, .ref (adr w 306)), (1, .int x0), (2, .int x1), (3, .int i22)] [] 173 (j_X11_clearsAt_173 σ20 i22) _
                unfold j_X11_clearsAt_173
                refine jo_goto (pc := 173) dX11_clearsAt_173 (tgt := 2) rfl ?_
                exact jo_leaf (by rfl) (hF2_16 (σ20, i22))
              · refine jo_if_ne (pc := 168) dX11_clearsAt_168 (tgt := 173) rfl ?_ ?_
                · refine jo_lv (lv' := [(0, .ref (adr w 306)), (1, .int x0), (2, .int x1), (3, .int i17)]) [0, 1, 2, 3] rfl ?_
                  exact jo_leaf (by rfl) (h173_22 i17)
                · refine jo_iconst (pc := 171) dX11_clearsAt_171 (ic_i_m1) ?_
                  refine jo_istore_n (pc := 172) (lv' := [(3, .int (-1)), (0, .ref (adr w 306)), (1, .int x0), (2, .int x1), (4, .int i21)]) dX11_clearsAt_172 rfl (ltb rfl) rfl ?_
                  refine jo_lv (lv' := [(0, .ref (adr w 306)), (1, .int x0), (2, .int x1), (3, .int (-1))]) [1, 2, 3, 0] rfl ?_
                  exact jo_leaf (by rfl) (h173_22 (-1))
            · refine jo_lv (lv' := [(0, .ref (adr w 306)), (1, .int x0), (2, .int x1), (3, .int i17), (4, .int 0), (5, .int v19)]) [2, 3, 4, 5, 1, 0] rfl ?_
              refine jo_loop (X := (Mem × Int32)) (fun (z25 : (Mem × Int32 × Int32)) => z25.1) (fun (z25 : (Mem × Int32 × Int32)) => [(0, .ref (adr w 306)), (1, .int x0), (2, .int x1), (3, .int i17), (4, .int z25.2.1), (5, .int z25.2.2)]) (body := (fun (z25 : (Mem × Int32 × Int32)) => l_X11_clearsAt_106 x0 x1 z25.1 z25.2.1 z25.2.2)) (fun F106_25 hF106_25 s => ?_) (σ18, 0, v19)
              obtain ⟨σ23, i24, i25⟩ := s
              show JO w mu_X11_clearsAt vB σ23 [(0, .ref (adr w 306)), (1, .int x0), (2, .int x1), (3, .int i17), (4, .int i24), (5, .int i25)] [] 106 (l_X11_clearsAt_106 x0 x1 σ23 i24 i25) _
              unfold l_X11_clearsAt_106
              refine jo_iload (pc := 106) 5 rfl dX11_clearsAt_106 ?_
              refine jo_aload_n (pc := 108) 0 rfl dX11_clearsAt_108 rfl ?_
              refine jo_getf (pc := 109) ok_11_31 (ik_306 hw hN) gw_1324 dX11_clearsAt_109 (fun v26 => ?_)
              refine jo_icmp_ge (pc := 112) dX11_clearsAt_112 (tgt := 166) rfl ?_ ?_
              · refine jo_lv (lv' := [(0, .ref (adr w 306)), (1, .int x0), (2, .int x1), (3, .int i17), (4, .int i24)]) [0, 1, 2, 3, 4] rfl ?_
                exact jo_leaf (by rfl) (h166_21 (σ23, i24))
              · refine jo_aload_n (pc := 115) 0 rfl dX11_clearsAt_115 rfl ?_
                refine jo_iload (pc := 116) 5 rfl dX11_clearsAt_116 ?_
                refine jo_iload_n (pc := 118) 1 rfl dX11_clearsAt_118 rfl ?_
                refine jo_aload_n (pc := 119) 0 rfl dX11_clearsAt_119 rfl ?_
                refine jo_iload (pc := 120) 5 rfl dX11_clearsAt_120 ?_
                refine jo_iload_n (pc := 122) 2 rfl dX11_clearsAt_122 rfl ?_
                refine jo_cV_J_p (pc := 123) (μ' := mu_X11_ofColumn) (fx := f_X11_ofColumn σ23 i25 x1) (As := [.int i25, .int x1]) (c_X11_ofColumn hw hN) (ok_X11_ofColumn) (ltb rfl) (all3 gw_1837 gw_1839 gw_140) (ik_306 hw hN) (by decide) (q := (RX11, TX11, 39)) rfl rfl rfl rfl (Nat.le_of_ble_eq_true rfl) dX11_clearsAt_123 (fun v27 => ?_)
                refine jo_aload_n (pc := 126) 0 rfl dX11_clearsAt_126 rfl ?_
                refine jo_iload_n (pc := 127) 1 rfl dX11_clearsAt_127 rfl ?_
                refine jo_iload_n (pc := 128) 2 rfl dX11_clearsAt_128 rfl ?_
                refine jo_cV_J_p (pc := 129) (μ' := mu_X11_ofColumn) (fx := f_X11_ofColumn σ23 x0 x1) (As := [.int x0, .int x1]) (c_X11_ofColumn hw hN) (ok_X11_ofColumn) (ltb rfl) (all3 gw_1837 gw_1839 gw_140) (ik_306 hw hN) (by decide) (q := (RX11, TX11, 39)) rfl rfl rfl rfl (Nat.le_of_ble_eq_true rfl) dX11_clearsAt_129 (fun v28 => ?_)
                refine jo_ldiv (pc := 132) dX11_clearsAt_132 ?_
                refine jo_cV_V_i (pc := 133) (μ' := mu_X11_lessens) (fx := f_X11_lessens σ23 i25 x0 (v27 / v28)) (As := [.int i25, .int x0, .long (v27 / v28)]) (c_X11_lessens hw hN) (ok_X11_lessens) (ltb rfl) (all3 gw_1848 gw_1850 gw_142) (ik_306 hw hN) (by decide) (q := (RX11, TX11, 39)) rfl rfl rfl rfl (Nat.le_of_ble_eq_true rfl) dX11_clearsAt_133 (fun σ29 => ?_)
                refine jo_iload (pc := 136) 4 rfl dX11_clearsAt_136 ?_
                refine jo_join1 (S := Bool) (fun (z30 : Bool) => σ29) (fun (z30 : Bool) => [(0, .ref (adr w 306)), (1, .int x0), (2, .int x1), (3, .int i17), (5, .int i25)]) (fun (z30 : Bool) => [.int (b2i z30)]) 158 ?_ (fun h158_30 => ?_)
                · intro b30
                  show JO w mu_X11_clearsAt vB σ29 [(0, .ref (adr w 306)), (1, .int x0), (2, .int x1), (3, .int i17), (5, .int i25)] [.int (b2i b30)] 158 (j_X11_clearsAt_158 i25 σ29 b30) _
                  unfold j_X11_clearsAt_158
                  refine jo_istore (pc := 158) (lv' := [(4, .int (b2i b30)), (0, .ref (adr w 306)), (1, .int x0), (2, .int x1), (3, .int i17), (5, .int i25)]) dX11_clearsAt_158 (ltb rfl) rfl ?_
                  refine jo_iinc (pc := 160) (lv' := [(5, .int (i25 + 1)), (4, .int (b2i b30)), (0, .ref (adr w 306)), (1, .int x0), (2, .int x1), (3, .int i17)]) 5 rfl dX11_clearsAt_160 (congrArg (fun z => i25 + z) (ic_i_1)) (ltb rfl) rfl ?_
                  refine jo_goto (pc := 163) dX11_clearsAt_163 (tgt := 106) rfl ?_
                  refine jo_lv (lv' := [(0, .ref (adr w 306)), (1, .int x0), (2, .int x1), (3, .int i17), (4, .int (b2i b30)), (5, .int (i25 + 1))]) [2, 3, 4, 5, 1, 0] rfl ?_
                  exact jo_leaf (by rfl) (hF106_25 (σ29, b2i b30, i25 + 1))
                · refine jo_joinS (S := Unit) (fun (z30 : Unit) => σ29) (fun (z30 : Unit) => [(0, .ref (adr w 306)), (1, .int x0), (2, .int x1), (3, .int i17), (5, .int i25)]) (fun (z30 : Unit) => []) 153 ?_ (fun h153_30 => ?_)
                  · intro _
                    show JO w mu_X11_clearsAt vB σ29 [(0, .ref (adr w 306)), (1, .int x0), (2, .int x1), (3, .int i17), (5, .int i25)] [] 153 (j_X11_clearsAt_153) _
                    unfold j_X11_clearsAt_153
                    refine jo_iconst (pc := 153) dX11_clearsAt_153 (ic_i_1) ?_
                    refine jo_goto (pc := 154) dX11_clearsAt_154 (tgt := 158) rfl ?_
                    exact jo_leaf (by rfl) (h158_30 true)
                  · refine jo_if_ne (pc := 138) dX11_clearsAt_138 (tgt := 153) rfl ?_ ?_
                    · refine jo_lv (lv' := [(0, .ref (adr w 306)), (1, .int x0), (2, .int x1), (3, .int i17), (5, .int i25)]) [0, 1, 2, 3, 5] rfl ?_
                      exact jo_leaf (by rfl) (h153_30 ())
                    · refine jo_aload_n (pc := 141) 0 rfl dX11_clearsAt_141 rfl ?_
                      refine jo_iload (pc := 142) 5 rfl dX11_clearsAt_142 ?_
                      refine jo_iload_n (pc := 144) 2 rfl dX11_clearsAt_144 rfl ?_
                      refine jo_cV_J_p (pc := 145) (μ' := mu_X11_ofColumn) (fx := f_X11_ofColumn σ29 i25 x1) (As := [.int i25, .int x1]) (c_X11_ofColumn hw hN) (ok_X11_ofColumn) (ltb rfl) (all3 gw_1837 gw_1839 gw_140) (ik_306 hw hN) (by decide) (q := (RX11, TX11, 39)) rfl rfl rfl rfl (Nat.le_of_ble_eq_true rfl) dX11_clearsAt_145 (fun v31 => ?_)
                      refine jo_lconst (pc := 148) dX11_clearsAt_148 (ic_l_0) ?_
                      refine jo_lcmp_eq (pc := 149) dX11_clearsAt_149 dX11_clearsAt_150 (tgt := 157) rfl ?_ ?_
                      · refine jo_iconst (pc := 157) dX11_clearsAt_157 (ic_i_0) ?_
                        refine jo_lv (lv' := [(0, .ref (adr w 306)), (1, .int x0), (2, .int x1), (3, .int i17), (5, .int i25)]) [0, 1, 2, 3, 5] rfl ?_
                        exact jo_leaf (by rfl) (h158_30 false)
                      · refine jo_lv (lv' := [(0, .ref (adr w 306)), (1, .int x0), (2, .int x1), (3, .int i17), (5, .int i25)]) [0, 1, 2, 3, 5] rfl ?_
                        exact jo_leaf (by rfl) (h153_30 ())
          · refine jo_lv (lv' := [(0, .ref (adr w 306)), (2, .int x1)]) [0, 2] rfl ?_
            exact jo_leaf (by rfl) (h75_13 σ15)
        · refine jo_lv (lv' := [(0, .ref (adr w 306)), (1, .int x0), (2, .int x1), (3, .int (-1)), (4, .int x0)]) [2, 3, 4, 1, 0] rfl ?_
          refine jo_loop (X := Int32) (fun (z33 : (Int32 × Int32)) => σ15) (fun (z33 : (Int32 × Int32)) => [(0, .ref (adr w 306)), (1, .int x0), (2, .int x1), (3, .int z33.1), (4, .int z33.2)]) (body := (fun (z33 : (Int32 × Int32)) => l_X11_clearsAt_12 x1 σ15 z33.1 z33.2)) (fun F12_33 hF12_33 s => ?_) ((-1), x0)
          obtain ⟨i32, i33⟩ := s
          show JO w mu_X11_clearsAt vB σ15 [(0, .ref (adr w 306)), (1, .int x0), (2, .int x1), (3, .int i32), (4, .int i33)] [] 12 (l_X11_clearsAt_12 x1 σ15 i32 i33) _
          unfold l_X11_clearsAt_12
          refine jo_iload (pc := 12) 4 rfl dX11_clearsAt_12 ?_
          refine jo_aload_n (pc := 14) 0 rfl dX11_clearsAt_14 rfl ?_
          refine jo_getf (pc := 15) ok_11_31 (ik_306 hw hN) gw_1324 dX11_clearsAt_15 (fun v34 => ?_)
          refine jo_icmp_ge (pc := 18) dX11_clearsAt_18 (tgt := 70) rfl ?_ ?_
          · refine jo_lv (lv' := [(0, .ref (adr w 306)), (1, .int x0), (2, .int x1), (3, .int i32)]) [0, 1, 2, 3] rfl ?_
            exact jo_leaf (by rfl) (h70_17 i32)
          · refine jo_aload_n (pc := 21) 0 rfl dX11_clearsAt_21 rfl ?_
            refine jo_iload (pc := 22) 4 rfl dX11_clearsAt_22 ?_
            refine jo_iload_n (pc := 24) 2 rfl dX11_clearsAt_24 rfl ?_
            refine jo_cV_J_p (pc := 25) (μ' := mu_X11_ofColumn) (fx := f_X11_ofColumn σ15 i33 x1) (As := [.int i33, .int x1]) (c_X11_ofColumn hw hN) (ok_X11_ofColumn) (ltb rfl) (all3 gw_1837 gw_1839 gw_140) (ik_306 hw hN) (by decide) (q := (RX11, TX11, 39)) rfl rfl rfl rfl (Nat.le_of_ble_eq_true rfl) dX11_clearsAt_25 (fun v35 => ?_)
            refine jo_lconst (pc := 28) dX11_clearsAt_28 (ic_l_0) ?_
            refine jo_join1 (S := Int32) (fun (z36 : Int32) => σ15) (fun (z36 : Int32) => [(0, .ref (adr w 306)), (1, .int x0), (2, .int x1), (4, .int i33), (3, .int z36)]) (fun (z36 : Int32) => []) 64 ?_ (fun h64_36 => ?_)
            · intro i36
              show JO w mu_X11_clearsAt vB σ15 [(0, .ref (adr w 306)), (1, .int x0), (2, .int x1), (4, .int i33), (3, .int i36)] [] 64 (j_X11_clearsAt_64 i33 i36) _
              unfold j_X11_clearsAt_64
              refine jo_iinc (pc := 64) (lv' := [(4, .int (i33 + 1)), (0, .ref (adr w 306)), (1, .int x0), (2, .int x1), (3, .int i36)]) 3 rfl dX11_clearsAt_64 (congrArg (fun z => i33 + z) (ic_i_1)) (ltb rfl) rfl ?_
              refine jo_goto (pc := 67) dX11_clearsAt_67 (tgt := 12) rfl ?_
              refine jo_lv (lv' := [(0, .ref (adr w 306)), (1, .int x0), (2, .int x1), (3, .int i36), (4, .int (i33 + 1))]) [1, 2, 3, 4, 0] rfl ?_
              exact jo_leaf (by rfl) (hF12_33 (i36, i33 + 1))
            · refine jo_lcmp_eq (pc := 29) dX11_clearsAt_29 dX11_clearsAt_30 (tgt := 64) rfl ?_ ?_
              · refine jo_lv (lv' := [(0, .ref (adr w 306)), (1, .int x0), (2, .int x1), (4, .int i33), (3, .int i32)]) [0, 1, 2, 4, 3] rfl ?_
                exact jo_leaf (by rfl) (h64_36 i32)
              · refine jo_iload_n (pc := 33) 3 rfl dX11_clearsAt_33 rfl ?_
                refine jo_iconst (pc := 34) dX11_clearsAt_34 (ic_i_m1) ?_
                refine jo_joinS (S := Unit) (fun (z36 : Unit) => σ15) (fun (z36 : Unit) => [(0, .ref (adr w 306)), (1, .int x0), (2, .int x1), (4, .int i33)]) (fun (z36 : Unit) => []) 61 ?_ (fun h61_36 => ?_)
                · intro _
                  show JO w mu_X11_clearsAt vB σ15 [(0, .ref (adr w 306)), (1, .int x0), (2, .int x1), (4, .int i33)] [] 61 (j_X11_clearsAt_61 i33) _
                  unfold j_X11_clearsAt_61
                  refine jo_iload (pc := 61) 3 rfl dX11_clearsAt_61 ?_
                  refine jo_istore_n (pc := 63) (lv' := [(3, .int i33), (0, .ref (adr w 306)), (1, .int x0), (2, .int x1), (4, .int i33)]) dX11_clearsAt_63 rfl (ltb rfl) rfl ?_
                  refine jo_lv (lv' := [(0, .ref (adr w 306)), (1, .int x0), (2, .int x1), (4, .int i33), (3, .int i33)]) [1, 2, 3, 4, 0] rfl ?_
                  exact jo_leaf (by rfl) (h64_36 i33)
                · refine jo_icmp_eq (pc := 35) dX11_clearsAt_35 (tgt := 61) rfl ?_ ?_
                  · refine jo_lv (lv' := [(0, .ref (adr w 306)), (1, .int x0), (2, .int x1), (4, .int i33)]) [0, 1, 2, 4] rfl ?_
                    exact jo_leaf (by rfl) (h61_36 ())
                  · refine jo_aload_n (pc := 38) 0 rfl dX11_clearsAt_38 rfl ?_
                    refine jo_iload (pc := 39) 4 rfl dX11_clearsAt_39 ?_
                    refine jo_iload_n (pc := 41) 2 rfl dX11_clearsAt_41 rfl ?_
                    refine jo_cV_J_p (pc := 42) (μ' := mu_X11_ofColumn) (fx := f_X11_ofColumn σ15 i33 x1) (As := [.int i33, .int x1]) (c_X11_ofColumn hw hN) (ok_X11_ofColumn) (ltb rfl) (all3 gw_1837 gw_1839 gw_140) (ik_306 hw hN) (by decide) (q := (RX11, TX11, 39)) rfl rfl rfl rfl (Nat.le_of_ble_eq_true rfl) dX11_clearsAt_42 (fun v37 => ?_)
                    refine jo_cS_J_p (pc := 45) (μ' := mu_J9_abs_067f4) (fx := f_J9_abs_067f4 σ15 v37) (As := [.long v37]) (c_J9_abs_067f4 hw) (ok_J9_abs_067f4) (ltb rfl) (all2 gw_1841 gw_1842) rfl rfl (Nat.le_of_ble_eq_true rfl) dX11_clearsAt_45 (fun v38 => ?_)
                    refine jo_aload_n (pc := 48) 0 rfl dX11_clearsAt_48 rfl ?_
                    refine jo_iload_n (pc := 49) 3 rfl dX11_clearsAt_49 rfl ?_
                    refine jo_iload_n (pc := 50) 2 rfl dX11_clearsAt_50 rfl ?_
                    refine jo_cV_J_p (pc := 51) (μ' := mu_X11_ofColumn) (fx := f_X11_ofColumn σ15 i32 x1) (As := [.int i32, .int x1]) (c_X11_ofColumn hw hN) (ok_X11_ofColumn) (ltb rfl) (all3 gw_1837 gw_1839 gw_140) (ik_306 hw hN) (by decide) (q := (RX11, TX11, 39)) rfl rfl rfl rfl (Nat.le_of_ble_eq_true rfl) dX11_clearsAt_51 (fun v39 => ?_)
                    refine jo_cS_J_p (pc := 54) (μ' := mu_J9_abs_067f4) (fx := f_J9_abs_067f4 σ15 v39) (As := [.long v39]) (c_J9_abs_067f4 hw) (ok_J9_abs_067f4) (ltb rfl) (all2 gw_1841 gw_1842) rfl rfl (Nat.le_of_ble_eq_true rfl) dX11_clearsAt_54 (fun v40 => ?_)
                    refine jo_lcmp_ge (pc := 57) dX11_clearsAt_57 dX11_clearsAt_58 (tgt := 64) rfl ?_ ?_
                    · refine jo_lv (lv' := [(0, .ref (adr w 306)), (1, .int x0), (2, .int x1), (4, .int i33), (3, .int i32)]) [0, 1, 2, 4, 3] rfl ?_
                      exact jo_leaf (by rfl) (h64_36 i32)
                    · refine jo_lv (lv' := [(0, .ref (adr w 306)), (1, .int x0), (2, .int x1), (4, .int i33)]) [0, 1, 2, 4] rfl ?_
                      exact jo_leaf (by rfl) (h61_36 ())
theorem c_X11_clearsAt {w : Wd} (hw : WOK w) (hN : wn w = NT) {σ : Mem} {x0 : Int32} {x1 : Int32} : ∀ r σ', f_X11_clearsAt σ x0 x1 = some (r, σ') → MC w mu_X11_clearsAt (vB r) [.ref (adr w 306), .int x0, .int x1] σ σ' := mc_of ok_X11_clearsAt rfl (Nat.le_of_ble_eq_true rfl) (t_X11_clearsAt hw hN)
