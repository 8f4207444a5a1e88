abbrev mu_X11_canMake : MD := (yX11_canMake, cX11_canMake, 2, some .boolean, 2)
theorem ok_X11_canMake : MOK mu_X11_canMake 0 := ⟨gw_1832, gw_171, (by decide +kernel : plainFor yX11_canMake = true), ⟨(by decide +kernel : yX11_canMake.cls ≠ "java/lang/invoke/MethodHandle"), (by decide +kernel : yX11_canMake.cls ≠ "java/lang/invoke/VarHandle"), (by decide +kernel : (parseMethodDescriptor yX11_canMake.desc).map (fun d => d.parameters.length) = some 0)⟩, Nat.le_of_ble_eq_true rfl⟩
noncomputable def j_X11_canMake_49 (i3 : Int32) (σ9 : Mem) : Option ((Mem × Int32) ⊕ (Bool × Mem)) :=
  some (Sum.inl (σ9, i3 + 1))
noncomputable def l_X11_canMake_7 (σ2 : Mem) (i3 : Int32) : Option ((Mem × Int32) ⊕ (Bool × Mem)) :=
  if 6 ≤ i3 then (some (Sum.inr (true, σ2))) else (pF σ2 306 33 0 (fun (σ4 : Mem) => gF σ4 306 34 (fun (v5 : Int32) => bq (f_X11_clearsAt σ4 v5 i3) (fun (b6 : Bool) (σ7 : Mem) => if b6 then gZ σ7 306 33 (fun (b8 : Bool) => (if b8 then gF σ7 306 34 (fun (v10 : Int32) => pF σ7 306 34 (v10 + 1) (fun (σ11 : Mem) => some σ11)) else some σ7 : Option Mem).bind (fun (z9 : Mem) => j_X11_canMake_49 i3 z9)) else some (Sum.inr (false, σ7))))))
noncomputable def f_X11_canMake (σ : Mem) : Option (Bool × Mem) :=
  pF σ 306 34 0 (fun (σ1 : Mem) => loopO (fun (z3 : (Mem × Int32)) => l_X11_canMake_7 z3.1 z3.2) (σ1, 0))
theorem t_X11_canMake {w : Wd} (hw : WOK w) (hN : wn w = NT) {σ : Mem} : JO w mu_X11_canMake vB σ [(0, .ref (adr w 306))] [] 0 (f_X11_canMake σ) some := by
  unfold f_X11_canMake
  refine jo_aload_n (pc := 0) 0 rfl dX11_canMake_0 rfl ?_
  refine jo_iconst (pc := 1) dX11_canMake_1 (ic_i_0) ?_
  refine jo_putf (pc := 2) ok_11_34 okp_11_34 (ik_306 hw hN) gw_1327 dX11_canMake_2 (fun σ1 => ?_)
  refine jo_iconst (pc := 5) dX11_canMake_5 (ic_i_0) ?_
  refine jo_istore_n (pc := 6) (lv' := [(1, .int 0), (0, .ref (adr w 306))]) dX11_canMake_6 rfl (ltb rfl) rfl ?_
  refine jo_lv (lv' := [(0, .ref (adr w 306)), (1, .int 0)]) [1, 0] rfl ?_
  refine jo_loop (X := (Bool × Mem)) (fun (z3 : (Mem × Int32)) => z3.1) (fun (z3 : (Mem × Int32)) => [(0, .ref (adr w 306)), (1, .int z3.2)]) (body := (fun (z3 : (Mem × Int32)) => l_X11_canMake_7 z3.1 z3.2)) (fun F7_3 hF7_3 s => ?_) (σ1, 0)
  obtain ⟨σ2, i3⟩ := s
  show JO w mu_X11_canMake vB σ2 [(0, .ref (adr w 306)), (1, .int i3)] [] 7 (l_X11_canMake_7 σ2 i3) _
  unfold l_X11_canMake_7
  refine jo_iload_n (pc := 7) 1 rfl dX11_canMake_7 rfl ?_
  refine jo_bipush (pc := 8) dX11_canMake_8 (ic_b_6) ?_
  refine jo_icmp_ge (pc := 10) dX11_canMake_10 (tgt := 55) rfl ?_ ?_
  · refine jo_iconst (pc := 55) dX11_canMake_55 (ic_i_1) ?_
    exact jo_breturn (pc := 56) (b := true) rfl rfl dX11_canMake_56
  · refine jo_aload_n (pc := 13) 0 rfl dX11_canMake_13 rfl ?_
    refine jo_iconst (pc := 14) dX11_canMake_14 (ic_i_0) ?_
    refine jo_putz01 (pc := 15) (by decide) ok_11_33 okp_11_33 (ik_306 hw hN) gw_1326 dX11_canMake_15 (fun σ4 => ?_)
    refine jo_aload_n (pc := 18) 0 rfl dX11_canMake_18 rfl ?_
    refine jo_aload_n (pc := 19) 0 rfl dX11_canMake_19 rfl ?_
    refine jo_getf (pc := 20) ok_11_34 (ik_306 hw hN) gw_1327 dX11_canMake_20 (fun v5 => ?_)
    refine jo_iload_n (pc := 23) 1 rfl dX11_canMake_23 rfl ?_
    refine jo_cV_Z_i (pc := 24) (μ' := mu_X11_clearsAt) (fx := f_X11_clearsAt σ4 v5 i3) (As := [.int v5, .int i3]) (c_X11_clearsAt hw hN) (ok_X11_clearsAt) (ltb rfl) (all3 gw_1833 gw_1835 gw_139) (ik_306 hw hN) (by decide) (q := (RX11, TX11, 39)) rfl rfl rfl rfl (Nat.le_of_ble_eq_true rfl) dX11_canMake_24 (fun b6 σ7 => ?_)
    refine jo_ifz_ne (pc := 27) dX11_canMake_27 (tgt := 32) rfl ?_ ?_
    · refine jo_aload_n (pc := 32) 0 rfl dX11_canMake_32 rfl ?_
      refine jo_getz (pc := 33) ok_11_33 (ik_306 hw hN) gw_1326 dX11_canMake_33 (fun b8 => ?_)
      refine jo_join1 (S := Mem) (fun (z9 : Mem) => z9) (fun (z9 : Mem) => [(0, .ref (adr w 306)), (1, .int i3)]) (fun (z9 : Mem) => []) 49 ?_ (fun h49_9 => ?_)
      · intro σ9
        show JO w mu_X11_canMake vB σ9 [(0, .ref (adr w 306)), (1, .int i3)] [] 49 (j_X11_canMake_49 i3 σ9) _
        unfold j_X11_canMake_49
        refine jo_iinc (pc := 49) (lv' := [(1, .int (i3 + 1)), (0, .ref (adr w 306))]) 1 rfl dX11_canMake_49 (congrArg (fun z => i3 + z) (ic_i_1)) (ltb rfl) rfl ?_
        refine jo_goto (pc := 52) dX11_canMake_52 (tgt := 7) rfl ?_
        refine jo_lv (lv' := [(0, .ref (adr w 306)), (1, .int (i3 + 1))]) [1, 0] rfl ?_
        exact jo_leaf (by rfl) (hF7_3 (σ9, i3 + 1))
      · refine jo_ifz_eq (pc := 36) dX11_canMake_36 (tgt := 49) rfl ?_ ?_
        · exact jo_leaf (by rfl) (h49_9 σ7)
        · refine jo_aload_n (pc := 39) 0 rfl dX11_canMake_39 rfl ?_
          refine jo_aload_n (pc := 40) 0 rfl dX11_canMake_40 rfl ?_
          refine jo_getf (pc := 41) ok_11_34 (ik_306 hw hN) gw_1327 dX11_canMake_41 (fun v10 => ?_)
          refine jo_iconst (pc := 44) dX11_canMake_44 (ic_i_1) ?_
          refine jo_iadd (pc := 45) dX11_canMake_45 ?_
          refine jo_putf (pc := 46) ok_11_34 okp_11_34 (ik_306 hw hN) gw_1327 dX11_canMake_46 (fun σ11 => ?_)
          exact jo_leaf (by rfl) (h49_9 σ11)
    · refine jo_iconst (pc := 30) dX11_canMake_30 (ic_i_0) ?_
      exact jo_breturn (pc := 31) (b := false) rfl rfl dX11_canMake_31
theorem c_X11_canMake {w : Wd} (hw : WOK w) (hN : wn w = NT) {σ : Mem} : ∀ r σ', f_X11_canMake σ = some (r, σ') → MC w mu_X11_canMake (vB r) [.ref (adr w 306)] σ σ' := mc_of ok_X11_canMake rfl (Nat.le_of_ble_eq_true rfl) (t_X11_canMake hw hN)
abbrev mu_X11_isMade : MD := (yX11_isMade, cX11_isMade, 5, some .boolean, 3)
theorem ok_X11_isMade : MOK mu_X11_isMade 2 := ⟨gw_1824, gw_171, (by decide +kernel : plainFor yX11_isMade = true), ⟨(by decide +kernel : yX11_isMade.cls ≠ "java/lang/invoke/MethodHandle"), (by decide +kernel : yX11_isMade.cls ≠ "java/lang/invoke/VarHandle"), (by decide +kernel : (parseMethodDescriptor yX11_isMade.desc).map (fun d => d.parameters.length) = some 2)⟩, Nat.le_of_ble_eq_true rfl⟩
noncomputable def j_X11_isMade_127 (σ3 : Mem) : Option (Bool × Mem) :=
  bq (f_X11_canMake σ3) (fun (b4 : Bool) (σ5 : Mem) => some (b4, σ5))
noncomputable def j_X11_isMade_120 (σ6 : Mem) (i7 : Int32) (l9 : Int64) : Option ((Mem × Int32) ⊕ Mem) :=
  pL σ6 321 i7 l9 (fun (σ10 : Mem) => some (Sum.inl (σ10, i7 + 1)))
noncomputable def l_X11_isMade_88 (x0 : Int32) (x1 : Int32) (σ6 : Mem) (i7 : Int32) : Option ((Mem × Int32) ⊕ Mem) :=
  if 18 ≤ i7 then (some (Sum.inr σ6)) else ((f_X11_n σ6).bind (fun (v8 : Int32) => (if v8 ≤ i7 then (some 0) else ((f_X11_of σ6 x0 i7).bind (fun (v11 : Int64) => some ((Int32.toInt64 x1) * v11))) : Option Int64).bind (fun (z9 : Int64) => j_X11_isMade_120 σ6 i7 z9)))
noncomputable def j_X11_isMade_86 (x0 : Int32) (x1 : Int32) (σ2 : Mem) : Option (Bool × Mem) :=
  (loopO (fun (z7 : (Mem × Int32)) => l_X11_isMade_88 x0 x1 z7.1 z7.2) (σ2, 0) : Option Mem).bind (fun (z3 : Mem) => j_X11_isMade_127 z3)
noncomputable def j_X11_isMade_80 (i13 : Int32) (σ16 : Mem) : Option ((Mem × Int32) ⊕ Mem) :=
  some (Sum.inl (σ16, i13 + 1))
noncomputable def l_X11_isMade_58 (i13 : Int32) (σ17 : Mem) (i18 : Int32) : Option ((Mem × Int32) ⊕ Mem) :=
  (f_X11_n σ17).bind (fun (v19 : Int32) => if v19 ≤ i18 then (some (Sum.inr σ17)) else ((f_X11_addsTail σ17 i18 i13).bind (fun (σ20 : Mem) => some (Sum.inl (σ20, i18 + 1)))))
noncomputable def l_X11_isMade_45 (σ12 : Mem) (i13 : Int32) : Option ((Mem × Int32) ⊕ Mem) :=
  (f_X11_n σ12).bind (fun (v14 : Int32) => if v14 ≤ i13 then (some (Sum.inr σ12)) else (bd (i13 + 1) (fun (v15 : Int32) => (loopO (fun (z18 : (Mem × Int32)) => l_X11_isMade_58 i13 z18.1 z18.2) (σ12, v15) : Option Mem).bind (fun (z16 : Mem) => j_X11_isMade_80 i13 z16))))
noncomputable def j_X11_isMade_38 (σ : Mem) (x0 : Int32) (x1 : Int32) : Option (Bool × Mem) :=
  pF σ 306 31 0 (fun (σ1 : Mem) => (loopO (fun (z13 : (Mem × Int32)) => l_X11_isMade_45 z13.1 z13.2) (σ1, 0) : Option Mem).bind (fun (z2 : Mem) => j_X11_isMade_86 x0 x1 z2))
noncomputable def j_X11_isMade_32 (i21 : Int32) : Option (Int32 ⊕ (Unit ⊕ (Bool × Mem))) :=
  some (Sum.inl (i21 + 1))
noncomputable def l_X11_isMade_2 (σ : Mem) (x0 : Int32) (i21 : Int32) : Option (Int32 ⊕ (Unit ⊕ (Bool × Mem))) :=
  (f_X11_n σ).bind (fun (v22 : Int32) => if v22 ≤ i21 then (some (Sum.inr (Sum.inl ()))) else ((f_X11_weight σ i21).bind (fun (v23 : Int32) => (if v23 = 1 then ((f_X11_of σ x0 i21).bind (fun (v24 : Int64) => if v24 = 0 then (some (Sum.inl ())) else (some (Sum.inr (Sum.inr (Sum.inr (false, σ))))))) else (some (Sum.inl ())) : Option (Unit ⊕ (Int32 ⊕ (Unit ⊕ (Bool × Mem))))).bind (Sum.elim (fun (z23 : Unit) => j_X11_isMade_32 i21) some))))
noncomputable def f_X11_isMade (σ : Mem) (x0 : Int32) (x1 : Int32) : Option (Bool × Mem) :=
  (loopO (fun (z21 : Int32) => l_X11_isMade_2 σ x0 z21) 0 : Option (Unit ⊕ (Bool × Mem))).bind (Sum.elim (fun (z0 : Unit) => j_X11_isMade_38 σ x0 x1) some)
theorem t_X11_isMade {w : Wd} (hw : WOK w) (hN : wn w = NT) {σ : Mem} {x0 : Int32} {x1 : Int32} : JO w mu_X11_isMade vB σ [(0, .ref (adr w 306)), (1, .int x0), (2, .int x1)] [] 0 (f_X11_isMade σ x0 x1) some := by
  unfold f_X11_isMade
  refine jo_iconst (pc := 0) dX11_isMade_0 (ic_i_0) ?_
  refine jo_istore_n (pc := 1) (lv' := [(3, .int 0), (0, .ref (adr w 306)), (1, .int x0), (2, .int x1)]) dX11_isMade_1 rfl (ltb rfl) rfl ?_
  refine jo_joinS (S := Unit) (fun (z0 : Unit) => σ) (fun (z0 : Unit) => [(0, .ref (adr w 306)), (1, .int x0), (2, .int x1)]) (fun (z0 : Unit) => []) 38 ?_ (fun h38_0 => ?_)
  · intro _
    show JO w mu_X11_isMade vB σ [(0, .ref (adr w 306)), (1, .int x0), (2, .int x1)] [] 38 (j_X11_isMade_38 σ x0 x1) _
    unfold j_X11_isMade_38
    refine jo_aload_n (pc := 38) 0 rfl dX11_isMade_38 rfl ?_
    refine jo_iconst (pc := 39) dX11_isMade_39 (ic_i_0) ?_
    refine jo_putf (pc := 40) ok_11_31 okp_11_31 (ik_306 hw hN) gw_1324 dX11_isMade_40 (fun σ1 => ?_)
    refine jo_iconst (pc := 43) dX11_isMade_43 (ic_i_0) ?_
    refine jo_istore_n (pc := 44) (lv' := [(3, .int 0), (0, .ref (adr w 306)), (1, .int x0), (2, .int x1)]) dX11_isMade_44 rfl (ltb rfl) rfl ?_
    refine jo_join1 (S := Mem) (fun (z2 : Mem) => z2) (fun (z2 : Mem) => [(0, .ref (adr w 306)), (1, .int x0), (2, .int x1)]) (fun (z2 : Mem) => []) 86 ?_ (fun h86_2 => ?_)
    · intro σ2
      show JO w mu_X11_isMade vB σ2 [(0, .ref (adr w 306)), (1, .int x0), (2, .int x1)] [] 86 (j_X11_isMade_86 x0 x1 σ2) _
      unfold j_X11_isMade_86
      refine jo_iconst (pc := 86) dX11_isMade_86 (ic_i_0) ?_
      refine jo_istore_n (pc := 87) (lv' := [(3, .int 0), (0, .ref (adr w 306)), (1, .int x0), (2, .int x1)]) dX11_isMade_87 rfl (ltb rfl) rfl ?_
      refine jo_join1 (S := Mem) (fun (z3 : Mem) => z3) (fun (z3 : Mem) => [(0, .ref (adr w 306))]) (fun (z3 : Mem) => []) 127 ?_ (fun h127_3 => ?_)
      · intro σ3
        show JO w mu_X11_isMade vB σ3 [(0, .ref (adr w 306))] [] 127 (j_X11_isMade_127 σ3) _
        unfold j_X11_isMade_127
        refine jo_aload_n (pc := 127) 0 rfl dX11_isMade_127 rfl ?_
        refine jo_cV_Z_i (pc := 128) (μ' := mu_X11_canMake) (fx := f_X11_canMake σ3) (As := []) (c_X11_canMake hw hN) (ok_X11_canMake) (ltb rfl) (all3 gw_1829 gw_1831 gw_138) (ik_306 hw hN) (by decide) (q := (RX11, TX11, 39)) rfl rfl rfl rfl (Nat.le_of_ble_eq_true rfl) dX11_isMade_128 (fun b4 σ5 => ?_)
        exact jo_breturn (pc := 131) (b := b4) rfl rfl dX11_isMade_131
      · refine jo_lv (lv' := [(0, .ref (adr w 306)), (1, .int x0), (2, .int x1), (3, .int 0)]) [1, 2, 3, 0] rfl ?_
        refine jo_loop (X := Mem) (fun (z7 : (Mem × Int32)) => z7.1) (fun (z7 : (Mem × Int32)) => [(0, .ref (adr w 306)), (1, .int x0), (2, .int x1), (3, .int z7.2)]) (body := (fun (z7 : (Mem × Int32)) => l_X11_isMade_88 x0 x1 z7.1 z7.2)) (fun F88_7 hF88_7 s => ?_) (σ2, 0)
        obtain ⟨σ6, i7⟩ := s
        show JO w mu_X11_isMade vB σ6 [(0, .ref (adr w 306)), (1, .int x0), (2, .int x1), (3, .int i7)] [] 88 (l_X11_isMade_88 x0 x1 σ6 i7) _
        unfold l_X11_isMade_88
        refine jo_iload_n (pc := 88) 3 rfl dX11_isMade_88 rfl ?_
        refine jo_bipush (pc := 89) dX11_isMade_89 (ic_b_18) ?_
        refine jo_icmp_ge (pc := 91) dX11_isMade_91 (tgt := 127) rfl ?_ ?_
        · refine jo_lv (lv' := [(0, .ref (adr w 306))]) [0] rfl ?_
          exact jo_leaf (by rfl) (h127_3 σ6)
        · refine jo_aload_n (pc := 94) 0 rfl dX11_isMade_94 rfl ?_
          refine jo_getrE (pc := 95) ok_11_32 (ik_306 hw hN) rf_306_32 gw_1325 dX11_isMade_95 ?_
          refine jo_iload_n (pc := 98) 3 rfl dX11_isMade_98 rfl ?_
          refine jo_iload_n (pc := 99) 3 rfl dX11_isMade_99 rfl ?_
          refine jo_aload_n (pc := 100) 0 rfl dX11_isMade_100 rfl ?_
          refine jo_cV_I_p (pc := 101) (μ' := mu_X11_n) (fx := f_X11_n σ6) (As := []) (c_X11_n hw hN) (ok_X11_n) (ltb rfl) (all3 gw_1441 gw_1443 gw_68) (ik_306 hw hN) (by decide) (q := (RX11, TX11, 39)) rfl rfl rfl rfl (Nat.le_of_ble_eq_true rfl) dX11_isMade_101 (fun v8 => ?_)
          refine jo_join1 (S := Int64) (fun (z9 : Int64) => σ6) (fun (z9 : Int64) => [(0, .ref (adr w 306)), (1, .int x0), (2, .int x1), (3, .int i7)]) (fun (z9 : Int64) => [.long z9, .int i7, .ref (adr w 321)]) 120 ?_ (fun h120_9 => ?_)
          · intro l9
            show JO w mu_X11_isMade vB σ6 [(0, .ref (adr w 306)), (1, .int x0), (2, .int x1), (3, .int i7)] [.long l9, .int i7, .ref (adr w 321)] 120 (j_X11_isMade_120 σ6 i7 l9) _
            unfold j_X11_isMade_120
            refine jo_last (pc := 120) (ik_321 hw hN) dX11_isMade_120 (fun σ10 => ?_)
            refine jo_iinc (pc := 121) (lv' := [(3, .int (i7 + 1)), (0, .ref (adr w 306)), (1, .int x0), (2, .int x1)]) 3 rfl dX11_isMade_121 (congrArg (fun z => i7 + z) (ic_i_1)) (ltb rfl) rfl ?_
            refine jo_goto (pc := 124) dX11_isMade_124 (tgt := 88) rfl ?_
            refine jo_lv (lv' := [(0, .ref (adr w 306)), (1, .int x0), (2, .int x1), (3, .int (i7 + 1))]) [1, 2, 3, 0] rfl ?_
            exact jo_leaf (by rfl) (hF88_7 (σ10, i7 + 1))
          · refine jo_icmp_ge (pc := 104) dX11_isMade_104 (tgt := 119) rfl ?_ ?_
            · refine jo_lconst (pc := 119) dX11_isMade_119 (ic_l_0) ?_
              exact jo_leaf (by rfl) (h120_9 0)
            · refine jo_iload_n (pc := 107) 2 rfl dX11_isMade_107 rfl ?_
              refine jo_i2l (pc := 108) dX11_isMade_108 ?_
              refine jo_aload_n (pc := 109) 0 rfl dX11_isMade_109 rfl ?_
              refine jo_iload_n (pc := 110) 1 rfl dX11_isMade_110 rfl ?_
              refine jo_iload_n (pc := 111) 3 rfl dX11_isMade_111 rfl ?_
              refine jo_cV_J_p (pc := 112) (μ' := mu_X11_of) (fx := f_X11_of σ6 x0 i7) (As := [.int x0, .int i7]) (c_X11_of hw hN) (ok_X11_of) (ltb rfl) (all3 gw_1527 gw_1529 gw_87) (ik_306 hw hN) (by decide) (q := (RX11, TX11, 39)) rfl rfl rfl rfl (Nat.le_of_ble_eq_true rfl) dX11_isMade_112 (fun v11 => ?_)
              refine jo_lmul (pc := 115) dX11_isMade_115 ?_
              refine jo_goto (pc := 116) dX11_isMade_116 (tgt := 120) rfl ?_
              exact jo_leaf (by rfl) (h120_9 ((Int32.toInt64 x1) * v11))
    · refine jo_lv (lv' := [(0, .ref (adr w 306)), (1, .int x0), (2, .int x1), (3, .int 0)]) [1, 2, 3, 0] rfl ?_
      refine jo_loop (X := Mem) (fun (z13 : (Mem × Int32)) => z13.1) (fun (z13 : (Mem × Int32)) => [(0, .ref (adr w 306)), (1, .int x0), (2, .int x1), (3, .int z13.2)]) (body := (fun (z13 : (Mem × Int32)) => l_X11_isMade_45 z13.1 z13.2)) (fun F45_13 hF45_13 s => ?_) (σ1, 0)
      obtain ⟨σ12, i13⟩ := s
      show JO w mu_X11_isMade vB σ12 [(0, .ref (adr w 306)), (1, .int x0), (2, .int x1), (3, .int i13)] [] 45 (l_X11_isMade_45 σ12 i13) _
      unfold l_X11_isMade_45
      refine jo_iload_n (pc := 45) 3 rfl dX11_isMade_45 rfl ?_
      refine jo_aload_n (pc := 46) 0 rfl dX11_isMade_46 rfl ?_
      refine jo_cV_I_p (pc := 47) (μ' := mu_X11_n) (fx := f_X11_n σ12) (As := []) (c_X11_n hw hN) (ok_X11_n) (ltb rfl) (all3 gw_1441 gw_1443 gw_68) (ik_306 hw hN) (by decide) (q := (RX11, TX11, 39)) rfl rfl rfl rfl (Nat.le_of_ble_eq_true rfl) dX11_isMade_47 (fun v14 => ?_)
      refine jo_icmp_ge (pc := 50) dX11_isMade_50 (tgt := 86) rfl ?_ ?_
      · refine jo_lv (lv' := [(0, .ref (adr w 306)), (1, .int x0), (2, .int x1)]) [0, 1, 2] rfl ?_
        exact jo_leaf (by rfl) (h86_2 σ12)
      · refine jo_iload_n (pc := 53) 3 rfl dX11_isMade_53 rfl ?_
        refine jo_iconst (pc := 54) dX11_isMade_54 (ic_i_1) ?_
        refine jo_iadd (pc := 55) dX11_isMade_55 ?_
        refine jo_bd ?_
        refine jo_istore (pc := 56) (lv' := [(4, .int (i13 + 1)), (0, .ref (adr w 306)), (1, .int x0), (2, .int x1), (3, .int i13)]) dX11_isMade_56 (ltb rfl) rfl ?_
        generalize (i13 + 1) = v15
        refine jo_join1 (S := Mem) (fun (z16 : Mem) => z16) (fun (z16 : Mem) => [(0, .ref (adr w 306)), (1, .int x0), (2, .int x1), (3, .int i13)]) (fun (z16 : Mem) => []) 80 ?_ (fun h80_16 => ?_)
        · intro σ16
          show JO w mu_X11_isMade vB σ16 [(0, .ref (adr w 306)), (1, .int x0), (2, .int x1), (3, .int i13)] [] 80 (j_X11_isMade_80 i13 σ16) _
          unfold j_X11_isMade_80
          refine jo_iinc (pc := 80) (lv' := [(3, .int (i13 + 1)), (0, .ref (adr w 306)), (1, .int x0), (2, .int x1)]) 3 rfl dX11_isMade_80 (congrArg (fun z => i13 + z) (ic_i_1)) (ltb rfl) rfl ?_
          refine jo_goto (pc := 83) dX11_isMade_83 (tgt := 45) rfl ?_
          refine jo_lv (lv' := [(0, .ref (adr w 306)), (1, .int x0), (2, .int x1), (3, .int (i13 + 1))]) [1, 2, 3, 0] rfl ?_
          exact jo_leaf (by rfl) (hF45_13 (σ16, i13 + 1))
        · refine jo_lv (lv' := [(0, .ref (adr w 306)), (1, .int x0), (2, .int x1), (3, .int i13), (4, .int v15)]) [1, 2, 3, 4, 0] rfl ?_
          refine jo_loop (X := Mem) (fun (z18 : (Mem × Int32)) => z18.1) (fun (z18 : (Mem × Int32)) => [(0, .ref (adr w 306)), (1, .int x0), (2, .int x1), (3, .int i13), (4, .int z18.2)]) (body := (fun (z18 : (Mem × Int32)) => l_X11_isMade_58 i13 z18.1 z18.2)) (fun F58_18 hF58_18 s => ?_) (σ12, v15)
          obtain ⟨σ17, i18⟩ := s
          show JO w mu_X11_isMade vB σ17 [(0, .ref (adr w 306)), (1, .int x0), (2, .int x1), (3, .int i13), (4, .int i18)] [] 58 (l_X11_isMade_58 i13 σ17 i18) _
          unfold l_X11_isMade_58
          refine jo_iload (pc := 58) 4 rfl dX11_isMade_58 ?_
          refine jo_aload_n (pc := 60) 0 rfl dX11_isMade_60 rfl ?_
          refine jo_cV_I_p (pc := 61) (μ' := mu_X11_n) (fx := f_X11_n σ17) (As := []) (c_X11_n hw hN) (ok_X11_n) (ltb rfl) (all3 gw_1441 gw_1443 gw_68) (ik_306 hw hN) (by decide) (q := (RX11, TX11, 39)) rfl rfl rfl rfl (Nat.le_of_ble_eq_true rfl) dX11_isMade_61 (fun v19 => ?_)
          refine jo_icmp_ge (pc := 64) dX11_isMade_64 (tgt := 80) rfl ?_ ?_
          · refine jo_lv (lv' := [(0, .ref (adr w 306)), (1, .int x0), (2, .int x1), (3, .int i13)]) [0, 1, 2, 3] rfl ?_
            exact jo_leaf (by rfl) (h80_16 σ17)
          · refine jo_aload_n (pc := 67) 0 rfl dX11_isMade_67 rfl ?_
            refine jo_iload (pc := 68) 4 rfl dX11_isMade_68 ?_
            refine jo_iload_n (pc := 70) 3 rfl dX11_isMade_70 rfl ?_
            refine jo_cV_V_i (pc := 71) (μ' := mu_X11_addsTail) (fx := f_X11_addsTail σ17 i18 i13) (As := [.int i18, .int i13]) (c_X11_addsTail hw hN) (ok_X11_addsTail) (ltb rfl) (all3 gw_1825 gw_1827 gw_137) (ik_306 hw hN) (by decide) (q := (RX11, TX11, 39)) rfl rfl rfl rfl (Nat.le_of_ble_eq_true rfl) dX11_isMade_71 (fun σ20 => ?_)
            refine jo_iinc (pc := 74) (lv' := [(4, .int (i18 + 1)), (0, .ref (adr w 306)), (1, .int x0), (2, .int x1), (3, .int i13)]) 4 rfl dX11_isMade_74 (congrArg (fun z => i18 + z) (ic_i_1)) (ltb rfl) rfl ?_
            refine jo_goto (pc := 77) dX11_isMade_77 (tgt := 58) rfl ?_
            refine jo_lv (lv' := [(0, .ref (adr w 306)), (1, .int x0), (2, .int x1), (3, .int i13), (4, .int (i18 + 1))]) [1, 2, 3, 4, 0] rfl ?_
            exact jo_leaf (by rfl) (hF58_18 (σ20, i18 + 1))
  · refine jo_lv (lv' := [(0, .ref (adr w 306)), (1, .int x0), (2, .int x1), (3, .int 0)]) [1, 2, 3, 0] rfl ?_
    refine jo_loop (X := Unit ⊕ (Bool × Mem)) (fun (z21 : Int32) => σ) (fun (z21 : Int32) => [(0, .ref (adr w 306)), (1, .int x0), (2, .int x1), (3, .int z21)]) (body := (fun (z21 : Int32) => l_X11_isMade_2 σ x0 z21)) (fun F2_21 hF2_21 s => ?_) 0
    revert s; intro i21
    show JO w mu_X11_isMade vB σ [(0, .ref (adr w 306)), (1, .int x0), (2, .int x1), (3, .int i21)] [] 2 (l_X11_isMade_2 σ x0 i21) _
    unfold l_X11_isMade_2
    refine jo_iload_n (pc := 2) 3 rfl dX11_isMade_2 rfl ?_
    refine jo_aload_n (pc := 3) 0 rfl dX11_isMade_3 rfl ?_
    refine jo_cV_I_p (pc := 4) (μ' := mu_X11_n) (fx := f_X11_n σ) (As := []) (c_X11_n hw hN) (ok_X11_n) (ltb rfl) (all3 gw_1441 gw_1443 gw_68) (ik_306 hw hN) (by decide) (q := (RX11, TX11, 39)) rfl rfl rfl rfl (Nat.le_of_ble_eq_true rfl) dX11_isMade_4 (fun v22 => ?_)
    refine jo_icmp_ge (pc := 7) dX11_isMade_7 (tgt := 38) rfl ?_ ?_
    · refine jo_lv (lv' := [(0, .ref (adr w 306)), (1, .int x0), (2, .int x1)]) [0, 1, 2] rfl ?_
      exact jo_leaf (by rfl) (h38_0 ())
    · refine jo_aload_n (pc := 10) 0 rfl dX11_isMade_10 rfl ?_
      refine jo_iload_n (pc := 11) 3 rfl dX11_isMade_11 rfl ?_
      refine jo_cV_I_p (pc := 12) (μ' := mu_X11_weight) (fx := f_X11_weight σ i21) (As := [.int i21]) (c_X11_weight hw hN) (ok_X11_weight) (ltb rfl) (all3 gw_1446 gw_1448 gw_69) (ik_306 hw hN) (by decide) (q := (RX11, TX11, 39)) rfl rfl rfl rfl (Nat.le_of_ble_eq_true rfl) dX11_isMade_12 (fun v23 => ?_)
      refine jo_iconst (pc := 15) dX11_isMade_15 (ic_i_1) ?_
      refine jo_joinS (S := Unit) (fun (z23 : Unit) => σ) (fun (z23 : Unit) => [(0, .ref (adr w 306)), (1, .int x0), (2, .int x1), (3, .int i21)]) (fun (z23 : Unit) => []) 32 ?_ (fun h32_23 => ?_)
      · intro _
        show JO w mu_X11_isMade vB σ [(0, .ref (adr w 306)), (1, .int x0), (2, .int x1), (3, .int i21)] [] 32 (j_X11_isMade_32 i21) _
        unfold j_X11_isMade_32
        refine jo_iinc (pc := 32) (lv' := [(3, .int (i21 + 1)), (0, .ref (adr w 306)), (1, .int x0), (2, .int x1)]) 3 rfl dX11_isMade_32 (congrArg (fun z => i21 + z) (ic_i_1)) (ltb rfl) rfl ?_
        refine jo_goto (pc := 35) dX11_isMade_35 (tgt := 2) rfl ?_
        refine jo_lv (lv' := [(0, .ref (adr w 306)), (1, .int x0), (2, .int x1), (3, .int (i21 + 1))]) [1, 2, 3, 0] rfl ?_
        exact jo_leaf (by rfl) (hF2_21 (i21 + 1))
      · refine jo_icmp_ne (pc := 16) dX11_isMade_16 (tgt := 32) rfl ?_ ?_
        · exact jo_leaf (by rfl) (h32_23 ())
        · refine jo_aload_n (pc := 19) 0 rfl dX11_isMade_19 rfl ?_
          refine jo_iload_n (pc := 20) 1 rfl dX11_isMade_20 rfl ?_
          refine jo_iload_n (pc := 21) 3 rfl dX11_isMade_21 rfl ?_
          refine jo_cV_J_p (pc := 22) (μ' := mu_X11_of) (fx := f_X11_of σ x0 i21) (As := [.int x0, .int i21]) (c_X11_of hw hN) (ok_X11_of) (ltb rfl) (all3 gw_1527 gw_1529 gw_87) (ik_306 hw hN) (by decide) (q := (RX11, TX11, 39)) rfl rfl rfl rfl (Nat.le_of_ble_eq_true rfl) dX11_isMade_22 (fun v24 => ?_)
          refine jo_lconst (pc := 25) dX11_isMade_25 (ic_l_0) ?_
          refine jo_lcmp_eq (pc := 26) dX11_isMade_26 dX11_isMade_27 (tgt := 32) rfl ?_ ?_
          · exact jo_leaf (by rfl) (h32_23 ())
          · refine jo_iconst (pc := 30) dX11_isMade_30 (ic_i_0) ?_
            exact jo_breturn (pc := 31) (b := false) rfl rfl dX11_isMade_31
theorem c_X11_isMade {w : Wd} (hw : WOK w) (hN : wn w = NT) {σ : Mem} {x0 : Int32} {x1 : Int32} : ∀ r σ', f_X11_isMade σ x0 x1 = some (r, σ') → MC w mu_X11_isMade (vB r) [.ref (adr w 306), .int x0, .int x1] σ σ' := mc_of ok_X11_isMade rfl (Nat.le_of_ble_eq_true rfl) (t_X11_isMade hw hN)
abbrev mu_X11_leastMade : MD := (yX11_leastMade, cX11_leastMade, 3, some .int, 4)
theorem ok_X11_leastMade : MOK mu_X11_leastMade 1 := ⟨gw_1855, gw_171, (by decide +kernel : plainFor yX11_leastMade = true), ⟨(by decide +kernel : yX11_leastMade.cls ≠ "java/lang/invoke/MethodHandle"), (by decide +kernel : yX11_leastMade.cls ≠ "java/lang/invoke/VarHandle"), (by decide +kernel : (parseMethodDescriptor yX11_leastMade.desc).map (fun d => d.parameters.length) = some 1)⟩, Nat.le_of_ble_eq_true rfl⟩
noncomputable def l_X11_leastMade_2 (x0 : Int32) (σ1 : Mem) (i2 : Int32) : Option ((Mem × Int32) ⊕ (Int32 × Mem)) :=
  if 100 ≤ i2 then (some (Sum.inr (0, σ1))) else (bq (f_X11_isMade σ1 x0 i2) (fun (b3 : Bool) (σ4 : Mem) => if b3 then some (Sum.inr (i2, σ4)) else some (Sum.inl (σ4, i2 + 1))))
noncomputable def f_X11_leastMade (σ : Mem) (x0 : Int32) : Option (Int32 × Mem) :=
  loopO (fun (z2 : (Mem × Int32)) => l_X11_leastMade_2 x0 z2.1 z2.2) (σ, 1)
theorem t_X11_leastMade {w : Wd} (hw : WOK w) (hN : wn w = NT) {σ : Mem} {x0 : Int32} : JO w mu_X11_leastMade vI σ [(0, .ref (adr w 306)), (1, .int x0)] [] 0 (f_X11_leastMade σ x0) some := by
  unfold f_X11_leastMade
  refine jo_iconst (pc := 0) dX11_leastMade_0 (ic_i_1) ?_
  refine jo_istore_n (pc := 1) (lv' := [(2, .int 1), (0, .ref (adr w 306)), (1, .int x0)]) dX11_leastMade_1 rfl (ltb rfl) rfl ?_
  refine jo_lv (lv' := [(0, .ref (adr w 306)), (1, .int x0), (2, .int 1)]) [1, 2, 0] rfl ?_
  refine jo_loop (X := (Int32 × Mem)) (fun (z2 : (Mem × Int32)) => z2.1) (fun (z2 : (Mem × Int32)) => [(0, .ref (adr w 306)), (1, .int x0), (2, .int z2.2)]) (body := (fun (z2 : (Mem × Int32)) => l_X11_leastMade_2 x0 z2.1 z2.2)) (fun F2_2 hF2_2 s => ?_) (σ, 1)
  obtain ⟨σ1, i2⟩ := s
  show JO w mu_X11_leastMade vI σ1 [(0, .ref (adr w 306)), (1, .int x0), (2, .int i2)] [] 2 (l_X11_leastMade_2 x0 σ1 i2) _
  unfold l_X11_leastMade_2
  refine jo_iload_n (pc := 2) 2 rfl dX11_leastMade_2 rfl ?_
  refine jo_bipush (pc := 3) dX11_leastMade_3 (ic_b_100) ?_
  refine jo_icmp_ge (pc := 5) dX11_leastMade_5 (tgt := 25) rfl ?_ ?_
  · refine jo_iconst (pc := 25) dX11_leastMade_25 (ic_i_0) ?_
    exact jo_ireturn (pc := 26) rfl rfl dX11_leastMade_26
  · refine jo_aload_n (pc := 8) 0 rfl dX11_leastMade_8 rfl ?_
    refine jo_iload_n (pc := 9) 1 rfl dX11_leastMade_9 rfl ?_
    refine jo_iload_n (pc := 10) 2 rfl dX11_leastMade_10 rfl ?_
    refine jo_cV_Z_i (pc := 11) (μ' := mu_X11_isMade) (fx := f_X11_isMade σ1 x0 i2) (As := [.int x0, .int i2]) (c_X11_isMade hw hN) (ok_X11_isMade) (ltb rfl) (all3 gw_1821 gw_1823 gw_136) (ik_306 hw hN) (by decide) (q := (RX11, TX11, 39)) rfl rfl rfl rfl (Nat.le_of_ble_eq_true rfl) dX11_leastMade_11 (fun b3 σ4 => ?_)
    refine jo_ifz_eq (pc := 14) dX11_leastMade_14 (tgt := 19) rfl ?_ ?_
    · refine jo_iinc (pc := 19) (lv' := [(2, .int (i2 + 1)), (0, .ref (adr w 306)), (1, .int x0)]) 2 rfl dX11_leastMade_19 (congrArg (fun z => i2 + z) (ic_i_1)) (ltb rfl) rfl ?_
      refine jo_goto (pc := 22) dX11_leastMade_22 (tgt := 2) rfl ?_
      refine jo_lv (lv' := [(0, .ref (adr w 306)), (1, .int x0), (2, .int (i2 + 1))]) [1, 2, 0] rfl ?_
      exact jo_leaf (by rfl) (hF2_2 (σ4, i2 + 1))
    · refine jo_iload_n (pc := 17) 2 rfl dX11_leastMade_17 rfl ?_
      exact jo_ireturn (pc := 18) rfl rfl dX11_leastMade_18
theorem c_X11_leastMade {w : Wd} (hw : WOK w) (hN : wn w = NT) {σ : Mem} {x0 : Int32} : ∀ r σ', f_X11_leastMade σ x0 = some (r, σ') → MC w mu_X11_leastMade (vI r) [.ref (adr w 306), .int x0] σ σ' := mc_of ok_X11_leastMade rfl (Nat.le_of_ble_eq_true rfl) (t_X11_leastMade hw hN)
abbrev mu_X11_register : MD := (yX11_register, cX11_register, 3, some .int, 37)
theorem ok_X11_register : MOK mu_X11_register 2 := ⟨gw_1811, gw_171, (by decide +kernel : plainFor yX11_register = true), ⟨(by decide +kernel : yX11_register.cls ≠ "java/lang/invoke/MethodHandle"), (by decide +kernel : yX11_register.cls ≠ "java/lang/invoke/VarHandle"), (by decide +kernel : (parseMethodDescriptor yX11_register.desc).map (fun d => d.parameters.length) = some 2)⟩, Nat.le_of_ble_eq_true rfl⟩
noncomputable def f_X11_register (σ : Mem) (x0 : Int32) (x1 : Int32) : Option (Int32 × Mem) :=
  pF σ 306 0 0 (fun (σ1 : Mem) => (f_X11_isRegister σ1 x0).bind (fun (b2 : Bool) => if b2 then bq (f_X11_isConsistent σ1) (fun (b3 : Bool) (σ4 : Mem) => if b3 then (f_X11_isIn σ4 (Int32.toInt64 x1) 0 7).bind (fun (b5 : Bool) => if b5 then (f_X11_laysRegister σ4 0 x0).bind (fun (σ6 : Mem) => if x1 = 0 then ((f_X11_layer σ6 0).bind (fun (v20 : Int32) => some (v20, σ6))) else (if x1 = 1 then (bq (f_X11_isCentral σ6 0 1) (fun (b18 : Bool) (σ19 : Mem) => if b18 then some (1, σ19) else some (0, σ19))) else (if x1 = 2 then ((f_X11_isOne σ6 0).bind (fun (b17 : Bool) => if b17 then some (1, σ6) else some (0, σ6))) else (if x1 = 3 then (bq (f_X11_shortOf σ6 0) (fun (v15 : Int32) (σ16 : Mem) => some (v15, σ16))) else (if x1 = 6 then (bq (f_X11_isMade σ6 0 1) (fun (b13 : Bool) (σ14 : Mem) => if b13 then some (1, σ14) else some (0, σ14))) else (if x1 = 7 then (bq (f_X11_leastMade σ6 0) (fun (v11 : Int32) (σ12 : Mem) => some (v11, σ12))) else (if x1 = 4 then (bq (f_X11_greatestRoot σ6 0) (fun (v9 : Int32) (σ10 : Mem) => some (v9, σ10))) else (bq (f_X11_sameAs σ6 x0) (fun (v7 : Int32) (σ8 : Mem) => some (v7, σ8)))))))))) else some ((-1), σ4)) else some ((-1), σ4)) else some ((-1), σ1)))
theorem t_X11_register {w : Wd} (hw : WOK w) (hN : wn w = NT) {σ : Mem} {x0 : Int32} {x1 : Int32} : JO w mu_X11_register vI σ [(0, .ref (adr w 306)), (1, .int x0), (2, .int x1)] [] 0 (f_X11_register σ x0 x1) some := by
  unfold f_X11_register
  refine jo_aload_n (pc := 0) 0 rfl dX11_register_0 rfl ?_
  refine jo_iconst (pc := 1) dX11_register_1 (ic_i_0) ?_
  refine jo_putf (pc := 2) ok_11_0 okp_11_0 (ik_306 hw hN) gw_1293 dX11_register_2 (fun σ1 => ?_)
  refine jo_aload_n (pc := 5) 0 rfl dX11_register_5 rfl ?_
  refine jo_iload_n (pc := 6) 1 rfl dX11_register_6 rfl ?_
  refine jo_cV_Z_p (pc := 7) (μ' := mu_X11_isRegister) (fx := f_X11_isRegister σ1 x0) (As := [.int x0]) (c_X11_isRegister hw hN) (ok_X11_isRegister) (ltb rfl) (all3 gw_1470 gw_1472 gw_73) (ik_306 hw hN) (by decide) (q := (RX11, TX11, 39)) rfl rfl rfl rfl (Nat.le_of_ble_eq_true rfl) dX11_register_7 (fun b2 => ?_)
  refine jo_ifz_eq (pc := 10) dX11_register_10 (tgt := 33) rfl ?_ ?_
  · refine jo_iconst (pc := 33) dX11_register_33 (ic_i_m1) ?_
    exact jo_ireturn (pc := 34) rfl rfl dX11_register_34
  · refine jo_aload_n (pc := 13) 0 rfl dX11_register_13 rfl ?_
    refine jo_cV_Z_i (pc := 14) (μ' := mu_X11_isConsistent) (fx := f_X11_isConsistent σ1) (As := []) (c_X11_isConsistent hw hN) (ok_X11_isConsistent) (ltb rfl) (all3 gw_1475 gw_1477 gw_74) (ik_306 hw hN) (by decide) (q := (RX11, TX11, 39)) rfl rfl rfl rfl (Nat.le_of_ble_eq_true rfl) dX11_register_14 (fun b3 σ4 => ?_)
    refine jo_ifz_eq (pc := 17) dX11_register_17 (tgt := 33) rfl ?_ ?_
    · refine jo_iconst (pc := 33) dX11_register_33 (ic_i_m1) ?_
      exact jo_ireturn (pc := 34) rfl rfl dX11_register_34
    · refine jo_aload_n (pc := 20) 0 rfl dX11_register_20 rfl ?_
      refine jo_iload_n (pc := 21) 2 rfl dX11_register_21 rfl ?_
      refine jo_i2l (pc := 22) dX11_register_22 ?_
      refine jo_lconst (pc := 23) dX11_register_23 (ic_l_0) ?_
      refine jo_ldc2 (pc := 24) dX11_register_24 gw_1812 ?_
      refine jo_cV_Z_p (pc := 27) (μ' := mu_X11_isIn) (fx := f_X11_isIn σ4 (Int32.toInt64 x1) 0 7) (As := [.long (Int32.toInt64 x1), .long 0, .long 7]) (c_X11_isIn hw hN) (ok_X11_isIn) (ltb rfl) (all3 gw_1420 gw_1422 gw_64) (ik_306 hw hN) (by decide) (q := (RX11, TX11, 39)) rfl rfl rfl rfl (Nat.le_of_ble_eq_true rfl) dX11_register_27 (fun b5 => ?_)
      refine jo_ifz_ne (pc := 30) dX11_register_30 (tgt := 35) rfl ?_ ?_
      · refine jo_aload_n (pc := 35) 0 rfl dX11_register_35 rfl ?_
        refine jo_iconst (pc := 36) dX11_register_36 (ic_i_0) ?_
        refine jo_iload_n (pc := 37) 1 rfl dX11_register_37 rfl ?_
        refine jo_cV_V_i (pc := 38) (μ' := mu_X11_laysRegister) (fx := f_X11_laysRegister σ4 0 x0) (As := [.int 0, .int x0]) (c_X11_laysRegister hw hN) (ok_X11_laysRegister) (ltb rfl) (all3 gw_1559 gw_1561 gw_94) (ik_306 hw hN) (by decide) (q := (RX11, TX11, 39)) rfl rfl rfl rfl (Nat.le_of_ble_eq_true rfl) dX11_register_38 (fun σ6 => ?_)
        refine jo_iload_n (pc := 41) 2 rfl dX11_register_41 rfl ?_
        refine jo_if_ne (pc := 42) dX11_register_42 (tgt := 51) rfl ?_ ?_
        · refine jo_iload_n (pc := 51) 2 rfl dX11_register_51 rfl ?_
          refine jo_iconst (pc := 52) dX11_register_52 (ic_i_1) ?_
          refine jo_icmp_ne (pc := 53) dX11_register_53 (tgt := 71) rfl ?_ ?_
          · refine jo_iload_n (pc := 71) 2 rfl dX11_register_71 rfl ?_
            refine jo_iconst (pc := 72) dX11_register_72 (ic_i_2) ?_
            refine jo_icmp_ne (pc := 73) dX11_register_73 (tgt := 90) rfl ?_ ?_
            · refine jo_iload_n (pc := 90) 2 rfl dX11_register_90 rfl ?_
              refine jo_iconst (pc := 91) dX11_register_91 (ic_i_3) ?_
              refine jo_icmp_ne (pc := 92) dX11_register_92 (tgt := 101) rfl ?_ ?_
              · refine jo_iload_n (pc := 101) 2 rfl dX11_register_101 rfl ?_
                refine jo_bipush (pc := 102) dX11_register_102 (ic_b_6) ?_
                refine jo_icmp_ne (pc := 104) dX11_register_104 (tgt := 122) rfl ?_ ?_
                · refine jo_iload_n (pc := 122) 2 rfl dX11_register_122 rfl ?_
                  refine jo_bipush (pc := 123) dX11_register_123 (ic_b_7) ?_
                  refine jo_icmp_ne (pc := 125) dX11_register_125 (tgt := 134) rfl ?_ ?_
                  · refine jo_iload_n (pc := 134) 2 rfl dX11_register_134 rfl ?_
                    refine jo_iconst (pc := 135) dX11_register_135 (ic_i_4) ?_
                    refine jo_icmp_ne (pc := 136) dX11_register_136 (tgt := 147) rfl ?_ ?_
                    · refine jo_aload_n (pc := 147) 0 rfl dX11_register_147 rfl ?_
                      refine jo_iload_n (pc := 148) 1 rfl dX11_register_148 rfl ?_
                      refine jo_cV_I_i (pc := 149) (μ' := mu_X11_sameAs) (fx := f_X11_sameAs σ6 x0) (As := [.int x0]) (c_X11_sameAs hw hN) (ok_X11_sameAs) (ltb rfl) (all3 gw_1860 gw_1862 gw_145) (ik_306 hw hN) (by decide) (q := (RX11, TX11, 39)) rfl rfl rfl rfl (Nat.le_of_ble_eq_true rfl) dX11_register_149 (fun v7 σ8 => ?_)
                      exact jo_ireturn (pc := 152) rfl rfl dX11_register_152
                    · refine jo_aload_n (pc := 139) 0 rfl dX11_register_139 rfl ?_
                      refine jo_iconst (pc := 140) dX11_register_140 (ic_i_0) ?_
                      refine jo_cV_I_i (pc := 141) (μ' := mu_X11_greatestRoot) (fx := f_X11_greatestRoot σ6 0) (As := [.int 0]) (c_X11_greatestRoot hw hN) (ok_X11_greatestRoot) (ltb rfl) (all3 gw_1856 gw_1858 gw_144) (ik_306 hw hN) (by decide) (q := (RX11, TX11, 39)) rfl rfl rfl rfl (Nat.le_of_ble_eq_true rfl) dX11_register_141 (fun v9 σ10 => ?_)
                      refine jo_goto (pc := 144) dX11_register_144 (tgt := 152) rfl ?_
                      exact jo_ireturn (pc := 152) rfl rfl dX11_register_152
                  · refine jo_aload_n (pc := 128) 0 rfl dX11_register_128 rfl ?_
                    refine jo_iconst (pc := 129) dX11_register_129 (ic_i_0) ?_
                    refine jo_cV_I_i (pc := 130) (μ' := mu_X11_leastMade) (fx := f_X11_leastMade σ6 0) (As := [.int 0]) (c_X11_leastMade hw hN) (ok_X11_leastMade) (ltb rfl) (all3 gw_1852 gw_1854 gw_143) (ik_306 hw hN) (by decide) (q := (RX11, TX11, 39)) rfl rfl rfl rfl (Nat.le_of_ble_eq_true rfl) dX11_register_130 (fun v11 σ12 => ?_)
                    exact jo_ireturn (pc := 133) rfl rfl dX11_register_133
                · refine jo_aload_n (pc := 107) 0 rfl dX11_register_107 rfl ?_
                  refine jo_iconst (pc := 108) dX11_register_108 (ic_i_0) ?_
                  refine jo_iconst (pc := 109) dX11_register_109 (ic_i_1) ?_
                  refine jo_cV_Z_i (pc := 110) (μ' := mu_X11_isMade) (fx := f_X11_isMade σ6 0 1) (As := [.int 0, .int 1]) (c_X11_isMade hw hN) (ok_X11_isMade) (ltb rfl) (all3 gw_1821 gw_1823 gw_136) (ik_306 hw hN) (by decide) (q := (RX11, TX11, 39)) rfl rfl rfl rfl (Nat.le_of_ble_eq_true rfl) dX11_register_110 (fun b13 σ14 => ?_)
                  refine jo_ifz_eq (pc := 113) dX11_register_113 (tgt := 120) rfl ?_ ?_
                  · refine jo_iconst (pc := 120) dX11_register_120 (ic_i_0) ?_
                    exact jo_ireturn (pc := 121) rfl rfl dX11_register_121
                  · refine jo_iconst (pc := 116) dX11_register_116 (ic_i_1) ?_
                    refine jo_goto (pc := 117) dX11_register_117 (tgt := 121) rfl ?_
                    exact jo_ireturn (pc := 121) rfl rfl dX11_register_121
              · refine jo_aload_n (pc := 95) 0 rfl dX11_register_95 rfl ?_
                refine jo_iconst (pc := 96) dX11_register_96 (ic_i_0) ?_
                refine jo_cV_I_i (pc := 97) (μ' := mu_X11_shortOf) (fx := f_X11_shortOf σ6 0) (As := [.int 0]) (c_X11_shortOf hw hN) (ok_X11_shortOf) (ltb rfl) (all3 gw_1817 gw_1819 gw_135) (ik_306 hw hN) (by decide) (q := (RX11, TX11, 39)) rfl rfl rfl rfl (Nat.le_of_ble_eq_true rfl) dX11_register_97 (fun v15 σ16 => ?_)
                exact jo_ireturn (pc := 100) rfl rfl dX11_register_100
            · refine jo_aload_n (pc := 76) 0 rfl dX11_register_76 rfl ?_
              refine jo_iconst (pc := 77) dX11_register_77 (ic_i_0) ?_
              refine jo_cV_Z_p (pc := 78) (μ' := mu_X11_isOne) (fx := f_X11_isOne σ6 0) (As := [.int 0]) (c_X11_isOne hw hN) (ok_X11_isOne) (ltb rfl) (all3 gw_1750 gw_1752 gw_125) (ik_306 hw hN) (by decide) (q := (RX11, TX11, 39)) rfl rfl rfl rfl (Nat.le_of_ble_eq_true rfl) dX11_register_78 (fun b17 => ?_)
              refine jo_ifz_eq (pc := 81) dX11_register_81 (tgt := 88) rfl ?_ ?_
              · refine jo_iconst (pc := 88) dX11_register_88 (ic_i_0) ?_
                exact jo_ireturn (pc := 89) rfl rfl dX11_register_89
              · refine jo_iconst (pc := 84) dX11_register_84 (ic_i_1) ?_
                refine jo_goto (pc := 85) dX11_register_85 (tgt := 89) rfl ?_
                exact jo_ireturn (pc := 89) rfl rfl dX11_register_89
          · refine jo_aload_n (pc := 56) 0 rfl dX11_register_56 rfl ?_
            refine jo_iconst (pc := 57) dX11_register_57 (ic_i_0) ?_
            refine jo_iconst (pc := 58) dX11_register_58 (ic_i_1) ?_
            refine jo_cV_Z_i (pc := 59) (μ' := mu_X11_isCentral) (fx := f_X11_isCentral σ6 0 1) (As := [.int 0, .int 1]) (c_X11_isCentral hw hN) (ok_X11_isCentral) (ltb rfl) (all3 gw_1742 gw_1744 gw_123) (ik_306 hw hN) (by decide) (q := (RX11, TX11, 39)) rfl rfl rfl rfl (Nat.le_of_ble_eq_true rfl) dX11_register_59 (fun b18 σ19 => ?_)
            refine jo_ifz_eq (pc := 62) dX11_register_62 (tgt := 69) rfl ?_ ?_
            · refine jo_iconst (pc := 69) dX11_register_69 (ic_i_0) ?_
              exact jo_ireturn (pc := 70) rfl rfl dX11_register_70
            · refine jo_iconst (pc := 65) dX11_register_65 (ic_i_1) ?_
              refine jo_goto (pc := 66) dX11_register_66 (tgt := 70) rfl ?_
              exact jo_ireturn (pc := 70) rfl rfl dX11_register_70
        · refine jo_aload_n (pc := 45) 0 rfl dX11_register_45 rfl ?_
          refine jo_iconst (pc := 46) dX11_register_46 (ic_i_0) ?_
          refine jo_cV_I_p (pc := 47) (μ' := mu_X11_layer) (fx := f_X11_layer σ6 0) (As := [.int 0]) (c_X11_layer hw hN) (ok_X11_layer) (ltb rfl) (all3 gw_1813 gw_1815 gw_134) (ik_306 hw hN) (by decide) (q := (RX11, TX11, 39)) rfl rfl rfl rfl (Nat.le_of_ble_eq_true rfl) dX11_register_47 (fun v20 => ?_)
          exact jo_ireturn (pc := 50) rfl rfl dX11_register_50
      · refine jo_iconst (pc := 33) dX11_register_33 (ic_i_m1) ?_
        exact jo_ireturn (pc := 34) rfl rfl dX11_register_34
theorem c_X11_register {w : Wd} (hw : WOK w) (hN : wn w = NT) {σ : Mem} {x0 : Int32} {x1 : Int32} : ∀ r σ', f_X11_register σ x0 x1 = some (r, σ') → MC w mu_X11_register (vI r) [.ref (adr w 306), .int x0, .int x1] σ σ' := mc_of ok_X11_register rfl (Nat.le_of_ble_eq_true rfl) (t_X11_register hw hN)
abbrev mu_X11_firstApart : MD := (yX11_firstApart, cX11_firstApart, 2, some .int, 1)
theorem ok_X11_firstApart : MOK mu_X11_firstApart 0 := ⟨gw_1871, gw_171, (by decide +kernel : plainFor yX11_firstApart = true), ⟨(by decide +kernel : yX11_firstApart.cls ≠ "java/lang/invoke/MethodHandle"), (by decide +kernel : yX11_firstApart.cls ≠ "java/lang/invoke/VarHandle"), (by decide +kernel : (parseMethodDescriptor yX11_firstApart.desc).map (fun d => d.parameters.length) = some 0)⟩, Nat.le_of_ble_eq_true rfl⟩
noncomputable def j_X11_firstApart_26 (i1 : Int32) : Option Int32 :=
  some (i1 + 1)
noncomputable def l_X11_firstApart_2 (σ : Mem) (i2 : Int32) : Option (Int32 ⊕ (Int32 ⊕ Int32)) :=
  (f_X11_n σ).bind (fun (v3 : Int32) => if v3 ≤ i2 then (some (Sum.inr (Sum.inr 0))) else ((f_X11_of σ 0 i2).bind (fun (v4 : Int64) => (f_X11_of σ 1 i2).bind (fun (v5 : Int64) => if v4 = v5 then (some (Sum.inl (i2 + 1))) else (some (Sum.inr (Sum.inl i2)))))))
noncomputable def f_X11_firstApart (σ : Mem) : Option Int32 :=
  (loopO (fun (z2 : Int32) => l_X11_firstApart_2 σ z2) 0 : Option (Int32 ⊕ Int32)).bind (Sum.elim (fun (z1 : Int32) => j_X11_firstApart_26 z1) some)
theorem t_X11_firstApart {w : Wd} (hw : WOK w) (hN : wn w = NT) {σ : Mem} : JO w mu_X11_firstApart vI σ [(0, .ref (adr w 306))] [] 0 (f_X11_firstApart σ) (fun z => some (z, σ)) := by
  unfold f_X11_firstApart
  refine jo_iconst (pc := 0) dX11_firstApart_0 (ic_i_0) ?_
  refine jo_istore_n (pc := 1) (lv' := [(1, .int 0), (0, .ref (adr w 306))]) dX11_firstApart_1 rfl (ltb rfl) rfl ?_
  refine jo_joinS (S := Int32) (fun (z1 : Int32) => σ) (fun (z1 : Int32) => [(1, .int z1)]) (fun (z1 : Int32) => []) 26 ?_ (fun h26_1 => ?_)
  · intro i1
    show JO w mu_X11_firstApart vI σ [(1, .int i1)] [] 26 (j_X11_firstApart_26 i1) _
    unfold j_X11_firstApart_26
    refine jo_iload_n (pc := 26) 0 rfl dX11_firstApart_26 rfl ?_
    refine jo_iconst (pc := 27) dX11_firstApart_27 (ic_i_1) ?_
    refine jo_iadd (pc := 28) dX11_firstApart_28 ?_
    exact jo_ireturn (pc := 29) rfl rfl dX11_firstApart_29
  · refine jo_lv (lv' := [(0, .ref (adr w 306)), (1, .int 0)]) [1, 0] rfl ?_
    refine jo_loop (X := Int32 ⊕ Int32) (fun (z2 : Int32) => σ) (fun (z2 : Int32) => [(0, .ref (adr w 306)), (1, .int z2)]) (body := (fun (z2 : Int32) => l_X11_firstApart_2 σ z2)) (fun F2_2 hF2_2 s => ?_) 0
    revert s; intro i2
    show JO w mu_X11_firstApart vI σ [(0, .ref (adr w 306)), (1, .int i2)] [] 2 (l_X11_firstApart_2 σ i2) _
    unfold l_X11_firstApart_2
    refine jo_iload_n (pc := 2) 1 rfl dX11_firstApart_2 rfl ?_
    refine jo_aload_n (pc := 3) 0 rfl dX11_firstApart_3 rfl ?_
    refine jo_cV_I_p (pc := 4) (μ' := mu_X11_n) (fx := f_X11_n σ) (As := []) (c_X11_n hw hN) (ok_X11_n) (ltb rfl) (all3 gw_1441 gw_1443 gw_68) (ik_306 hw hN) (by decide) (q := (RX11, TX11, 39)) rfl rfl rfl rfl (Nat.le_of_ble_eq_true rfl) dX11_firstApart_4 (fun v3 => ?_)
    refine jo_icmp_ge (pc := 7) dX11_firstApart_7 (tgt := 36) rfl ?_ ?_
    · refine jo_iconst (pc := 36) dX11_firstApart_36 (ic_i_0) ?_
      exact jo_ireturn (pc := 37) rfl rfl dX11_firstApart_37
    · refine jo_aload_n (pc := 10) 0 rfl dX11_firstApart_10 rfl ?_
      refine jo_iconst (pc := 11) dX11_firstApart_11 (ic_i_0) ?_
      refine jo_iload_n (pc := 12) 1 rfl dX11_firstApart_12 rfl ?_
      refine jo_cV_J_p (pc := 13) (μ' := mu_X11_of) (fx := f_X11_of σ 0 i2) (As := [.int 0, .int i2]) (c_X11_of hw hN) (ok_X11_of) (ltb rfl) (all3 gw_1527 gw_1529 gw_87) (ik_306 hw hN) (by decide) (q := (RX11, TX11, 39)) rfl rfl rfl rfl (Nat.le_of_ble_eq_true rfl) dX11_firstApart_13 (fun v4 => ?_)
      refine jo_aload_n (pc := 16) 0 rfl dX11_firstApart_16 rfl ?_
      refine jo_iconst (pc := 17) dX11_firstApart_17 (ic_i_1) ?_
      refine jo_iload_n (pc := 18) 1 rfl dX11_firstApart_18 rfl ?_
      refine jo_cV_J_p (pc := 19) (μ' := mu_X11_of) (fx := f_X11_of σ 1 i2) (As := [.int 1, .int i2]) (c_X11_of hw hN) (ok_X11_of) (ltb rfl) (all3 gw_1527 gw_1529 gw_87) (ik_306 hw hN) (by decide) (q := (RX11, TX11, 39)) rfl rfl rfl rfl (Nat.le_of_ble_eq_true rfl) dX11_firstApart_19 (fun v5 => ?_)
      refine jo_lcmp_eq (pc := 22) dX11_firstApart_22 dX11_firstApart_23 (tgt := 30) rfl ?_ ?_
      · refine jo_iinc (pc := 30) (lv' := [(1, .int (i2 + 1)), (0, .ref (adr w 306))]) 1 rfl dX11_firstApart_30 (congrArg (fun z => i2 + z) (ic_i_1)) (ltb rfl) rfl ?_
        refine jo_goto (pc := 33) dX11_firstApart_33 (tgt := 2) rfl ?_
        refine jo_lv (lv' := [(0, .ref (adr w 306)), (1, .int (i2 + 1))]) [1, 0] rfl ?_
        exact jo_leaf (by rfl) (hF2_2 (i2 + 1))
      · refine jo_lv (lv' := [(1, .int i2)]) [1] rfl ?_
        exact jo_leaf (by rfl) (h26_1 i2)
theorem c_X11_firstApart {w : Wd} (hw : WOK w) (hN : wn w = NT) {σ : Mem} : ∀ r, f_X11_firstApart σ = some r → MC w mu_X11_firstApart (vI r) [.ref (adr w 306)] σ σ := mc_ofP ok_X11_firstApart rfl (Nat.le_of_ble_eq_true rfl) (t_X11_firstApart hw hN)
abbrev mu_X11_both : MD := (yX11_both, cX11_both, 4, some .int, 37)
theorem ok_X11_both : MOK mu_X11_both 3 := ⟨gw_1867, gw_171, (by decide +kernel : plainFor yX11_both = true), ⟨(by decide +kernel : yX11_both.cls ≠ "java/lang/invoke/MethodHandle"), (by decide +kernel : yX11_both.cls ≠ "java/lang/invoke/VarHandle"), (by decide +kernel : (parseMethodDescriptor yX11_both.desc).map (fun d => d.parameters.length) = some 3)⟩, Nat.le_of_ble_eq_true rfl⟩
noncomputable def f_X11_both (σ : Mem) (x0 : Int32) (x1 : Int32) (x2 : Int32) : Option (Int32 × Mem) :=
  pF σ 306 0 0 (fun (σ1 : Mem) => (f_X11_isRegister σ1 x0).bind (fun (b2 : Bool) => if b2 then (f_X11_isRegister σ1 x1).bind (fun (b3 : Bool) => if b3 then bq (f_X11_isConsistent σ1) (fun (b4 : Bool) (σ5 : Mem) => if b4 then (f_X11_isIn σ5 (Int32.toInt64 x2) 0 2).bind (fun (b6 : Bool) => if b6 then (f_X11_laysRegister σ5 0 x0).bind (fun (σ7 : Mem) => (f_X11_laysRegister σ7 1 x1).bind (fun (σ8 : Mem) => if x2 = 2 then ((f_X11_firstApart σ8).bind (fun (v12 : Int32) => some (v12, σ8))) else ((f_X11_commutator σ8 0 1 2).bind (fun (σ9 : Mem) => if x2 = 1 then ((f_X11_layer σ9 2).bind (fun (v11 : Int32) => some (v11, σ9))) else ((f_X11_isOne σ9 2).bind (fun (b10 : Bool) => if b10 then some (1, σ9) else some (0, σ9))))))) else some ((-1), σ5)) else some ((-1), σ5)) else some ((-1), σ1)) else some ((-1), σ1)))
theorem t_X11_both {w : Wd} (hw : WOK w) (hN : wn w = NT) {σ : Mem} {x0 : Int32} {x1 : Int32} {x2 : Int32} : JO w mu_X11_both vI σ [(0, .ref (adr w 306)), (1, .int x0), (2, .int x1), (3, .int x2)] [] 0 (f_X11_both σ x0 x1 x2) some := by
  unfold f_X11_both
  refine jo_aload_n (pc := 0) 0 rfl dX11_both_0 rfl ?_
  refine jo_iconst (pc := 1) dX11_both_1 (ic_i_0) ?_
  refine jo_putf (pc := 2) ok_11_0 okp_11_0 (ik_306 hw hN) gw_1293 dX11_both_2 (fun σ1 => ?_)
  refine jo_aload_n (pc := 5) 0 rfl dX11_both_5 rfl ?_
  refine jo_iload_n (pc := 6) 1 rfl dX11_both_6 rfl ?_
  refine jo_cV_Z_p (pc := 7) (μ' := mu_X11_isRegister) (fx := f_X11_isRegister σ1 x0) (As := [.int x0]) (c_X11_isRegister hw hN) (ok_X11_isRegister) (ltb rfl) (all3 gw_1470 gw_1472 gw_73) (ik_306 hw hN) (by decide) (q := (RX11, TX11, 39)) rfl rfl rfl rfl (Nat.le_of_ble_eq_true rfl) dX11_both_7 (fun b2 => ?_)
  refine jo_ifz_eq (pc := 10) dX11_both_10 (tgt := 41) rfl ?_ ?_
  · refine jo_iconst (pc := 41) dX11_both_41 (ic_i_m1) ?_
    exact jo_ireturn (pc := 42) rfl rfl dX11_both_42
  · refine jo_aload_n (pc := 13) 0 rfl dX11_both_13 rfl ?_
    refine jo_iload_n (pc := 14) 2 rfl dX11_both_14 rfl ?_
    refine jo_cV_Z_p (pc := 15) (μ' := mu_X11_isRegister) (fx := f_X11_isRegister σ1 x1) (As := [.int x1]) (c_X11_isRegister hw hN) (ok_X11_isRegister) (ltb rfl) (all3 gw_1470 gw_1472 gw_73) (ik_306 hw hN) (by decide) (q := (RX11, TX11, 39)) rfl rfl rfl rfl (Nat.le_of_ble_eq_true rfl) dX11_both_15 (fun b3 => ?_)
    refine jo_ifz_eq (pc := 18) dX11_both_18 (tgt := 41) rfl ?_ ?_
    · refine jo_iconst (pc := 41) dX11_both_41 (ic_i_m1) ?_
      exact jo_ireturn (pc := 42) rfl rfl dX11_both_42
    · refine jo_aload_n (pc := 21) 0 rfl dX11_both_21 rfl ?_
      refine jo_cV_Z_i (pc := 22) (μ' := mu_X11_isConsistent) (fx := f_X11_isConsistent σ1) (As := []) (c_X11_isConsistent hw hN) (ok_X11_isConsistent) (ltb rfl) (all3 gw_1475 gw_1477 gw_74) (ik_306 hw hN) (by decide) (q := (RX11, TX11, 39)) rfl rfl rfl rfl (Nat.le_of_ble_eq_true rfl) dX11_both_22 (fun b4 σ5 => ?_)
      refine jo_ifz_eq (pc := 25) dX11_both_25 (tgt := 41) rfl ?_ ?_
      · refine jo_iconst (pc := 41) dX11_both_41 (ic_i_m1) ?_
        exact jo_ireturn (pc := 42) rfl rfl dX11_both_42
      · refine jo_aload_n (pc := 28) 0 rfl dX11_both_28 rfl ?_
        refine jo_iload_n (pc := 29) 3 rfl dX11_both_29 rfl ?_
        refine jo_i2l (pc := 30) dX11_both_30 ?_
        refine jo_lconst (pc := 31) dX11_both_31 (ic_l_0) ?_
        refine jo_ldc2 (pc := 32) dX11_both_32 gw_1547 ?_
        refine jo_cV_Z_p (pc := 35) (μ' := mu_X11_isIn) (fx := f_X11_isIn σ5 (Int32.toInt64 x2) 0 2) (As := [.long (Int32.toInt64 x2), .long 0, .long 2]) (c_X11_isIn hw hN) (ok_X11_isIn) (ltb rfl) (all3 gw_1420 gw_1422 gw_64) (ik_306 hw hN) (by decide) (q := (RX11, TX11, 39)) rfl rfl rfl rfl (Nat.le_of_ble_eq_true rfl) dX11_both_35 (fun b6 => ?_)
        refine jo_ifz_ne (pc := 38) dX11_both_38 (tgt := 43) rfl ?_ ?_
        · refine jo_aload_n (pc := 43) 0 rfl dX11_both_43 rfl ?_
          refine jo_iconst (pc := 44) dX11_both_44 (ic_i_0) ?_
          refine jo_iload_n (pc := 45) 1 rfl dX11_both_45 rfl ?_
          refine jo_cV_V_i (pc := 46) (μ' := mu_X11_laysRegister) (fx := f_X11_laysRegister σ5 0 x0) (As := [.int 0, .int x0]) (c_X11_laysRegister hw hN) (ok_X11_laysRegister) (ltb rfl) (all3 gw_1559 gw_1561 gw_94) (ik_306 hw hN) (by decide) (q := (RX11, TX11, 39)) rfl rfl rfl rfl (Nat.le_of_ble_eq_true rfl) dX11_both_46 (fun σ7 => ?_)
          refine jo_aload_n (pc := 49) 0 rfl dX11_both_49 rfl ?_
          refine jo_iconst (pc := 50) dX11_both_50 (ic_i_1) ?_
          refine jo_iload_n (pc := 51) 2 rfl dX11_both_51 rfl ?_
          refine jo_cV_V_i (pc := 52) (μ' := mu_X11_laysRegister) (fx := f_X11_laysRegister σ7 1 x1) (As := [.int 1, .int x1]) (c_X11_laysRegister hw hN) (ok_X11_laysRegister) (ltb rfl) (all3 gw_1559 gw_1561 gw_94) (ik_306 hw hN) (by decide) (q := (RX11, TX11, 39)) rfl rfl rfl rfl (Nat.le_of_ble_eq_true rfl) dX11_both_52 (fun σ8 => ?_)
          refine jo_iload_n (pc := 55) 3 rfl dX11_both_55 rfl ?_
          refine jo_iconst (pc := 56) dX11_both_56 (ic_i_2) ?_
          refine jo_icmp_ne (pc := 57) dX11_both_57 (tgt := 65) rfl ?_ ?_
          · refine jo_aload_n (pc := 65) 0 rfl dX11_both_65 rfl ?_
            refine jo_iconst (pc := 66) dX11_both_66 (ic_i_0) ?_
            refine jo_iconst (pc := 67) dX11_both_67 (ic_i_1) ?_
            refine jo_iconst (pc := 68) dX11_both_68 (ic_i_2) ?_
            refine jo_cV_V_i (pc := 69) (μ' := mu_X11_commutator) (fx := f_X11_commutator σ8 0 1 2) (As := [.int 0, .int 1, .int 2]) (c_X11_commutator hw hN) (ok_X11_commutator) (ltb rfl) (all3 gw_1609 gw_1611 gw_102) (ik_306 hw hN) (by decide) (q := (RX11, TX11, 39)) rfl rfl rfl rfl (Nat.le_of_ble_eq_true rfl) dX11_both_69 (fun σ9 => ?_)
            refine jo_iload_n (pc := 72) 3 rfl dX11_both_72 rfl ?_
            refine jo_iconst (pc := 73) dX11_both_73 (ic_i_1) ?_
            refine jo_icmp_ne (pc := 74) dX11_both_74 (tgt := 85) rfl ?_ ?_
            · refine jo_aload_n (pc := 85) 0 rfl dX11_both_85 rfl ?_
              refine jo_iconst (pc := 86) dX11_both_86 (ic_i_2) ?_
              refine jo_cV_Z_p (pc := 87) (μ' := mu_X11_isOne) (fx := f_X11_isOne σ9 2) (As := [.int 2]) (c_X11_isOne hw hN) (ok_X11_isOne) (ltb rfl) (all3 gw_1750 gw_1752 gw_125) (ik_306 hw hN) (by decide) (q := (RX11, TX11, 39)) rfl rfl rfl rfl (Nat.le_of_ble_eq_true rfl) dX11_both_87 (fun b10 => ?_)
              refine jo_ifz_eq (pc := 90) dX11_both_90 (tgt := 97) rfl ?_ ?_
              · refine jo_iconst (pc := 97) dX11_both_97 (ic_i_0) ?_
                exact jo_ireturn (pc := 98) rfl rfl dX11_both_98
              · refine jo_iconst (pc := 93) dX11_both_93 (ic_i_1) ?_
                refine jo_goto (pc := 94) dX11_both_94 (tgt := 98) rfl ?_
                exact jo_ireturn (pc := 98) rfl rfl dX11_both_98
            · refine jo_aload_n (pc := 77) 0 rfl dX11_both_77 rfl ?_
              refine jo_iconst (pc := 78) dX11_both_78 (ic_i_2) ?_
              refine jo_cV_I_p (pc := 79) (μ' := mu_X11_layer) (fx := f_X11_layer σ9 2) (As := [.int 2]) (c_X11_layer hw hN) (ok_X11_layer) (ltb rfl) (all3 gw_1813 gw_1815 gw_134) (ik_306 hw hN) (by decide) (q := (RX11, TX11, 39)) rfl rfl rfl rfl (Nat.le_of_ble_eq_true rfl) dX11_both_79 (fun v11 => ?_)
              refine jo_goto (pc := 82) dX11_both_82 (tgt := 98) rfl ?_
              exact jo_ireturn (pc := 98) rfl rfl dX11_both_98
          · refine jo_aload_n (pc := 60) 0 rfl dX11_both_60 rfl ?_
            refine jo_cV_I_p (pc := 61) (μ' := mu_X11_firstApart) (fx := f_X11_firstApart σ8) (As := []) (c_X11_firstApart hw hN) (ok_X11_firstApart) (ltb rfl) (all3 gw_1868 gw_1870 gw_146) (ik_306 hw hN) (by decide) (q := (RX11, TX11, 39)) rfl rfl rfl rfl (Nat.le_of_ble_eq_true rfl) dX11_both_61 (fun v12 => ?_)
            exact jo_ireturn (pc := 64) rfl rfl dX11_both_64
        · refine jo_iconst (pc := 41) dX11_both_41 (ic_i_m1) ?_
          exact jo_ireturn (pc := 42) rfl rfl dX11_both_42
theorem c_X11_both {w : Wd} (hw : WOK w) (hN : wn w = NT) {σ : Mem} {x0 : Int32} {x1 : Int32} {x2 : Int32} : ∀ r σ', f_X11_both σ x0 x1 x2 = some (r, σ') → MC w mu_X11_both (vI r) [.ref (adr w 306), .int x0, .int x1, .int x2] σ σ' := mc_of ok_X11_both rfl (Nat.le_of_ble_eq_true rfl) (t_X11_both hw hN)
abbrev mu_X11_adds : MD := (yX11_adds, cX11_adds, 5, none, 6)
theorem ok_X11_adds : MOK mu_X11_adds 3 := ⟨gw_1893, gw_171, (by decide +kernel : plainFor yX11_adds = true), ⟨(by decide +kernel : yX11_adds.cls ≠ "java/lang/invoke/MethodHandle"), (by decide +kernel : yX11_adds.cls ≠ "java/lang/invoke/VarHandle"), (by decide +kernel : (parseMethodDescriptor yX11_adds.desc).map (fun d => d.parameters.length) = some 3)⟩, Nat.le_of_ble_eq_true rfl⟩
noncomputable def j_X11_adds_134 (σ4 : Mem) : Option Mem :=
  gF σ4 306 31 (fun (v5 : Int32) => pF σ4 306 31 (v5 + 1) (fun (σ6 : Mem) => some σ6))
noncomputable def l_X11_adds_94 (x1 : Int32) (σ7 : Mem) (i8 : Int32) : Option ((Mem × Int32) ⊕ Mem) :=
  (f_X11_n σ7).bind (fun (v9 : Int32) => if v9 ≤ i8 then (some (Sum.inr σ7)) else (gF σ7 306 31 (fun (v10 : Int32) => (f_X11_of σ7 x1 i8).bind (fun (v11 : Int64) => pL σ7 320 (((18 * v10) + 12) + i8) v11 (fun (σ12 : Mem) => some (Sum.inl (σ12, i8 + 1)))))))
noncomputable def j_X11_adds_91 (x1 : Int32) (σ3 : Mem) : Option Mem :=
  (loopO (fun (z8 : (Mem × Int32)) => l_X11_adds_94 x1 z8.1 z8.2) (σ3, 0) : Option Mem).bind (fun (z4 : Mem) => j_X11_adds_134 z4)
noncomputable def j_X11_adds_85 (i14 : Int32) (σ17 : Mem) : Option ((Mem × Int32) ⊕ Mem) :=
  some (Sum.inl (σ17, i14 + 1))
noncomputable def l_X11_adds_43 (x2 : Int32) (σ13 : Mem) (i14 : Int32) : Option ((Mem × Int32) ⊕ Mem) :=
  (f_X11_n σ13).bind (fun (v15 : Int32) => if v15 ≤ i14 then (some (Sum.inr σ13)) else ((f_X11_weight σ13 i14).bind (fun (v16 : Int32) => (if v16 = x2 then (gF σ13 306 31 (fun (v18 : Int32) => (f_X11_of σ13 50 i14).bind (fun (v19 : Int64) => pL σ13 320 ((18 * v18) + i14) v19 (fun (σ20 : Mem) => some σ20)))) else (some σ13) : Option Mem).bind (fun (z17 : Mem) => j_X11_adds_85 i14 z17))))
noncomputable def j_X11_adds_40 (x1 : Int32) (x2 : Int32) (σ2 : Mem) : Option Mem :=
  (loopO (fun (z14 : (Mem × Int32)) => l_X11_adds_43 x2 z14.1 z14.2) (σ2, 0) : Option Mem).bind (fun (z3 : Mem) => j_X11_adds_91 x1 z3)
noncomputable def l_X11_adds_11 (σ21 : Mem) (i22 : Int32) : Option ((Mem × Int32) ⊕ Mem) :=
  if 18 ≤ i22 then (some (Sum.inr σ21)) else (gF σ21 306 31 (fun (v23 : Int32) => pL σ21 320 ((18 * v23) + i22) 0 (fun (σ24 : Mem) => some (Sum.inl (σ24, i22 + 1)))))
noncomputable def f_X11_adds (σ : Mem) (x0 : Int32) (x1 : Int32) (x2 : Int32) : Option Mem :=
  (f_X11_commutator σ x0 x1 50).bind (fun (σ1 : Mem) => (loopO (fun (z22 : (Mem × Int32)) => l_X11_adds_11 z22.1 z22.2) (σ1, 0) : Option Mem).bind (fun (z2 : Mem) => j_X11_adds_40 x1 x2 z2))
theorem t_X11_adds {w : Wd} (hw : WOK w) (hN : wn w = NT) {σ : Mem} {x0 : Int32} {x1 : Int32} {x2 : Int32} : JO w mu_X11_adds vV σ [(0, .ref (adr w 306)), (1, .int x0), (2, .int x1), (3, .int x2)] [] 0 (f_X11_adds σ x0 x1 x2) (fun z => some ((), z)) := by
  unfold f_X11_adds
  refine jo_aload_n (pc := 0) 0 rfl dX11_adds_0 rfl ?_
  refine jo_iload_n (pc := 1) 1 rfl dX11_adds_1 rfl ?_
  refine jo_iload_n (pc := 2) 2 rfl dX11_adds_2 rfl ?_
  refine jo_bipush (pc := 3) dX11_adds_3 (ic_b_50) ?_
  refine jo_cV_V_i (pc := 5) (μ' := mu_X11_commutator) (fx := f_X11_commutator σ x0 x1 50) (As := [.int x0, .int x1, .int 50]) (c_X11_commutator hw hN) (ok_X11_commutator) (ltb rfl) (all3 gw_1609 gw_1611 gw_102) (ik_306 hw hN) (by decide) (q := (RX11, TX11, 39)) rfl rfl rfl rfl (Nat.le_of_ble_eq_true rfl) dX11_adds_5 (fun σ1 => ?_)
  refine jo_iconst (pc := 8) dX11_adds_8 (ic_i_0) ?_
  refine jo_istore (pc := 9) (lv' := [(4, .int 0), (0, .ref (adr w 306)), (1, .int x0), (2, .int x1), (3, .int x2)]) dX11_adds_9 (ltb rfl) rfl ?_
  refine jo_join1 (S := Mem) (fun (z2 : Mem) => z2) (fun (z2 : Mem) => [(0, .ref (adr w 306)), (2, .int x1), (3, .int x2)]) (fun (z2 : Mem) => []) 40 ?_ (fun h40_2 => ?_)
  · intro σ2
    show JO w mu_X11_adds vV σ2 [(0, .ref (adr w 306)), (2, .int x1), (3, .int x2)] [] 40 (j_X11_adds_40 x1 x2 σ2) _
    unfold j_X11_adds_40
    refine jo_iconst (pc := 40) dX11_adds_40 (ic_i_0) ?_
    refine jo_istore (pc := 41) (lv' := [(4, .int 0), (0, .ref (adr w 306)), (2, .int x1), (3, .int x2)]) dX11_adds_41 (ltb rfl) rfl ?_
    refine jo_join1 (S := Mem) (fun (z3 : Mem) => z3) (fun (z3 : Mem) => [(0, .ref (adr w 306)), (2, .int x1)]) (fun (z3 : Mem) => []) 91 ?_ (fun h91_3 => ?_)
    · intro σ3
      show JO w mu_X11_adds vV σ3 [(0, .ref (adr w 306)), (2, .int x1)] [] 91 (j_X11_adds_91 x1 σ3) _
      unfold j_X11_adds_91
      refine jo_iconst (pc := 91) dX11_adds_91 (ic_i_0) ?_
      refine jo_istore (pc := 92) (lv' := [(4, .int 0), (0, .ref (adr w 306)), (2, .int x1)]) dX11_adds_92 (ltb rfl) rfl ?_
      refine jo_join1 (S := Mem) (fun (z4 : Mem) => z4) (fun (z4 : Mem) => [(0, .ref (adr w 306))]) (fun (z4 : Mem) => []) 134 ?_ (fun h134_4 => ?_)
      · intro σ4
        show JO w mu_X11_adds vV σ4 [(0, .ref (adr w 306))] [] 134 (j_X11_adds_134 σ4) _
        unfold j_X11_adds_134
        refine jo_aload_n (pc := 134) 0 rfl dX11_adds_134 rfl ?_
        refine jo_aload_n (pc := 135) 0 rfl dX11_adds_135 rfl ?_
        refine jo_getf (pc := 136) ok_11_31 (ik_306 hw hN) gw_1324 dX11_adds_136 (fun v5 => ?_)
        refine jo_iconst (pc := 139) dX11_adds_139 (ic_i_1) ?_
        refine jo_iadd (pc := 140) dX11_adds_140 ?_
        refine jo_putf (pc := 141) ok_11_31 okp_11_31 (ik_306 hw hN) gw_1324 dX11_adds_141 (fun σ6 => ?_)
        exact jo_return (pc := 144) rfl rfl dX11_adds_144
      · refine jo_lv (lv' := [(0, .ref (adr w 306)), (2, .int x1), (4, .int 0)]) [1, 2, 0] rfl ?_
        refine jo_loop (X := Mem) (fun (z8 : (Mem × Int32)) => z8.1) (fun (z8 : (Mem × Int32)) => [(0, .ref (adr w 306)), (2, .int x1), (4, .int z8.2)]) (body := (fun (z8 : (Mem × Int32)) => l_X11_adds_94 x1 z8.1 z8.2)) (fun F94_8 hF94_8 s => ?_) (σ3, 0)
        obtain ⟨σ7, i8⟩ := s
        show JO w mu_X11_adds vV σ7 [(0, .ref (adr w 306)), (2, .int x1), (4, .int i8)] [] 94 (l_X11_adds_94 x1 σ7 i8) _
        unfold l_X11_adds_94
        refine jo_iload (pc := 94) 2 rfl dX11_adds_94 ?_
        refine jo_aload_n (pc := 96) 0 rfl dX11_adds_96 rfl ?_
        refine jo_cV_I_p (pc := 97) (μ' := mu_X11_n) (fx := f_X11_n σ7) (As := []) (c_X11_n hw hN) (ok_X11_n) (ltb rfl) (all3 gw_1441 gw_1443 gw_68) (ik_306 hw hN) (by decide) (q := (RX11, TX11, 39)) rfl rfl rfl rfl (Nat.le_of_ble_eq_true rfl) dX11_adds_97 (fun v9 => ?_)
        refine jo_icmp_ge (pc := 100) dX11_adds_100 (tgt := 134) rfl ?_ ?_
        · refine jo_lv (lv' := [(0, .ref (adr w 306))]) [0] rfl ?_
          exact jo_leaf (by rfl) (h134_4 σ7)
        · refine jo_aload_n (pc := 103) 0 rfl dX11_adds_103 rfl ?_
          refine jo_getrE (pc := 104) ok_11_30 (ik_306 hw hN) rf_306_30 gw_1323 dX11_adds_104 ?_
          refine jo_bipush (pc := 107) dX11_adds_107 (ic_b_18) ?_
          refine jo_aload_n (pc := 109) 0 rfl dX11_adds_109 rfl ?_
          refine jo_getf (pc := 110) ok_11_31 (ik_306 hw hN) gw_1324 dX11_adds_110 (fun v10 => ?_)
          refine jo_imul (pc := 113) dX11_adds_113 ?_
          refine jo_bipush (pc := 114) dX11_adds_114 (ic_b_12) ?_
          refine jo_iadd (pc := 116) dX11_adds_116 ?_
          refine jo_iload (pc := 117) 2 rfl dX11_adds_117 ?_
          refine jo_iadd (pc := 119) dX11_adds_119 ?_
          refine jo_aload_n (pc := 120) 0 rfl dX11_adds_120 rfl ?_
          refine jo_iload_n (pc := 121) 1 rfl dX11_adds_121 rfl ?_
          refine jo_iload (pc := 122) 2 rfl dX11_adds_122 ?_
          refine jo_cV_J_p (pc := 124) (μ' := mu_X11_of) (fx := f_X11_of σ7 x1 i8) (As := [.int x1, .int i8]) (c_X11_of hw hN) (ok_X11_of) (ltb rfl) (all3 gw_1527 gw_1529 gw_87) (ik_306 hw hN) (by decide) (q := (RX11, TX11, 39)) rfl rfl rfl rfl (Nat.le_of_ble_eq_true rfl) dX11_adds_124 (fun v11 => ?_)
          refine jo_last (pc := 127) (ik_320 hw hN) dX11_adds_127 (fun σ12 => ?_)
          refine jo_iinc (pc := 128) (lv' := [(4, .int (i8 + 1)), (0, .ref (adr w 306)), (2, .int x1)]) 2 rfl dX11_adds_128 (congrArg (fun z => i8 + z) (ic_i_1)) (ltb rfl) rfl ?_
          refine jo_goto (pc := 131) dX11_adds_131 (tgt := 94) rfl ?_
          refine jo_lv (lv' := [(0, .ref (adr w 306)), (2, .int x1), (4, .int (i8 + 1))]) [1, 2, 0] rfl ?_
          exact jo_leaf (by rfl) (hF94_8 (σ12, i8 + 1))
    · refine jo_lv (lv' := [(0, .ref (adr w 306)), (2, .int x1), (3, .int x2), (4, .int 0)]) [1, 2, 3, 0] rfl ?_
      refine jo_loop (X := Mem) (fun (z14 : (Mem × Int32)) => z14.1) (fun (z14 : (Mem × Int32)) => [(0, .ref (adr w 306)), (2, .int x1), (3, .int x2), (4, .int z14.2)]) (body := (fun (z14 : (Mem × Int32)) => l_X11_adds_43 x2 z14.1 z14.2)) (fun F43_14 hF43_14 s => ?_) (σ2, 0)
      obtain ⟨σ13, i14⟩ := s
      show JO w mu_X11_adds vV σ13 [(0, .ref (adr w 306)), (2, .int x1), (3, .int x2), (4, .int i14)] [] 43 (l_X11_adds_43 x2 σ13 i14) _
      unfold l_X11_adds_43
      refine jo_iload (pc := 43) 3 rfl dX11_adds_43 ?_
      refine jo_aload_n (pc := 45) 0 rfl dX11_adds_45 rfl ?_
      refine jo_cV_I_p (pc := 46) (μ' := mu_X11_n) (fx := f_X11_n σ13) (As := []) (c_X11_n hw hN) (ok_X11_n) (ltb rfl) (all3 gw_1441 gw_1443 gw_68) (ik_306 hw hN) (by decide) (q := (RX11, TX11, 39)) rfl rfl rfl rfl (Nat.le_of_ble_eq_true rfl) dX11_adds_46 (fun v15 => ?_)
      refine jo_icmp_ge (pc := 49) dX11_adds_49 (tgt := 91) rfl ?_ ?_
      · refine jo_lv (lv' := [(0, .ref (adr w 306)), (2, .int x1)]) [0, 1] rfl ?_
        exact jo_leaf (by rfl) (h91_3 σ13)
      · refine jo_aload_n (pc := 52) 0 rfl dX11_adds_52 rfl ?_
        refine jo_iload (pc := 53) 3 rfl dX11_adds_53 ?_
        refine jo_cV_I_p (pc := 55) (μ' := mu_X11_weight) (fx := f_X11_weight σ13 i14) (As := [.int i14]) (c_X11_weight hw hN) (ok_X11_weight) (ltb rfl) (all3 gw_1446 gw_1448 gw_69) (ik_306 hw hN) (by decide) (q := (RX11, TX11, 39)) rfl rfl rfl rfl (Nat.le_of_ble_eq_true rfl) dX11_adds_55 (fun v16 => ?_)
        refine jo_iload_n (pc := 58) 2 rfl dX11_adds_58 rfl ?_
        refine jo_join1 (S := Mem) (fun (z17 : Mem) => z17) (fun (z17 : Mem) => [(0, .ref (adr w 306)), (2, .int x1), (3, .int x2), (4, .int i14)]) (fun (z17 : Mem) => []) 85 ?_ (fun h85_17 => ?_)
        · intro σ17
          show JO w mu_X11_adds vV σ17 [(0, .ref (adr w 306)), (2, .int x1), (3, .int x2), (4, .int i14)] [] 85 (j_X11_adds_85 i14 σ17) _
          unfold j_X11_adds_85
          refine jo_iinc (pc := 85) (lv' := [(4, .int (i14 + 1)), (0, .ref (adr w 306)), (2, .int x1), (3, .int x2)]) 3 rfl dX11_adds_85 (congrArg (fun z => i14 + z) (ic_i_1)) (ltb rfl) rfl ?_
          refine jo_goto (pc := 88) dX11_adds_88 (tgt := 43) rfl ?_
          refine jo_lv (lv' := [(0, .ref (adr w 306)), (2, .int x1), (3, .int x2), (4, .int (i14 + 1))]) [1, 2, 3, 0] rfl ?_
          exact jo_leaf (by rfl) (hF43_14 (σ17, i14 + 1))
        · refine jo_icmp_ne (pc := 59) dX11_adds_59 (tgt := 85) rfl ?_ ?_
          · exact jo_leaf (by rfl) (h85_17 σ13)
          · refine jo_aload_n (pc := 62) 0 rfl dX11_adds_62 rfl ?_
            refine jo_getrE (pc := 63) ok_11_30 (ik_306 hw hN) rf_306_30 gw_1323 dX11_adds_63 ?_
            refine jo_bipush (pc := 66) dX11_adds_66 (ic_b_18) ?_
            refine jo_aload_n (pc := 68) 0 rfl dX11_adds_68 rfl ?_
            refine jo_getf (pc := 69) ok_11_31 (ik_306 hw hN) gw_1324 dX11_adds_69 (fun v18 => ?_)
            refine jo_imul (pc := 72) dX11_adds_72 ?_
            refine jo_iload (pc := 73) 3 rfl dX11_adds_73 ?_
            refine jo_iadd (pc := 75) dX11_adds_75 ?_
            refine jo_aload_n (pc := 76) 0 rfl dX11_adds_76 rfl ?_
            refine jo_bipush (pc := 77) dX11_adds_77 (ic_b_50) ?_
            refine jo_iload (pc := 79) 3 rfl dX11_adds_79 ?_
            refine jo_cV_J_p (pc := 81) (μ' := mu_X11_of) (fx := f_X11_of σ13 50 i14) (As := [.int 50, .int i14]) (c_X11_of hw hN) (ok_X11_of) (ltb rfl) (all3 gw_1527 gw_1529 gw_87) (ik_306 hw hN) (by decide) (q := (RX11, TX11, 39)) rfl rfl rfl rfl (Nat.le_of_ble_eq_true rfl) dX11_adds_81 (fun v19 => ?_)
            refine jo_last (pc := 84) (ik_320 hw hN) dX11_adds_84 (fun σ20 => ?_)
            exact jo_leaf (by rfl) (h85_17 σ20)
  · refine jo_lv (lv' := [(0, .ref (adr w 306)), (2, .int x1), (3, .int x2), (4, .int 0)]) [1, 3, 4, 0] rfl ?_
    refine jo_loop (X := Mem) (fun (z22 : (Mem × Int32)) => z22.1) (fun (z22 : (Mem × Int32)) => [(0, .ref (adr w 306)), (2, .int x1), (3, .int x2), (4, .int z22.2)]) (body := (fun (z22 : (Mem × Int32)) => l_X11_adds_11 z22.1 z22.2)) (fun F11_22 hF11_22 s => ?_) (σ1, 0)
    obtain ⟨σ21, i22⟩ := s
    show JO w mu_X11_adds vV σ21 [(0, .ref (adr w 306)), (2, .int x1), (3, .int x2), (4, .int i22)] [] 11 (l_X11_adds_11 σ21 i22) _
    unfold l_X11_adds_11
    refine jo_iload (pc := 11) 3 rfl dX11_adds_11 ?_
    refine jo_bipush (pc := 13) dX11_adds_13 (ic_b_18) ?_
    refine jo_icmp_ge (pc := 15) dX11_adds_15 (tgt := 40) rfl ?_ ?_
    · refine jo_lv (lv' := [(0, .ref (adr w 306)), (2, .int x1), (3, .int x2)]) [0, 1, 2] rfl ?_
      exact jo_leaf (by rfl) (h40_2 σ21)
    · refine jo_aload_n (pc := 18) 0 rfl dX11_adds_18 rfl ?_
      refine jo_getrE (pc := 19) ok_11_30 (ik_306 hw hN) rf_306_30 gw_1323 dX11_adds_19 ?_
      refine jo_bipush (pc := 22) dX11_adds_22 (ic_b_18) ?_
      refine jo_aload_n (pc := 24) 0 rfl dX11_adds_24 rfl ?_
      refine jo_getf (pc := 25) ok_11_31 (ik_306 hw hN) gw_1324 dX11_adds_25 (fun v23 => ?_)
      refine jo_imul (pc := 28) dX11_adds_28 ?_
      refine jo_iload (pc := 29) 3 rfl dX11_adds_29 ?_
      refine jo_iadd (pc := 31) dX11_adds_31 ?_
      refine jo_lconst (pc := 32) dX11_adds_32 (ic_l_0) ?_
      refine jo_last (pc := 33) (ik_320 hw hN) dX11_adds_33 (fun σ24 => ?_)
      refine jo_iinc (pc := 34) (lv' := [(4, .int (i22 + 1)), (0, .ref (adr w 306)), (2, .int x1), (3, .int x2)]) 3 rfl dX11_adds_34 (congrArg (fun z => i22 + z) (ic_i_1)) (ltb rfl) rfl ?_
      refine jo_goto (pc := 37) dX11_adds_37 (tgt := 11) rfl ?_
      refine jo_lv (lv' := [(0, .ref (adr w 306)), (2, .int x1), (3, .int x2), (4, .int (i22 + 1))]) [1, 2, 3, 0] rfl ?_
      exact jo_leaf (by rfl) (hF11_22 (σ24, i22 + 1))
theorem c_X11_adds {w : Wd} (hw : WOK w) (hN : wn w = NT) {σ : Mem} {x0 : Int32} {x1 : Int32} {x2 : Int32} : ∀ σ', f_X11_adds σ x0 x1 x2 = some σ' → MC w mu_X11_adds none [.ref (adr w 306), .int x0, .int x1, .int x2] σ σ' := mc_ofV ok_X11_adds rfl (Nat.le_of_ble_eq_true rfl) (t_X11_adds hw hN)
abbrev mu_X11_letterAt : MD := (yX11_letterAt, cX11_letterAt, 5, none, 2)
theorem ok_X11_letterAt : MOK mu_X11_letterAt 3 := ⟨gw_1889, gw_171, (by decide +kernel : plainFor yX11_letterAt = true), ⟨(by decide +kernel : yX11_letterAt.cls ≠ "java/lang/invoke/MethodHandle"), (by decide +kernel : yX11_letterAt.cls ≠ "java/lang/invoke/VarHandle"), (by decide +kernel : (parseMethodDescriptor yX11_letterAt.desc).map (fun d => d.parameters.length) = some 3)⟩, Nat.le_of_ble_eq_true rfl⟩
noncomputable def f_X11_letterAt (σ : Mem) (x0 : Int32) (x1 : Int32) (x2 : Int64) : Option Mem :=
  (f_X11_ones σ x0).bind (fun (σ1 : Mem) => (f_X11_puts σ1 x0 x1 x2).bind (fun (σ2 : Mem) => some σ2))
theorem t_X11_letterAt {w : Wd} (hw : WOK w) (hN : wn w = NT) {σ : Mem} {x0 : Int32} {x1 : Int32} {x2 : Int64} : JO w mu_X11_letterAt vV σ [(0, .ref (adr w 306)), (1, .int x0), (2, .int x1), (3, .long x2)] [] 0 (f_X11_letterAt σ x0 x1 x2) (fun z => some ((), z)) := by
  unfold f_X11_letterAt
  refine jo_aload_n (pc := 0) 0 rfl dX11_letterAt_0 rfl ?_
  refine jo_iload_n (pc := 1) 1 rfl dX11_letterAt_1 rfl ?_
  refine jo_cV_V_i (pc := 2) (μ' := mu_X11_ones) (fx := f_X11_ones σ x0) (As := [.int x0]) (c_X11_ones hw hN) (ok_X11_ones) (ltb rfl) (all3 gw_1587 gw_1589 gw_99) (ik_306 hw hN) (by decide) (q := (RX11, TX11, 39)) rfl rfl rfl rfl (Nat.le_of_ble_eq_true rfl) dX11_letterAt_2 (fun σ1 => ?_)
  refine jo_aload_n (pc := 5) 0 rfl dX11_letterAt_5 rfl ?_
  refine jo_iload_n (pc := 6) 1 rfl dX11_letterAt_6 rfl ?_
  refine jo_iload_n (pc := 7) 2 rfl dX11_letterAt_7 rfl ?_
  refine jo_lload_n (pc := 8) 3 rfl dX11_letterAt_8 rfl ?_
  refine jo_cV_V_i (pc := 9) (μ' := mu_X11_puts) (fx := f_X11_puts σ1 x0 x1 x2) (As := [.int x0, .int x1, .long x2]) (c_X11_puts hw hN) (ok_X11_puts) (ltb rfl) (all3 gw_1519 gw_1521 gw_85) (ik_306 hw hN) (by decide) (q := (RX11, TX11, 39)) rfl rfl rfl rfl (Nat.le_of_ble_eq_true rfl) dX11_letterAt_9 (fun σ2 => ?_)
  exact jo_return (pc := 12) rfl rfl dX11_letterAt_12
theorem c_X11_letterAt {w : Wd} (hw : WOK w) (hN : wn w = NT) {σ : Mem} {x0 : Int32} {x1 : Int32} {x2 : Int64} : ∀ σ', f_X11_letterAt σ x0 x1 x2 = some σ' → MC w mu_X11_letterAt none [.ref (adr w 306), .int x0, .int x1, .long x2] σ σ' := mc_ofV ok_X11_letterAt rfl (Nat.le_of_ble_eq_true rfl) (t_X11_letterAt hw hN)
abbrev mu_X11_areAlikeUpTo : MD := (yX11_areAlikeUpTo, cX11_areAlikeUpTo, 5, some .boolean, 1)
theorem ok_X11_areAlikeUpTo : MOK mu_X11_areAlikeUpTo 3 := ⟨gw_1885, gw_171, (by decide +kernel : plainFor yX11_areAlikeUpTo = true), ⟨(by decide +kernel : yX11_areAlikeUpTo.cls ≠ "java/lang/invoke/MethodHandle"), (by decide +kernel : yX11_areAlikeUpTo.cls ≠ "java/lang/invoke/VarHandle"), (by decide +kernel : (parseMethodDescriptor yX11_areAlikeUpTo.desc).map (fun d => d.parameters.length) = some 3)⟩, Nat.le_of_ble_eq_true rfl⟩
noncomputable def j_X11_areAlikeUpTo_42 (i1 : Int32) : Option (Int32 ⊕ Bool) :=
  some (Sum.inl (i1 + 1))
noncomputable def l_X11_areAlikeUpTo_3 (σ : Mem) (x0 : Int32) (x1 : Int32) (x2 : Int32) (i1 : Int32) : Option (Int32 ⊕ Bool) :=
  (f_X11_n σ).bind (fun (v2 : Int32) => if v2 ≤ i1 then (some (Sum.inr true)) else ((f_X11_weight σ i1).bind (fun (v3 : Int32) => (if x0 < v3 then (some (Sum.inl ())) else ((f_X11_of σ x1 i1).bind (fun (v4 : Int64) => (f_X11_of σ x2 i1).bind (fun (v5 : Int64) => if v4 = v5 then (some (Sum.inl ())) else (some (Sum.inr (Sum.inr false)))))) : Option (Unit ⊕ (Int32 ⊕ Bool))).bind (Sum.elim (fun (z3 : Unit) => j_X11_areAlikeUpTo_42 i1) some))))
noncomputable def f_X11_areAlikeUpTo (σ : Mem) (x0 : Int32) (x1 : Int32) (x2 : Int32) : Option Bool :=
  loopO (fun (z1 : Int32) => l_X11_areAlikeUpTo_3 σ x0 x1 x2 z1) 0
theorem t_X11_areAlikeUpTo {w : Wd} (hw : WOK w) (hN : wn w = NT) {σ : Mem} {x0 : Int32} {x1 : Int32} {x2 : Int32} : JO w mu_X11_areAlikeUpTo vB σ [(0, .ref (adr w 306)), (1, .int x0), (2, .int x1), (3, .int x2)] [] 0 (f_X11_areAlikeUpTo σ x0 x1 x2) (fun z => some (z, σ)) := by
  unfold f_X11_areAlikeUpTo
  refine jo_iconst (pc := 0) dX11_areAlikeUpTo_0 (ic_i_0) ?_
  refine jo_istore (pc := 1) (lv' := [(4, .int 0), (0, .ref (adr w 306)), (1, .int x0), (2, .int x1), (3, .int x2)]) dX11_areAlikeUpTo_1 (ltb rfl) rfl ?_
  refine jo_lv (lv' := [(0, .ref (adr w 306)), (1, .int x0), (2, .int x1), (3, .int x2), (4, .int 0)]) [1, 2, 3, 4, 0] rfl ?_
  refine jo_loop (X := Bool) (fun (z1 : Int32) => σ) (fun (z1 : Int32) => [(0, .ref (adr w 306)), (1, .int x0), (2, .int x1), (3, .int x2), (4, .int z1)]) (body := (fun (z1 : Int32) => l_X11_areAlikeUpTo_3 σ x0 x1 x2 z1)) (fun F3_1 hF3_1 s => ?_) 0
  revert s; intro i1
  show JO w mu_X11_areAlikeUpTo vB σ [(0, .ref (adr w 306)), (1, .int x0), (2, .int x1), (3, .int x2), (4, .int i1)] [] 3 (l_X11_areAlikeUpTo_3 σ x0 x1 x2 i1) _
  unfold l_X11_areAlikeUpTo_3
  refine jo_iload (pc := 3) 4 rfl dX11_areAlikeUpTo_3 ?_
  refine jo_aload_n (pc := 5) 0 rfl dX11_areAlikeUpTo_5 rfl ?_
  refine jo_cV_I_p (pc := 6) (μ' := mu_X11_n) (fx := f_X11_n σ) (As := []) (c_X11_n hw hN) (ok_X11_n) (ltb rfl) (all3 gw_1441 gw_1443 gw_68) (ik_306 hw hN) (by decide) (q := (RX11, TX11, 39)) rfl rfl rfl rfl (Nat.le_of_ble_eq_true rfl) dX11_areAlikeUpTo_6 (fun v2 => ?_)
  refine jo_icmp_ge (pc := 9) dX11_areAlikeUpTo_9 (tgt := 48) rfl ?_ ?_
  · refine jo_iconst (pc := 48) dX11_areAlikeUpTo_48 (ic_i_1) ?_
    exact jo_breturn (pc := 49) (b := true) rfl rfl dX11_areAlikeUpTo_49
  · refine jo_aload_n (pc := 12) 0 rfl dX11_areAlikeUpTo_12 rfl ?_
    refine jo_iload (pc := 13) 4 rfl dX11_areAlikeUpTo_13 ?_
    refine jo_cV_I_p (pc := 15) (μ' := mu_X11_weight) (fx := f_X11_weight σ i1) (As := [.int i1]) (c_X11_weight hw hN) (ok_X11_weight) (ltb rfl) (all3 gw_1446 gw_1448 gw_69) (ik_306 hw hN) (by decide) (q := (RX11, TX11, 39)) rfl rfl rfl rfl (Nat.le_of_ble_eq_true rfl) dX11_areAlikeUpTo_15 (fun v3 => ?_)
    refine jo_iload_n (pc := 18) 1 rfl dX11_areAlikeUpTo_18 rfl ?_
    refine jo_joinS (S := Unit) (fun (z3 : Unit) => σ) (fun (z3 : Unit) => [(0, .ref (adr w 306)), (1, .int x0), (2, .int x1), (3, .int x2), (4, .int i1)]) (fun (z3 : Unit) => []) 42 ?_ (fun h42_3 => ?_)
    · intro _
      show JO w mu_X11_areAlikeUpTo vB σ [(0, .ref (adr w 306)), (1, .int x0), (2, .int x1), (3, .int x2), (4, .int i1)] [] 42 (j_X11_areAlikeUpTo_42 i1) _
      unfold j_X11_areAlikeUpTo_42
      refine jo_iinc (pc := 42) (lv' := [(4, .int (i1 + 1)), (0, .ref (adr w 306)), (1, .int x0), (2, .int x1), (3, .int x2)]) 4 rfl dX11_areAlikeUpTo_42 (congrArg (fun z => i1 + z) (ic_i_1)) (ltb rfl) rfl ?_
      refine jo_goto (pc := 45) dX11_areAlikeUpTo_45 (tgt := 3) rfl ?_
      refine jo_lv (lv' := [(0, .ref (adr w 306)), (1, .int x0), (2, .int x1), (3, .int x2), (4, .int (i1 + 1))]) [1, 2, 3, 4, 0] rfl ?_
      exact jo_leaf (by rfl) (hF3_1 (i1 + 1))
    · refine jo_icmp_gt (pc := 19) dX11_areAlikeUpTo_19 (tgt := 42) rfl ?_ ?_
      · exact jo_leaf (by rfl) (h42_3 ())
      · refine jo_aload_n (pc := 22) 0 rfl dX11_areAlikeUpTo_22 rfl ?_
        refine jo_iload_n (pc := 23) 2 rfl dX11_areAlikeUpTo_23 rfl ?_
        refine jo_iload (pc := 24) 4 rfl dX11_areAlikeUpTo_24 ?_
        refine jo_cV_J_p (pc := 26) (μ' := mu_X11_of) (fx := f_X11_of σ x1 i1) (As := [.int x1, .int i1]) (c_X11_of hw hN) (ok_X11_of) (ltb rfl) (all3 gw_1527 gw_1529 gw_87) (ik_306 hw hN) (by decide) (q := (RX11, TX11, 39)) rfl rfl rfl rfl (Nat.le_of_ble_eq_true rfl) dX11_areAlikeUpTo_26 (fun v4 => ?_)
        refine jo_aload_n (pc := 29) 0 rfl dX11_areAlikeUpTo_29 rfl ?_
        refine jo_iload_n (pc := 30) 3 rfl dX11_areAlikeUpTo_30 rfl ?_
        refine jo_iload (pc := 31) 4 rfl dX11_areAlikeUpTo_31 ?_
        refine jo_cV_J_p (pc := 33) (μ' := mu_X11_of) (fx := f_X11_of σ x2 i1) (As := [.int x2, .int i1]) (c_X11_of hw hN) (ok_X11_of) (ltb rfl) (all3 gw_1527 gw_1529 gw_87) (ik_306 hw hN) (by decide) (q := (RX11, TX11, 39)) rfl rfl rfl rfl (Nat.le_of_ble_eq_true rfl) dX11_areAlikeUpTo_33 (fun v5 => ?_)
        refine jo_lcmp_eq (pc := 36) dX11_areAlikeUpTo_36 dX11_areAlikeUpTo_37 (tgt := 42) rfl ?_ ?_
        · exact jo_leaf (by rfl) (h42_3 ())
        · refine jo_iconst (pc := 40) dX11_areAlikeUpTo_40 (ic_i_0) ?_
          exact jo_breturn (pc := 41) (b := false) rfl rfl dX11_areAlikeUpTo_41
theorem c_X11_areAlikeUpTo {w : Wd} (hw : WOK w) (hN : wn w = NT) {σ : Mem} {x0 : Int32} {x1 : Int32} {x2 : Int32} : ∀ r, f_X11_areAlikeUpTo σ x0 x1 x2 = some r → MC w mu_X11_areAlikeUpTo (vB r) [.ref (adr w 306), .int x0, .int x1, .int x2] σ σ := mc_ofP ok_X11_areAlikeUpTo rfl (Nat.le_of_ble_eq_true rfl) (t_X11_areAlikeUpTo hw hN)
abbrev mu_X11_laysDue : MD := (yX11_laysDue, cX11_laysDue, 5, none, 1)
theorem ok_X11_laysDue : MOK mu_X11_laysDue 3 := ⟨gw_1897, gw_171, (by decide +kernel : plainFor yX11_laysDue = true), ⟨(by decide +kernel : yX11_laysDue.cls ≠ "java/lang/invoke/MethodHandle"), (by decide +kernel : yX11_laysDue.cls ≠ "java/lang/invoke/VarHandle"), (by decide +kernel : (parseMethodDescriptor yX11_laysDue.desc).map (fun d => d.parameters.length) = some 3)⟩, Nat.le_of_ble_eq_true rfl⟩
noncomputable def j_X11_laysDue_68 (i3 : Int32) (σ6 : Mem) : Option ((Mem × Int32) ⊕ Mem) :=
  some (Sum.inl (σ6, i3 + 1))
noncomputable def l_X11_laysDue_27 (x0 : Int32) (x1 : Int32) (x2 : Int32) (σ2 : Mem) (i3 : Int32) : Option ((Mem × Int32) ⊕ Mem) :=
  (f_X11_n σ2).bind (fun (v4 : Int32) => if v4 ≤ i3 then (some (Sum.inr σ2)) else ((f_X11_weight σ2 i3).bind (fun (v5 : Int32) => (if v5 = x2 then ((f_X11_of σ2 x1 i3).bind (fun (v7 : Int64) => (f_X11_of σ2 x0 i3).bind (fun (v8 : Int64) => pL σ2 321 i3 (v7 - v8) (fun (σ9 : Mem) => some σ9)))) else (some σ2) : Option Mem).bind (fun (z6 : Mem) => j_X11_laysDue_68 i3 z6))))
noncomputable def j_X11_laysDue_24 (x0 : Int32) (x1 : Int32) (x2 : Int32) (σ1 : Mem) : Option Mem :=
  loopO (fun (z3 : (Mem × Int32)) => l_X11_laysDue_27 x0 x1 x2 z3.1 z3.2) (σ1, 0)
noncomputable def l_X11_laysDue_3 (σ10 : Mem) (i11 : Int32) : Option ((Mem × Int32) ⊕ Mem) :=
  if 18 ≤ i11 then (some (Sum.inr σ10)) else (pL σ10 321 i11 0 (fun (σ12 : Mem) => some (Sum.inl (σ12, i11 + 1))))
noncomputable def f_X11_laysDue (σ : Mem) (x0 : Int32) (x1 : Int32) (x2 : Int32) : Option Mem :=
  (loopO (fun (z11 : (Mem × Int32)) => l_X11_laysDue_3 z11.1 z11.2) (σ, 0) : Option Mem).bind (fun (z1 : Mem) => j_X11_laysDue_24 x0 x1 x2 z1)
theorem t_X11_laysDue {w : Wd} (hw : WOK w) (hN : wn w = NT) {σ : Mem} {x0 : Int32} {x1 : Int32} {x2 : Int32} : JO w mu_X11_laysDue vV σ [(0, .ref (adr w 306)), (1, .int x0), (2, .int x1), (3, .int x2)] [] 0 (f_X11_laysDue σ x0 x1 x2) (fun z => some ((), z)) := by
  unfold f_X11_laysDue
  refine jo_iconst (pc := 0) dX11_laysDue_0 (ic_i_0) ?_
  refine jo_istore (pc := 1) (lv' := [(4, .int 0), (0, .ref (adr w 306)), (1, .int x0), (2, .int x1), (3, .int x2)]) dX11_laysDue_1 (ltb rfl) rfl ?_
  refine jo_join1 (S := Mem) (fun (z1 : Mem) => z1) (fun (z1 : Mem) => [(0, .ref (adr w 306)), (1, .int x0), (2, .int x1), (3, .int x2)]) (fun (z1 : Mem) => []) 24 ?_ (fun h24_1 => ?_)
  · intro σ1
    show JO w mu_X11_laysDue vV σ1 [(0, .ref (adr w 306)), (1, .int x0), (2, .int x1), (3, .int x2)] [] 24 (j_X11_laysDue_24 x0 x1 x2 σ1) _
    unfold j_X11_laysDue_24
    refine jo_iconst (pc := 24) dX11_laysDue_24 (ic_i_0) ?_
    refine jo_istore (pc := 25) (lv' := [(4, .int 0), (0, .ref (adr w 306)), (1, .int x0), (2, .int x1), (3, .int x2)]) dX11_laysDue_25 (ltb rfl) rfl ?_
    refine jo_lv (lv' := [(0, .ref (adr w 306)), (1, .int x0), (2, .int x1), (3, .int x2), (4, .int 0)]) [1, 2, 3, 4, 0] rfl ?_
    refine jo_loop (X := Mem) (fun (z3 : (Mem × Int32)) => z3.1) (fun (z3 : (Mem × Int32)) => [(0, .ref (adr w 306)), (1, .int x0), (2, .int x1), (3, .int x2), (4, .int z3.2)]) (body := (fun (z3 : (Mem × Int32)) => l_X11_laysDue_27 x0 x1 x2 z3.1 z3.2)) (fun F27_3 hF27_3 s => ?_) (σ1, 0)
    obtain ⟨σ2, i3⟩ := s
    show JO w mu_X11_laysDue vV σ2 [(0, .ref (adr w 306)), (1, .int x0), (2, .int x1), (3, .int x2), (4, .int i3)] [] 27 (l_X11_laysDue_27 x0 x1 x2 σ2 i3) _
    unfold l_X11_laysDue_27
    refine jo_iload (pc := 27) 4 rfl dX11_laysDue_27 ?_
    refine jo_aload_n (pc := 29) 0 rfl dX11_laysDue_29 rfl ?_
    refine jo_cV_I_p (pc := 30) (μ' := mu_X11_n) (fx := f_X11_n σ2) (As := []) (c_X11_n hw hN) (ok_X11_n) (ltb rfl) (all3 gw_1441 gw_1443 gw_68) (ik_306 hw hN) (by decide) (q := (RX11, TX11, 39)) rfl rfl rfl rfl (Nat.le_of_ble_eq_true rfl) dX11_laysDue_30 (fun v4 => ?_)
    refine jo_icmp_ge (pc := 33) dX11_laysDue_33 (tgt := 74) rfl ?_ ?_
    · exact jo_return (pc := 74) rfl rfl dX11_laysDue_74
    · refine jo_aload_n (pc := 36) 0 rfl dX11_laysDue_36 rfl ?_
      refine jo_iload (pc := 37) 4 rfl dX11_laysDue_37 ?_
      refine jo_cV_I_p (pc := 39) (μ' := mu_X11_weight) (fx := f_X11_weight σ2 i3) (As := [.int i3]) (c_X11_weight hw hN) (ok_X11_weight) (ltb rfl) (all3 gw_1446 gw_1448 gw_69) (ik_306 hw hN) (by decide) (q := (RX11, TX11, 39)) rfl rfl rfl rfl (Nat.le_of_ble_eq_true rfl) dX11_laysDue_39 (fun v5 => ?_)
      refine jo_iload_n (pc := 42) 3 rfl dX11_laysDue_42 rfl ?_
      refine jo_join1 (S := Mem) (fun (z6 : Mem) => z6) (fun (z6 : Mem) => [(0, .ref (adr w 306)), (1, .int x0), (2, .int x1), (3, .int x2), (4, .int i3)]) (fun (z6 : Mem) => []) 68 ?_ (fun h68_6 => ?_)
      · intro σ6
        show JO w mu_X11_laysDue vV σ6 [(0, .ref (adr w 306)), (1, .int x0), (2, .int x1), (3, .int x2), (4, .int i3)] [] 68 (j_X11_laysDue_68 i3 σ6) _
        unfold j_X11_laysDue_68
        refine jo_iinc (pc := 68) (lv' := [(4, .int (i3 + 1)), (0, .ref (adr w 306)), (1, .int x0), (2, .int x1), (3, .int x2)]) 4 rfl dX11_laysDue_68 (congrArg (fun z => i3 + z) (ic_i_1)) (ltb rfl) rfl ?_
        refine jo_goto (pc := 71) dX11_laysDue_71 (tgt := 27) rfl ?_
        refine jo_lv (lv' := [(0, .ref (adr w 306)), (1, .int x0), (2, .int x1), (3, .int x2), (4, .int (i3 + 1))]) [1, 2, 3, 4, 0] rfl ?_
        exact jo_leaf (by rfl) (hF27_3 (σ6, i3 + 1))
      · refine jo_icmp_ne (pc := 43) dX11_laysDue_43 (tgt := 68) rfl ?_ ?_
        · exact jo_leaf (by rfl) (h68_6 σ2)
        · refine jo_aload_n (pc := 46) 0 rfl dX11_laysDue_46 rfl ?_
          refine jo_getrE (pc := 47) ok_11_32 (ik_306 hw hN) rf_306_32 gw_1325 dX11_laysDue_47 ?_
          refine jo_iload (pc := 50) 4 rfl dX11_laysDue_50 ?_
          refine jo_aload_n (pc := 52) 0 rfl dX11_laysDue_52 rfl ?_
          refine jo_iload_n (pc := 53) 2 rfl dX11_laysDue_53 rfl ?_
          refine jo_iload (pc := 54) 4 rfl dX11_laysDue_54 ?_
          refine jo_cV_J_p (pc := 56) (μ' := mu_X11_of) (fx := f_X11_of σ2 x1 i3) (As := [.int x1, .int i3]) (c_X11_of hw hN) (ok_X11_of) (ltb rfl) (all3 gw_1527 gw_1529 gw_87) (ik_306 hw hN) (by decide) (q := (RX11, TX11, 39)) rfl rfl rfl rfl (Nat.le_of_ble_eq_true rfl) dX11_laysDue_56 (fun v7 => ?_)
          refine jo_aload_n (pc := 59) 0 rfl dX11_laysDue_59 rfl ?_
          refine jo_iload_n (pc := 60) 1 rfl dX11_laysDue_60 rfl ?_
          refine jo_iload (pc := 61) 4 rfl dX11_laysDue_61 ?_
          refine jo_cV_J_p (pc := 63) (μ' := mu_X11_of) (fx := f_X11_of σ2 x0 i3) (As := [.int x0, .int i3]) (c_X11_of hw hN) (ok_X11_of) (ltb rfl) (all3 gw_1527 gw_1529 gw_87) (ik_306 hw hN) (by decide) (q := (RX11, TX11, 39)) rfl rfl rfl rfl (Nat.le_of_ble_eq_true rfl) dX11_laysDue_63 (fun v8 => ?_)
          refine jo_lsub (pc := 66) dX11_laysDue_66 ?_
          refine jo_last (pc := 67) (ik_321 hw hN) dX11_laysDue_67 (fun σ9 => ?_)
          exact jo_leaf (by rfl) (h68_6 σ9)
  · refine jo_lv (lv' := [(0, .ref (adr w 306)), (1, .int x0), (2, .int x1), (3, .int x2), (4, .int 0)]) [1, 2, 3, 4, 0] rfl ?_
    refine jo_loop (X := Mem) (fun (z11 : (Mem × Int32)) => z11.1) (fun (z11 : (Mem × Int32)) => [(0, .ref (adr w 306)), (1, .int x0), (2, .int x1), (3, .int x2), (4, .int z11.2)]) (body := (fun (z11 : (Mem × Int32)) => l_X11_laysDue_3 z11.1 z11.2)) (fun F3_11 hF3_11 s => ?_) (σ, 0)
    obtain ⟨σ10, i11⟩ := s
    show JO w mu_X11_laysDue vV σ10 [(0, .ref (adr w 306)), (1, .int x0), (2, .int x1), (3, .int x2), (4, .int i11)] [] 3 (l_X11_laysDue_3 σ10 i11) _
    unfold l_X11_laysDue_3
    refine jo_iload (pc := 3) 4 rfl dX11_laysDue_3 ?_
    refine jo_bipush (pc := 5) dX11_laysDue_5 (ic_b_18) ?_
    refine jo_icmp_ge (pc := 7) dX11_laysDue_7 (tgt := 24) rfl ?_ ?_
    · refine jo_lv (lv' := [(0, .ref (adr w 306)), (1, .int x0), (2, .int x1), (3, .int x2)]) [0, 1, 2, 3] rfl ?_
      exact jo_leaf (by rfl) (h24_1 σ10)
    · refine jo_aload_n (pc := 10) 0 rfl dX11_laysDue_10 rfl ?_
      refine jo_getrE (pc := 11) ok_11_32 (ik_306 hw hN) rf_306_32 gw_1325 dX11_laysDue_11 ?_
      refine jo_iload (pc := 14) 4 rfl dX11_laysDue_14 ?_
      refine jo_lconst (pc := 16) dX11_laysDue_16 (ic_l_0) ?_
      refine jo_last (pc := 17) (ik_321 hw hN) dX11_laysDue_17 (fun σ12 => ?_)
      refine jo_iinc (pc := 18) (lv' := [(4, .int (i11 + 1)), (0, .ref (adr w 306)), (1, .int x0), (2, .int x1), (3, .int x2)]) 4 rfl dX11_laysDue_18 (congrArg (fun z => i11 + z) (ic_i_1)) (ltb rfl) rfl ?_
      refine jo_goto (pc := 21) dX11_laysDue_21 (tgt := 3) rfl ?_
      refine jo_lv (lv' := [(0, .ref (adr w 306)), (1, .int x0), (2, .int x1), (3, .int x2), (4, .int (i11 + 1))]) [1, 2, 3, 4, 0] rfl ?_
      exact jo_leaf (by rfl) (hF3_11 (σ12, i11 + 1))
theorem c_X11_laysDue {w : Wd} (hw : WOK w) (hN : wn w = NT) {σ : Mem} {x0 : Int32} {x1 : Int32} {x2 : Int32} : ∀ σ', f_X11_laysDue σ x0 x1 x2 = some σ' → MC w mu_X11_laysDue none [.ref (adr w 306), .int x0, .int x1, .int x2] σ σ' := mc_ofV ok_X11_laysDue rfl (Nat.le_of_ble_eq_true rfl) (t_X11_laysDue hw hN)
abbrev mu_X11_areAlikeInLast : MD := (yX11_areAlikeInLast, cX11_areAlikeInLast, 3, some .boolean, 7)
theorem ok_X11_areAlikeInLast : MOK mu_X11_areAlikeInLast 0 := ⟨gw_1901, gw_171, (by decide +kernel : plainFor yX11_areAlikeInLast = true), ⟨(by decide +kernel : yX11_areAlikeInLast.cls ≠ "java/lang/invoke/MethodHandle"), (by decide +kernel : yX11_areAlikeInLast.cls ≠ "java/lang/invoke/VarHandle"), (by decide +kernel : (parseMethodDescriptor yX11_areAlikeInLast.desc).map (fun d => d.parameters.length) = some 0)⟩, Nat.le_of_ble_eq_true rfl⟩
noncomputable def j_X11_areAlikeInLast_117 (σ4 : Mem) : Option (Bool × Mem) :=
  (f_X11_laysDue σ4 2 1 3).bind (fun (σ5 : Mem) => bq (f_X11_canMake σ5) (fun (b6 : Bool) (σ7 : Mem) => some (b6, σ7)))
noncomputable def j_X11_areAlikeInLast_111 (i9 : Int32) (σ12 : Mem) : Option ((Mem × Int32) ⊕ Mem) :=
  some (Sum.inl (σ12, i9 + 1))
noncomputable def l_X11_areAlikeInLast_75 (σ8 : Mem) (i9 : Int32) : Option ((Mem × Int32) ⊕ Mem) :=
  (f_X11_n σ8).bind (fun (v10 : Int32) => if v10 ≤ i9 then (some (Sum.inr σ8)) else ((f_X11_weight σ8 i9).bind (fun (v11 : Int32) => (if v11 = 2 then ((f_X11_letterAt σ8 40 i9 1).bind (fun (σ13 : Mem) => (f_X11_adds σ13 2 40 3).bind (fun (σ14 : Mem) => some σ14))) else (some σ8) : Option Mem).bind (fun (z12 : Mem) => j_X11_areAlikeInLast_111 i9 z12))))
noncomputable def j_X11_areAlikeInLast_73 (σ3 : Mem) : Option (Bool × Mem) :=
  (loopO (fun (z9 : (Mem × Int32)) => l_X11_areAlikeInLast_75 z9.1 z9.2) (σ3, 0) : Option Mem).bind (fun (z4 : Mem) => j_X11_areAlikeInLast_117 z4)
noncomputable def j_X11_areAlikeInLast_59 (i16 : Int32) (σ18 : Mem) : Option ((Mem × Int32) ⊕ Mem) :=
  (f_X11_adds σ18 2 40 3).bind (fun (σ19 : Mem) => some (Sum.inl (σ19, i16 + 1)))
noncomputable def l_X11_areAlikeInLast_29 (i16 : Int32) (σ20 : Mem) (i21 : Int32) : Option ((Mem × Int32) ⊕ Mem) :=
  if 6 ≤ i21 then (some (Sum.inr σ20)) else (gL σ20 322 ((6 * i16) + i21) (fun (v22 : Int64) => (f_X11_puts σ20 40 i21 v22).bind (fun (σ23 : Mem) => some (Sum.inl (σ23, i21 + 1)))))
noncomputable def l_X11_areAlikeInLast_19 (σ15 : Mem) (i16 : Int32) : Option ((Mem × Int32) ⊕ Mem) :=
  gF σ15 306 36 (fun (v17 : Int32) => if v17 ≤ i16 then (some (Sum.inr σ15)) else ((loopO (fun (z21 : (Mem × Int32)) => l_X11_areAlikeInLast_29 i16 z21.1 z21.2) (σ15, 0) : Option Mem).bind (fun (z18 : Mem) => j_X11_areAlikeInLast_59 i16 z18)))
noncomputable def f_X11_areAlikeInLast (σ : Mem) : Option (Bool × Mem) :=
  (f_X11_areAlikeUpTo σ 2 2 1).bind (fun (b1 : Bool) => if b1 then pF σ 306 31 0 (fun (σ2 : Mem) => (loopO (fun (z16 : (Mem × Int32)) => l_X11_areAlikeInLast_19 z16.1 z16.2) (σ2, 0) : Option Mem).bind (fun (z3 : Mem) => j_X11_areAlikeInLast_73 z3)) else some (false, σ))
theorem t_X11_areAlikeInLast {w : Wd} (hw : WOK w) (hN : wn w = NT) {σ : Mem} : JO w mu_X11_areAlikeInLast vB σ [(0, .ref (adr w 306))] [] 0 (f_X11_areAlikeInLast σ) some := by
  unfold f_X11_areAlikeInLast
  refine jo_aload_n (pc := 0) 0 rfl dX11_areAlikeInLast_0 rfl ?_
  refine jo_iconst (pc := 1) dX11_areAlikeInLast_1 (ic_i_2) ?_
  refine jo_iconst (pc := 2) dX11_areAlikeInLast_2 (ic_i_2) ?_
  refine jo_iconst (pc := 3) dX11_areAlikeInLast_3 (ic_i_1) ?_
  refine jo_cV_Z_p (pc := 4) (μ' := mu_X11_areAlikeUpTo) (fx := f_X11_areAlikeUpTo σ 2 2 1) (As := [.int 2, .int 2, .int 1]) (c_X11_areAlikeUpTo hw hN) (ok_X11_areAlikeUpTo) (ltb rfl) (all3 gw_1882 gw_1884 gw_148) (ik_306 hw hN) (by decide) (q := (RX11, TX11, 39)) rfl rfl rfl rfl (Nat.le_of_ble_eq_true rfl) dX11_areAlikeInLast_4 (fun b1 => ?_)
  refine jo_ifz_ne (pc := 7) dX11_areAlikeInLast_7 (tgt := 12) rfl ?_ ?_
  · refine jo_aload_n (pc := 12) 0 rfl dX11_areAlikeInLast_12 rfl ?_
    refine jo_iconst (pc := 13) dX11_areAlikeInLast_13 (ic_i_0) ?_
    refine jo_putf (pc := 14) ok_11_31 okp_11_31 (ik_306 hw hN) gw_1324 dX11_areAlikeInLast_14 (fun σ2 => ?_)
    refine jo_iconst (pc := 17) dX11_areAlikeInLast_17 (ic_i_0) ?_
    refine jo_istore_n (pc := 18) (lv' := [(1, .int 0), (0, .ref (adr w 306))]) dX11_areAlikeInLast_18 rfl (ltb rfl) rfl ?_
    refine jo_join1 (S := Mem) (fun (z3 : Mem) => z3) (fun (z3 : Mem) => [(0, .ref (adr w 306))]) (fun (z3 : Mem) => []) 73 ?_ (fun h73_3 => ?_)
    · intro σ3
      show JO w mu_X11_areAlikeInLast vB σ3 [(0, .ref (adr w 306))] [] 73 (j_X11_areAlikeInLast_73 σ3) _
      unfold j_X11_areAlikeInLast_73
      refine jo_iconst (pc := 73) dX11_areAlikeInLast_73 (ic_i_0) ?_
      refine jo_istore_n (pc := 74) (lv' := [(1, .int 0), (0, .ref (adr w 306))]) dX11_areAlikeInLast_74 rfl (ltb rfl) rfl ?_
      refine jo_join1 (S := Mem) (fun (z4 : Mem) => z4) (fun (z4 : Mem) => [(0, .ref (adr w 306))]) (fun (z4 : Mem) => []) 117 ?_ (fun h117_4 => ?_)
      · intro σ4
        show JO w mu_X11_areAlikeInLast vB σ4 [(0, .ref (adr w 306))] [] 117 (j_X11_areAlikeInLast_117 σ4) _
        unfold j_X11_areAlikeInLast_117
        refine jo_aload_n (pc := 117) 0 rfl dX11_areAlikeInLast_117 rfl ?_
        refine jo_iconst (pc := 118) dX11_areAlikeInLast_118 (ic_i_2) ?_
        refine jo_iconst (pc := 119) dX11_areAlikeInLast_119 (ic_i_1) ?_
        refine jo_iconst (pc := 120) dX11_areAlikeInLast_120 (ic_i_3) ?_
        refine jo_cV_V_i (pc := 121) (μ' := mu_X11_laysDue) (fx := f_X11_laysDue σ4 2 1 3) (As := [.int 2, .int 1, .int 3]) (c_X11_laysDue hw hN) (ok_X11_laysDue) (ltb rfl) (all3 gw_1894 gw_1896 gw_151) (ik_306 hw hN) (by decide) (q := (RX11, TX11, 39)) rfl rfl rfl rfl (Nat.le_of_ble_eq_true rfl) dX11_areAlikeInLast_121 (fun σ5 => ?_)
        refine jo_aload_n (pc := 124) 0 rfl dX11_areAlikeInLast_124 rfl ?_
        refine jo_cV_Z_i (pc := 125) (μ' := mu_X11_canMake) (fx := f_X11_canMake σ5) (As := []) (c_X11_canMake hw hN) (ok_X11_canMake) (ltb rfl) (all3 gw_1829 gw_1831 gw_138) (ik_306 hw hN) (by decide) (q := (RX11, TX11, 39)) rfl rfl rfl rfl (Nat.le_of_ble_eq_true rfl) dX11_areAlikeInLast_125 (fun b6 σ7 => ?_)
        exact jo_breturn (pc := 128) (b := b6) rfl rfl dX11_areAlikeInLast_128
      · refine jo_lv (lv' := [(0, .ref (adr w 306)), (1, .int 0)]) [1, 0] rfl ?_
        refine jo_loop (X := Mem) (fun (z9 : (Mem × Int32)) => z9.1) (fun (z9 : (Mem × Int32)) => [(0, .ref (adr w 306)), (1, .int z9.2)]) (body := (fun (z9 : (Mem × Int32)) => l_X11_areAlikeInLast_75 z9.1 z9.2)) (fun F75_9 hF75_9 s => ?_) (σ3, 0)
        obtain ⟨σ8, i9⟩ := s
        show JO w mu_X11_areAlikeInLast vB σ8 [(0, .ref (adr w 306)), (1, .int i9)] [] 75 (l_X11_areAlikeInLast_75 σ8 i9) _
        unfold l_X11_areAlikeInLast_75
        refine jo_iload_n (pc := 75) 1 rfl dX11_areAlikeInLast_75 rfl ?_
        refine jo_aload_n (pc := 76) 0 rfl dX11_areAlikeInLast_76 rfl ?_
        refine jo_cV_I_p (pc := 77) (μ' := mu_X11_n) (fx := f_X11_n σ8) (As := []) (c_X11_n hw hN) (ok_X11_n) (ltb rfl) (all3 gw_1441 gw_1443 gw_68) (ik_306 hw hN) (by decide) (q := (RX11, TX11, 39)) rfl rfl rfl rfl (Nat.le_of_ble_eq_true rfl) dX11_areAlikeInLast_77 (fun v10 => ?_)
        refine jo_icmp_ge (pc := 80) dX11_areAlikeInLast_80 (tgt := 117) rfl ?_ ?_
        · refine jo_lv (lv' := [(0, .ref (adr w 306))]) [0] rfl ?_
          exact jo_leaf (by rfl) (h117_4 σ8)
        · refine jo_aload_n (pc := 83) 0 rfl dX11_areAlikeInLast_83 rfl ?_
          refine jo_iload_n (pc := 84) 1 rfl dX11_areAlikeInLast_84 rfl ?_
          refine jo_cV_I_p (pc := 85) (μ' := mu_X11_weight) (fx := f_X11_weight σ8 i9) (As := [.int i9]) (c_X11_weight hw hN) (ok_X11_weight) (ltb rfl) (all3 gw_1446 gw_1448 gw_69) (ik_306 hw hN) (by decide) (q := (RX11, TX11, 39)) rfl rfl rfl rfl (Nat.le_of_ble_eq_true rfl) dX11_areAlikeInLast_85 (fun v11 => ?_)
          refine jo_iconst (pc := 88) dX11_areAlikeInLast_88 (ic_i_2) ?_
          refine jo_join1 (S := Mem) (fun (z12 : Mem) => z12) (fun (z12 : Mem) => [(0, .ref (adr w 306)), (1, .int i9)]) (fun (z12 : Mem) => []) 111 ?_ (fun h111_12 => ?_)
          · intro σ12
            show JO w mu_X11_areAlikeInLast vB σ12 [(0, .ref (adr w 306)), (1, .int i9)] [] 111 (j_X11_areAlikeInLast_111 i9 σ12) _
            unfold j_X11_areAlikeInLast_111
            refine jo_iinc (pc := 111) (lv' := [(1, .int (i9 + 1)), (0, .ref (adr w 306))]) 1 rfl dX11_areAlikeInLast_111 (congrArg (fun z => i9 + z) (ic_i_1)) (ltb rfl) rfl ?_
            refine jo_goto (pc := 114) dX11_areAlikeInLast_114 (tgt := 75) rfl ?_
            refine jo_lv (lv' := [(0, .ref (adr w 306)), (1, .int (i9 + 1))]) [1, 0] rfl ?_
            exact jo_leaf (by rfl) (hF75_9 (σ12, i9 + 1))
          · refine jo_icmp_eq (pc := 89) dX11_areAlikeInLast_89 (tgt := 95) rfl ?_ ?_
            · refine jo_aload_n (pc := 95) 0 rfl dX11_areAlikeInLast_95 rfl ?_
              refine jo_bipush (pc := 96) dX11_areAlikeInLast_96 (ic_b_40) ?_
              refine jo_iload_n (pc := 98) 1 rfl dX11_areAlikeInLast_98 rfl ?_
              refine jo_lconst (pc := 99) dX11_areAlikeInLast_99 (ic_l_1) ?_
              refine jo_cV_V_i (pc := 100) (μ' := mu_X11_letterAt) (fx := f_X11_letterAt σ8 40 i9 1) (As := [.int 40, .int i9, .long 1]) (c_X11_letterAt hw hN) (ok_X11_letterAt) (ltb rfl) (all3 gw_1886 gw_1888 gw_149) (ik_306 hw hN) (by decide) (q := (RX11, TX11, 39)) rfl rfl rfl rfl (Nat.le_of_ble_eq_true rfl) dX11_areAlikeInLast_100 (fun σ13 => ?_)
              refine jo_aload_n (pc := 103) 0 rfl dX11_areAlikeInLast_103 rfl ?_
              refine jo_iconst (pc := 104) dX11_areAlikeInLast_104 (ic_i_2) ?_
              refine jo_bipush (pc := 105) dX11_areAlikeInLast_105 (ic_b_40) ?_
              refine jo_iconst (pc := 107) dX11_areAlikeInLast_107 (ic_i_3) ?_
              refine jo_cV_V_i (pc := 108) (μ' := mu_X11_adds) (fx := f_X11_adds σ13 2 40 3) (As := [.int 2, .int 40, .int 3]) (c_X11_adds hw hN) (ok_X11_adds) (ltb rfl) (all3 gw_1890 gw_1892 gw_150) (ik_306 hw hN) (by decide) (q := (RX11, TX11, 39)) rfl rfl rfl rfl (Nat.le_of_ble_eq_true rfl) dX11_areAlikeInLast_108 (fun σ14 => ?_)
              exact jo_leaf (by rfl) (h111_12 σ14)
            · refine jo_goto (pc := 92) dX11_areAlikeInLast_92 (tgt := 111) rfl ?_
              exact jo_leaf (by rfl) (h111_12 σ8)
    · refine jo_lv (lv' := [(0, .ref (adr w 306)), (1, .int 0)]) [1, 0] rfl ?_
      refine jo_loop (X := Mem) (fun (z16 : (Mem × Int32)) => z16.1) (fun (z16 : (Mem × Int32)) => [(0, .ref (adr w 306)), (1, .int z16.2)]) (body := (fun (z16 : (Mem × Int32)) => l_X11_areAlikeInLast_19 z16.1 z16.2)) (fun F19_16 hF19_16 s => ?_) (σ2, 0)
      obtain ⟨σ15, i16⟩ := s
      show JO w mu_X11_areAlikeInLast vB σ15 [(0, .ref (adr w 306)), (1, .int i16)] [] 19 (l_X11_areAlikeInLast_19 σ15 i16) _
      unfold l_X11_areAlikeInLast_19
      refine jo_iload_n (pc := 19) 1 rfl dX11_areAlikeInLast_19 rfl ?_
      refine jo_aload_n (pc := 20) 0 rfl dX11_areAlikeInLast_20 rfl ?_
      refine jo_getf (pc := 21) ok_11_36 (ik_306 hw hN) gw_1329 dX11_areAlikeInLast_21 (fun v17 => ?_)
      refine jo_icmp_ge (pc := 24) dX11_areAlikeInLast_24 (tgt := 73) rfl ?_ ?_
      · refine jo_lv (lv' := [(0, .ref (adr w 306))]) [0] rfl ?_
        exact jo_leaf (by rfl) (h73_3 σ15)
      · refine jo_iconst (pc := 27) dX11_areAlikeInLast_27 (ic_i_0) ?_
        refine jo_istore_n (pc := 28) (lv' := [(2, .int 0), (0, .ref (adr w 306)), (1, .int i16)]) dX11_areAlikeInLast_28 rfl (ltb rfl) rfl ?_
        refine jo_join1 (S := Mem) (fun (z18 : Mem) => z18) (fun (z18 : Mem) => [(0, .ref (adr w 306)), (1, .int i16)]) (fun (z18 : Mem) => []) 59 ?_ (fun h59_18 => ?_)
        · intro σ18
          show JO w mu_X11_areAlikeInLast vB σ18 [(0, .ref (adr w 306)), (1, .int i16)] [] 59 (j_X11_areAlikeInLast_59 i16 σ18) _
          unfold j_X11_areAlikeInLast_59
          refine jo_aload_n (pc := 59) 0 rfl dX11_areAlikeInLast_59 rfl ?_
          refine jo_iconst (pc := 60) dX11_areAlikeInLast_60 (ic_i_2) ?_
          refine jo_bipush (pc := 61) dX11_areAlikeInLast_61 (ic_b_40) ?_
          refine jo_iconst (pc := 63) dX11_areAlikeInLast_63 (ic_i_3) ?_
          refine jo_cV_V_i (pc := 64) (μ' := mu_X11_adds) (fx := f_X11_adds σ18 2 40 3) (As := [.int 2, .int 40, .int 3]) (c_X11_adds hw hN) (ok_X11_adds) (ltb rfl) (all3 gw_1890 gw_1892 gw_150) (ik_306 hw hN) (by decide) (q := (RX11, TX11, 39)) rfl rfl rfl rfl (Nat.le_of_ble_eq_true rfl) dX11_areAlikeInLast_64 (fun σ19 => ?_)
          refine jo_iinc (pc := 67) (lv' := [(1, .int (i16 + 1)), (0, .ref (adr w 306))]) 1 rfl dX11_areAlikeInLast_67 (congrArg (fun z => i16 + z) (ic_i_1)) (ltb rfl) rfl ?_
          refine jo_goto (pc := 70) dX11_areAlikeInLast_70 (tgt := 19) rfl ?_
          refine jo_lv (lv' := [(0, .ref (adr w 306)), (1, .int (i16 + 1))]) [1, 0] rfl ?_
          exact jo_leaf (by rfl) (hF19_16 (σ19, i16 + 1))
        · refine jo_lv (lv' := [(0, .ref (adr w 306)), (1, .int i16), (2, .int 0)]) [1, 2, 0] rfl ?_
          refine jo_loop (X := Mem) (fun (z21 : (Mem × Int32)) => z21.1) (fun (z21 : (Mem × Int32)) => [(0, .ref (adr w 306)), (1, .int i16), (2, .int z21.2)]) (body := (fun (z21 : (Mem × Int32)) => l_X11_areAlikeInLast_29 i16 z21.1 z21.2)) (fun F29_21 hF29_21 s => ?_) (σ15, 0)
          obtain ⟨σ20, i21⟩ := s
          show JO w mu_X11_areAlikeInLast vB σ20 [(0, .ref (adr w 306)), (1, .int i16), (2, .int i21)] [] 29 (l_X11_areAlikeInLast_29 i16 σ20 i21) _
          unfold l_X11_areAlikeInLast_29
          refine jo_iload_n (pc := 29) 2 rfl dX11_areAlikeInLast_29 rfl ?_
          refine jo_bipush (pc := 30) dX11_areAlikeInLast_30 (ic_b_6) ?_
          refine jo_icmp_ge (pc := 32) dX11_areAlikeInLast_32 (tgt := 59) rfl ?_ ?_
          · refine jo_lv (lv' := [(0, .ref (adr w 306)), (1, .int i16)]) [0, 1] rfl ?_
            exact jo_leaf (by rfl) (h59_18 σ20)
          · refine jo_aload_n (pc := 35) 0 rfl dX11_areAlikeInLast_35 rfl ?_
            refine jo_bipush (pc := 36) dX11_areAlikeInLast_36 (ic_b_40) ?_
            refine jo_iload_n (pc := 38) 2 rfl dX11_areAlikeInLast_38 rfl ?_
            refine jo_aload_n (pc := 39) 0 rfl dX11_areAlikeInLast_39 rfl ?_
            refine jo_getrE (pc := 40) ok_11_35 (ik_306 hw hN) rf_306_35 gw_1328 dX11_areAlikeInLast_40 ?_
            refine jo_bipush (pc := 43) dX11_areAlikeInLast_43 (ic_b_6) ?_
            refine jo_iload_n (pc := 45) 1 rfl dX11_areAlikeInLast_45 rfl ?_
            refine jo_imul (pc := 46) dX11_areAlikeInLast_46 ?_
            refine jo_iload_n (pc := 47) 2 rfl dX11_areAlikeInLast_47 rfl ?_
            refine jo_iadd (pc := 48) dX11_areAlikeInLast_48 ?_
            refine jo_lald (pc := 49) (ik_322 hw hN) dX11_areAlikeInLast_49 (fun v22 => ?_)
            refine jo_cV_V_i (pc := 50) (μ' := mu_X11_puts) (fx := f_X11_puts σ20 40 i21 v22) (As := [.int 40, .int i21, .long v22]) (c_X11_puts hw hN) (ok_X11_puts) (ltb rfl) (all3 gw_1519 gw_1521 gw_85) (ik_306 hw hN) (by decide) (q := (RX11, TX11, 39)) rfl rfl rfl rfl (Nat.le_of_ble_eq_true rfl) dX11_areAlikeInLast_50 (fun σ23 => ?_)
            refine jo_iinc (pc := 53) (lv' := [(2, .int (i21 + 1)), (0, .ref (adr w 306)), (1, .int i16)]) 2 rfl dX11_areAlikeInLast_53 (congrArg (fun z => i21 + z) (ic_i_1)) (ltb rfl) rfl ?_
            refine jo_goto (pc := 56) dX11_areAlikeInLast_56 (tgt := 29) rfl ?_
            refine jo_lv (lv' := [(0, .ref (adr w 306)), (1, .int i16), (2, .int (i21 + 1))]) [1, 2, 0] rfl ?_
            exact jo_leaf (by rfl) (hF29_21 (σ23, i21 + 1))
  · refine jo_iconst (pc := 10) dX11_areAlikeInLast_10 (ic_i_0) ?_
    exact jo_breturn (pc := 11) (b := false) rfl rfl dX11_areAlikeInLast_11
theorem c_X11_areAlikeInLast {w : Wd} (hw : WOK w) (hN : wn w = NT) {σ : Mem} : ∀ r σ', f_X11_areAlikeInLast σ = some (r, σ') → MC w mu_X11_areAlikeInLast (vB r) [.ref (adr w 306)] σ σ' := mc_of ok_X11_areAlikeInLast rfl (Nat.le_of_ble_eq_true rfl) (t_X11_areAlikeInLast hw hN)
