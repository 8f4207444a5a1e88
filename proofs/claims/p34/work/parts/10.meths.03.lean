section
abbrev mu_X11_canMake : MD := (yX11_canMake, cX11_canMake, 2, some .boolean, 2)
theorem ok_X11_canMake : MOK mu_X11_canMake 0 := ⟨gw_1832, gw_171, (by decide +kernel : plainFor yX11_canMake = true), ⟨(by decide +kernel : yX11_canMake.cls ≠ "java/lang/invoke/MethodHandle"), (by decide +kernel : yX11_canMake.cls ≠ "java/lang/invoke/VarHandle"), (by decide +kernel : (parseMethodDescriptor yX11_canMake.desc).map (fun d => d.parameters.length) = some 0)⟩, Nat.le_of_ble_eq_true rfl⟩
noncomputable def j_X11_canMake_49 (i3 : Int32) (σ9 : Mem) : Option ((Mem × Int32) ⊕ (Bool × Mem)) :=
  some (Sum.inl (σ9, i3 + 1))
noncomputable def l_X11_canMake_7 (σ2 : Mem) (i3 : Int32) : Option ((Mem × Int32) ⊕ (Bool × Mem)) :=
  if 6 ≤ i3 then (some (Sum.inr (true, σ2))) else (pF σ2 306 33 0 (fun (σ4 : Mem) => gF σ4 306 34 (fun (v5 : Int32) => bq (f_X11_clearsAt σ4 v5 i3) (fun (b6 : Bool) (σ7 : Mem) => if b6 then gZ σ7 306 33 (fun (b8 : Bool) => (if b8 then gF σ7 306 34 (fun (v10 : Int32) => pF σ7 306 34 (v10 + 1) (fun (σ11 : Mem) => some σ11)) else some σ7 : Option Mem).bind (fun (z9 : Mem) => j_X11_canMake_49 i3 z9)) else some (Sum.inr (false, σ7))))))
noncomputable def f_X11_canMake (σ : Mem) : Option (Bool × Mem) :=
  pF σ 306 34 0 (fun (σ1 : Mem) => loopO (fun (z3 : (Mem × Int32)) => l_X11_canMake_7 z3.1 z3.2) (σ1, 0))
theorem t_X11_canMake {w : Wd} (hw : WOK w) (hN : wn w = NT) {σ : Mem} : JO w mu_X11_canMake vB σ [(0, .ref (adr w 306))] [] 0 (f_X11_canMake σ) some := by
  unfold f_X11_canMake
  refine jo_aload_n (pc := 0) 0 rfl dX11_canMake_0 rfl ?_
  refine jo_iconst (pc := 1) dX11_canMake_1 (ic_i_0) ?_
  refine jo_putf (pc := 2) ok_11_34 okp_11_34 (ik_306 hw hN) gw_1327 dX11_canMake_2 (fun σ1 => ?_)
  refine jo_iconst (pc := 5) dX11_canMake_5 (ic_i_0) ?_
  refine jo_istore_n (pc := 6) (lv' := [(1, .int 0), (0, .ref (adr w 306))]) dX11_canMake_6 rfl (ltb rfl) rfl ?_
  refine jo_lv (lv' := [(0, .ref (adr w 306)), (1, .int 0)]) [1, 0] rfl ?_
  refine jo_loop (X := (Bool × Mem)) (fun (z3 : (Mem × Int32)) => z3.1) (fun (z3 : (Mem × Int32)) => [(0, .ref (adr w 306)), (1, .int z3.2)]) (body := (fun (z3 : (Mem × Int32)) => l_X11_canMake_7 z3.1 z3.2)) (fun F7_3 hF7_3 s => ?_) (σ1, 0)
  obtain ⟨σ2, i3⟩ := s
  show JO w mu_X11_canMake vB σ2 [(0, .ref (adr w 306)), (1, .int i3)] [] 7 (l_X11_canMake_7 σ2 i3) _
  unfold l_X11_canMake_7
  refine jo_iload_n (pc := 7) 1 rfl dX11_canMake_7 rfl ?_
  refine jo_bipush (pc := 8) dX11_canMake_8 (ic_b_6) ?_
  refine jo_icmp_ge (pc := 10) dX11_canMake_10 (tgt := 55) rfl ?_ ?_
  · refine jo_iconst (pc := 55) dX11_canMake_55 (ic_i_1) ?_
    exact jo_breturn (pc := 56) (b := true) rfl rfl dX11_canMake_56
  · refine jo_aload_n (pc := 13) 0 rfl dX11_canMake_13 rfl ?_
    refine jo_iconst (pc := 14) dX11_canMake_14 (ic_i_0) ?_
    refine jo_putz01 (pc := 15) (by decide) ok_11_33 okp_11_33 (ik_306 hw hN) gw_1326 dX11_canMake_15 (fun σ4 => ?_)
    refine jo_aload_n (pc := 18) 0 rfl dX11_canMake_18 rfl ?_
    refine jo_aload_n (pc := 19) 0 rfl dX11_canMake_19 rfl ?_
    refine jo_getf (pc := 20) ok_11_34 (ik_306 hw hN) gw_1327 dX11_canMake_20 (fun v5 => ?_)
    refine jo_iload_n (pc := 23) 1 rfl dX11_canMake_23 rfl ?_
    refine jo_cV_Z_i (pc := 24) (μ' := mu_X11_clearsAt) (fx := f_X11_clearsAt σ4 v5 i3) (As := [.int v5, .int i3]) (c_X11_clearsAt hw hN) (ok_X11_clearsAt) (ltb rfl) (all3 gw_1833 gw_1835 gw_139) (ik_306 hw hN) (by decide) (q := (RX11, TX11, 39)) rfl rfl rfl rfl (Nat.le_of_ble_eq_true rfl) dX11_canMake_24 (fun b6 σ7 => ?_)
    refine jo_ifz_ne (pc := 27) dX11_canMake_27 (tgt := 32) rfl ?_ ?_
    · refine jo_aload_n (pc := 32) 0 rfl dX11_canMake_32 rfl ?_
      refine jo_getz (pc := 33) ok_11_33 (ik_306 hw hN) gw_1326 dX11_canMake_33 (fun b8 => ?_)
      refine jo_join1 (S := Mem) (fun (z9 : Mem) => z9) (fun (z9 : Mem) => [(0, .ref (adr w 306)), (1, .int i3)]) (fun (z9 : Mem) => []) 49 ?_ (fun h49_9 => ?_)
      · intro σ9
        show JO w mu_X11_canMake vB σ9 [(0, .ref (adr w 306)), (1, .int i3)] [] 49 (j_X11_canMake_49 i3 σ9) _
        unfold j_X11_canMake_49
        refine jo_iinc (pc := 49) (lv' := [(1, .int (i3 + 1)), (0, .ref (adr w 306))]) 1 rfl dX11_canMake_49 (congrArg (fun z => i3 + z) (ic_i_1)) (ltb rfl) rfl ?_
        refine jo_goto (pc := 52) dX11_canMake_52 (tgt := 7) rfl ?_
        refine jo_lv (lv' := [(0, .ref (adr w 306)), (1, .int (i3 + 1))]) [1, 0] rfl ?_
        exact jo_leaf (by rfl) (hF7_3 (σ9, i3 + 1))
      · refine jo_ifz_eq (pc := 36) dX11_canMake_36 (tgt := 49) rfl ?_ ?_
        · exact jo_leaf (by rfl) (h49_9 σ7)
        · refine jo_aload_n (pc := 39) 0 rfl dX11_canMake_39 rfl ?_
          refine jo_aload_n (pc := 40) 0 rfl dX11_canMake_40 rfl ?_
          refine jo_getf (pc := 41) ok_11_34 (ik_306 hw hN) gw_1327 dX11_canMake_41 (fun v10 => ?_)
          refine jo_iconst (pc := 44) dX11_canMake_44 (ic_i_1) ?_
          refine jo_iadd (pc := 45) dX11_canMake_45 ?_
          refine jo_putf (pc := 46) ok_11_34 okp_11_34 (ik_306 hw hN) gw_1327 dX11_canMake_46 (fun σ11 => ?_)
          exact jo_leaf (by rfl) (h49_9 σ11)
    · refine jo_iconst (pc := 30) dX11_canMake_30 (ic_i_0) ?_
      exact jo_breturn (pc := 31) (b := false) rfl rfl dX11_canMake_31
theorem c_X11_canMake {w : Wd} (hw : WOK w) (hN : wn w = NT) {σ : Mem} : ∀ r σ', f_X11_canMake σ = some (r, σ') → MC w mu_X11_canMake (vB r) [.ref (adr w 306)] σ σ' := mc_of ok_X11_canMake rfl (Nat.le_of_ble_eq_true rfl) (t_X11_canMake hw hN)
abbrev mu_X11_isMade : MD := (yX11_isMade, cX11_isMade, 5, some .boolean, 3)
theorem ok_X11_isMade : MOK mu_X11_isMade 2 := ⟨gw_1824, gw_171, (by decide +kernel : plainFor yX11_isMade = true), ⟨(by decide +kernel : yX11_isMade.cls ≠ "java/lang/invoke/MethodHandle"), (by decide +kernel : yX11_isMade.cls ≠ "java/lang/invoke/VarHandle"), (by decide +kernel : (parseMethodDescriptor yX11_isMade.desc).map (fun d => d.parameters.length) = some 2)⟩, Nat.le_of_ble_eq_true rfl⟩
noncomputable def j_X11_isMade_127 (σ3 : Mem) : Option (Bool × Mem) :=
  bq (f_X11_canMake σ3) (fun (b4 : Bool) (σ5 : Mem) => some (b4, σ5))
noncomputable def j_X11_isMade_120 (σ6 : Mem) (i7 : Int32) (l9 : Int64) : Option ((Mem × Int32) ⊕ Mem) :=
  pL σ6 321 i7 l9 (fun (σ10 : Mem) => some (Sum.inl (σ10, i7 + 1)))
noncomputable def l_X11_isMade_88 (x0 : Int32) (x1 : Int32) (σ6 : Mem) (i7 : Int32) : Option ((Mem × Int32) ⊕ Mem) :=
  if 18 ≤ i7 then (some (Sum.inr σ6)) else ((f_X11_n σ6).bind (fun (v8 : Int32) => (if v8 ≤ i7 then (some 0) else ((f_X11_of σ6 x0 i7).bind (fun (v11 : Int64) => some ((Int32.toInt64 x1) * v11))) : Option Int64).bind (fun (z9 : Int64) => j_X11_isMade_120 σ6 i7 z9)))
noncomputable def j_X11_isMade_86 (x0 : Int32) (x1 : Int32) (σ2 : Mem) : Option (Bool × Mem) :=
  (loopO (fun (z7 : (Mem × Int32)) => l_X11_isMade_88 x0 x1 z7.1 z7.2) (σ2, 0) : Option Mem).bind (fun (z3 : Mem) => j_X11_isMade_127 z3)
noncomputable def j_X11_isMade_80 (i13 : Int32) (σ16 : Mem) : Option ((Mem × Int32) ⊕ Mem) :=
  some (Sum.inl (σ16, i13 + 1))
noncomputable def l_X11_isMade_58 (i13 : Int32) (σ17 : Mem) (i18 : Int32) : Option ((Mem × Int32) ⊕ Mem) :=
  (f_X11_n σ17).bind (fun (v19 : Int32) => if v19 ≤ i18 then (some (Sum.inr σ17)) else ((f_X11_addsTail σ17 i18 i13).bind (fun (σ20 : Mem) => some (Sum.inl (σ20, i18 + 1)))))
noncomputable def l_X11_isMade_45 (σ12 : Mem) (i13 : Int32) : Option ((Mem × Int32) ⊕ Mem) :=
  (f_X11_n σ12).bind (fun (v14 : Int32) => if v14 ≤ i13 then (some (Sum.inr σ12)) else (bd (i13 + 1) (fun (v15 : Int32) => (loopO (fun (z18 : (Mem × Int32)) => l_X11_isMade_58 i13 z18.1 z18.2) (σ12, v15) : Option Mem).bind (fun (z16 : Mem) => j_X11_isMade_80 i13 z16))))
noncomputable def j_X11_isMade_38 (σ : Mem) (x0 : Int32) (x1 : Int32) : Option (Bool × Mem) :=
  pF σ 306 31 0 (fun (σ1 : Mem) => (loopO (fun (z13 : (Mem × Int32)) => l_X11_isMade_45 z13.1 z13.2) (σ1, 0) : Option Mem).bind (fun (z2 : Mem) => j_X11_isMade_86 x0 x1 z2))
noncomputable def j_X11_isMade_32 (i21 : Int32) : Option (Int32 ⊕ (Unit ⊕ (Bool × Mem))) :=
  some (Sum.inl (i21 + 1))
noncomputable def l_X11_isMade_2 (σ : Mem) (x0 : Int32) (i21 : Int32) : Option (Int32 ⊕ (Unit ⊕ (Bool × Mem))) :=
  (f_X11_n σ).bind (fun (v22 : Int32) => if v22 ≤ i21 then (some (Sum.inr (Sum.inl ()))) else ((f_X11_weight σ i21).bind (fun (v23 : Int32) => (if v23 = 1 then ((f_X11_of σ x0 i21).bind (fun (v24 : Int64) => if v24 = 0 then (some (Sum.inl ())) else (some (Sum.inr (Sum.inr (Sum.inr (false, σ))))))) else (some (Sum.inl ())) : Option (Unit ⊕ (Int32 ⊕ (Unit ⊕ (Bool × Mem))))).bind (Sum.elim (fun (z23 : Unit) => j_X11_isMade_32 i21) some))))
noncomputable def f_X11_isMade (σ : Mem) (x0 : Int32) (x1 : Int32) : Option (Bool × Mem) :=
  (loopO (fun (z21 : Int32) => l_X11_isMade_2 σ x0 z21) 0 : Option (Unit ⊕ (Bool × Mem))).bind (Sum.elim (fun (z0 : Unit) => j_X11_isMade_38 σ x0 x1) some)
theorem t_X11_isMade {w : Wd} (hw : WOK w) (hN : wn w = NT) {σ : Mem} {x0 : Int32} {x1 : Int32} : JO w mu_X11_isMade vB σ [(0, .ref (adr w 306)), (1, .int x0), (2, .int x1)] [] 0 (f_X11_isMade σ x0 x1) some := by
  unfold f_X11_isMade
  refine jo_iconst (pc := 0) dX11_isMade_0 (ic_i_0) ?_
  refine jo_istore_n (pc := 1) (lv' := [(3, .int 0), (0, .ref (adr w 306)), (1, .int x0), (2, .int x1)]) dX11_isMade_1 rfl (ltb rfl) rfl ?_
  refine jo_joinS (S := Unit) (fun (z0 : Unit) => σ) (fun (z0 : Unit) => [(0, .ref (adr w 306)), (1, .int x0), (2, .int x1)]) (fun (z0 : Unit) => []) 38 ?_ (fun h38_0 => ?_)
  · intro _
    show JO w mu_X11_isMade vB σ [(0, .ref (adr w 306)), (1, .int x0), (2, .int x1)] [] 38 (j_X11_isMade_38 σ x0 x1) _
    unfold j_X11_isMade_38
    refine jo_aload_n (pc := 38) 0 rfl dX11_isMade_38 rfl ?_
    refine jo_iconst (pc := 39) dX11_isMade_39 (ic_i_0) ?_
    refine jo_putf (pc := 40) ok_11_31 okp_11_31 (ik_306 hw hN) gw_1324 dX11_isMade_40 (fun σ1 => ?_)
    refine jo_iconst (pc := 43) dX11_isMade_43 (ic_i_0) ?_
    refine jo_istore_n (pc := 44) (lv' := [(3, .int 0), (0, .ref (adr w 306)), (1, .int x0), (2, .int x1)]) dX11_isMade_44 rfl (ltb rfl) rfl ?_
    refine jo_join1 (S := Mem) (fun (z2 : Mem) => z2) (fun (z2 : Mem) => [(0, .ref (adr w 306)), (1, .int x0), (2, .int x1)]) (fun (z2 : Mem) => []) 86 ?_ (fun h86_2 => ?_)
    · intro σ2
      show JO w mu_X11_isMade vB σ2 [(0, .ref (adr w 306)), (1, .int x0), (2, .int x1)] [] 86 (j_X11_isMade_86 x0 x1 σ2) _
      unfold j_X11_isMade_86
      refine jo_iconst (pc := 86) dX11_isMade_86 (ic_i_0) ?_
      refine jo_istore_n (pc := 87) (lv' := [(3, .int 0), (0, .ref (adr w 306)), (1, .int x0), (2, .int x1)]) dX11_isMade_87 rfl (ltb rfl) rfl ?_
      refine jo_join1 (S := Mem) (fun (z3 : Mem) => z3) (fun (z3 : Mem) => [(0, .ref (adr w 306))]) (fun (z3 : Mem) => []) 127 ?_ (fun h127_3 => ?_)
      · intro σ3
        show JO w mu_X11_isMade vB σ3 [(0, .ref (adr w 306))] [] 127 (j_X11_isMade_127 σ3) _
        unfold j_X11_isMade_127
        refine jo_aload_n (pc := 127) 0 rfl dX11_isMade_127 rfl ?_
        refine jo_cV_Z_i (pc := 128) (μ' := mu_X11_canMake) (fx := f_X11_canMake σ3) (As := []) (c_X11_canMake hw hN) (ok_X11_canMake) (ltb rfl) (all3 gw_1829 gw_1831 gw_138) (ik_306 hw hN) (by decide) (q := (RX11, TX11, 39)) rfl rfl rfl rfl (Nat.le_of_ble_eq_true rfl) dX11_isMade_128 (fun b4 σ5 => ?_)
        exact jo_breturn (pc := 131) (b := b4) rfl rfl dX11_isMade_131
      · refine jo_lv (lv' := [(0, .ref (adr w 306)), (1, .int x0), (2, .int x1), (3, .int 0)]) [1, 2, 3, 0] rfl ?_
        refine jo_loop (X := Mem) (fun (z7 : (Mem × Int32)) => z7.1) (fun (z7 : (Mem × Int32)) => [(0, .ref (adr w 306)), (1, .int x0), (2, .int x1), (3, .int z7.2)]) (body := (fun (z7 : (Mem × Int32)) => l_X11_isMade_88 x0 x1 z7.1 z7.2)) (fun F88_7 hF88_7 s => ?_) (σ2, 0)
        obtain ⟨σ6, i7⟩ := s
        show JO w mu_X11_isMade vB σ6 [(0, .ref (adr w 306)), (1, .int x0), (2, .int x1), (3, .int i7)] [] 88 (l_X11_isMade_88 x0 x1 σ6 i7) _
        unfold l_X11_isMade_88
        refine jo_iload_n (pc := 88) 3 rfl dX11_isMade_88 rfl ?_
        refine jo_bipush (pc := 89) dX11_isMade_89 (ic_b_18) ?_
        refine jo_icmp_ge (pc := 91) dX11_isMade_91 (tgt := 127) rfl ?_ ?_
        · refine jo_lv (lv' := [(0, .ref (adr w 306))]) [0] rfl ?_
          exact jo_leaf (by rfl) (h127_3 σ6)
        · refine jo_aload_n (pc := 94) 0 rfl dX11_isMade_94 rfl ?_
          refine jo_getrE (pc := 95) ok_11_32 (ik_306 hw hN) rf_306_32 gw_1325 dX11_isMade_95 ?_
          refine jo_iload_n (pc := 98) 3 rfl dX11_isMade_98 rfl ?_
          refine jo_iload_n (pc := 99) 3 rfl dX11_isMade_99 rfl ?_
          refine jo_aload_n (pc := 100) 0 rfl dX11_isMade_100 rfl ?_
          refine jo_cV_I_p (pc := 101) (μ' := mu_X11_n) (fx := f_X11_n σ6) (As := []) (c_X11_n hw hN) (ok_X11_n) (ltb rfl) (all3 gw_1441 gw_1443 gw_68) (ik_306 hw hN) (by decide) (q := (RX11, TX11, 39)) rfl rfl rfl rfl (Nat.le_of_ble_eq_true rfl) dX11_isMade_101 (fun v8 => ?_)
          refine jo_join1 (S := Int64) (fun (z9 : Int64) => σ6) (fun (z9 : Int64) => [(0, .ref (adr w 306)), (1, .int x0), (2, .int x1), (3, .int i7)]) (fun (z9 : Int64) => [.long z9, .int i7, .ref (adr w 321)]) 120 ?_ (fun h120_9 => ?_)
          · intro l9
            show JO w mu_X11_isMade vB σ6 [(0, .ref (adr w 306)), (1, .int x0), (2, .int x1), (3, .int i7)] [.long l9, .int i7, .ref (adr w 321)] 120 (j_X11_isMade_120 σ6 i7 l9) _
            unfold j_X11_isMade_120
            refine jo_last (pc := 120) (ik_321 hw hN) dX11_isMade_120 (fun σ10 => ?_)
            refine jo_iinc (pc := 121) (lv' := [(3, .int (i7 + 1)), (0, .ref (adr w 306)), (1, .int x0), (2, .int x1)]) 3 rfl dX11_isMade_121 (congrArg (fun z => i7 + z) (ic_i_1)) (ltb rfl) rfl ?_
            refine jo_goto (pc := 124) dX11_isMade_124 (tgt := 88) rfl ?_
            refine jo_lv (lv' := [(0, .ref (adr w 306)), (1, .int x0), (2, .int x1), (3, .int (i7 + 1))]) [1, 2, 3, 0] rfl ?_
            exact jo_leaf (by rfl) (hF88_7 (σ10, i7 + 1))
          · refine jo_icmp_ge (pc := 104) dX11_isMade_104 (tgt := 119) rfl ?_ ?_
            · refine jo_lconst (pc := 119) dX11_isMade_119 (ic_l_0) ?_
              exact jo_leaf (by rfl) (h120_9 0)
            · refine jo_iload_n (pc := 107) 2 rfl dX11_isMade_107 rfl ?_
              refine jo_i2l (pc := 108) dX11_isMade_108 ?_
              refine jo_aload_n (pc := 109) 0 rfl dX11_isMade_109 rfl ?_
              refine jo_iload_n (pc := 110) 1 rfl dX11_isMade_110 rfl ?_
              refine jo_iload_n (pc := 111) 3 rfl dX11_isMade_111 rfl ?_
              refine jo_cV_J_p (pc := 112) (μ' := mu_X11_of) (fx := f_X11_of σ6 x0 i7) (As := [.int x0, .int i7]) (c_X11_of hw hN) (ok_X11_of) (ltb rfl) (all3 gw_1527 gw_1529 gw_87) (ik_306 hw hN) (by decide) (q := (RX11, TX11, 39)) rfl rfl rfl rfl (Nat.le_of_ble_eq_true rfl) dX11_isMade_112 (fun v11 => ?_)
              refine jo_lmul (pc := 115) dX11_isMade_115 ?_
              refine jo_goto (pc := 116) dX11_isMade_116 (tgt := 120) rfl ?_
              exact jo_leaf (by rfl) (h120_9 ((Int32.toInt64 x1) * v11))
    · refine jo_lv (lv' := [(0, .ref (adr w 306)), (1, .int x0), (2, .int x1), (3, .int 0)]) [1, 2, 3, 0] rfl ?_
      refine jo_loop (X := Mem) (fun (z13 : (Mem × Int32)) => z13.1) (fun (z13 : (Mem × Int32)) => [(0, .ref (adr w 306)), (1, .int x0), (2, .int x1), (3, .int z13.2)]) (body := (fun (z13 : (Mem × Int32)) => l_X11_isMade_45 z13.1 z13.2)) (fun F45_13 hF45_13 s => ?_) (σ1, 0)
      obtain ⟨σ12, i13⟩ := s
      show JO w mu_X11_isMade vB σ12 [(0, .ref (adr w 306)), (1, .int x0), (2, .int x1), (3, .int i13)] [] 45 (l_X11_isMade_45 σ12 i13) _
      unfold l_X11_isMade_45
      refine jo_iload_n (pc := 45) 3 rfl dX11_isMade_45 rfl ?_
      refine jo_aload_n (pc := 46) 0 rfl dX11_isMade_46 rfl ?_
      refine jo_cV_I_p (pc := 47) (μ' := mu_X11_n) (fx := f_X11_n σ12) (As := []) (c_X11_n hw hN) (ok_X11_n) (ltb rfl) (all3 gw_1441 gw_1443 gw_68) (ik_306 hw hN) (by decide) (q := (RX11, TX11, 39)) rfl rfl rfl rfl (Nat.le_of_ble_eq_true rfl) dX11_isMade_47 (fun v14 => ?_)
      refine jo_icmp_ge (pc := 50) dX11_isMade_50 (tgt := 86) rfl ?_ ?_
      · refine jo_lv (lv' := [(0, .ref (adr w 306)), (1, .int x0), (2, .int x1)]) [0, 1, 2] rfl ?_
        exact jo_leaf (by rfl) (h86_2 σ12)
      · refine jo_iload_n (pc := 53) 3 rfl dX11_isMade_53 rfl ?_
        refine jo_iconst (pc := 54) dX11_isMade_54 (ic_i_1) ?_
        refine jo_iadd (pc := 55) dX11_isMade_55 ?_
        refine jo_bd ?_
        refine jo_istore (pc := 56) (lv' := [(4, .int (i13 + 1)), (0, .ref (adr w 306)), (1, .int x0), (2, .int x1), (3, .int i13)]) dX11_isMade_56 (ltb rfl) rfl ?_
        generalize (i13 + 1) = v15
        refine jo_join1 (S := Mem) (fun (z16 : Mem) => z16) (fun (z16 : Mem) => [(0, .ref (adr w 306)), (1, .int x0), (2, .int x1), (3, .int i13)]) (fun (z16 : Mem) => []) 80 ?_ (fun h80_16 => ?_)
        · intro σ16
          show JO w mu_X11_isMade vB σ16 [(0, .ref (adr w 306)), (1, .int x0), (2, .int x1), (3, .int i13)] [] 80 (j_X11_isMade_80 i13 σ16) _
          unfold j_X11_isMade_80
          refine jo_iinc (pc := 80) (lv' := [(3, .int (i13 + 1)), (0, .ref (adr w 306)), (1, .int x0), (2, .int x1)]) 3 rfl dX11_isMade_80 (congrArg (fun z => i13 + z) (ic_i_1)) (ltb rfl) rfl ?_
          refine jo_goto (pc := 83) dX11_isMade_83 (tgt := 45) rfl ?_
          refine jo_lv (lv' := [(0, .ref (adr w 306)), (1, .int x0), (2, .int x1), (3, .int (i13 + 1))]) [1, 2, 3, 0] rfl ?_
          exact jo_leaf (by rfl) (hF45_13 (σ16, i13 + 1))
        · refine jo_lv (lv' := [(0, .ref (adr w 306)), (1, .int x0), (2, .int x1), (3, .int i13), (4, .int v15)]) [1, 2, 3, 4, 0] rfl ?_
          refine jo_loop (X := Mem) (fun (z18 : (Mem × Int32)) => z18.1) (fun (z18 : (Mem × Int32)) => [(0, .ref (adr w 306)), (1, .int x0), (2, .int x1), (3, .int i13), (4, .int z18.2)]) (body := (fun (z18 : (Mem × Int32)) => l_X11_isMade_58 i13 z18.1 z18.2)) (fun F58_18 hF58_18 s => ?_) (σ12, v15)
          obtain ⟨σ17, i18⟩ := s
          show JO w mu_X11_isMade vB σ17 [(0, .ref (adr w 306)), (1, .int x0), (2, .int x1), (3, .int i13), (4, .int i18)] [] 58 (l_X11_isMade_58 i13 σ17 i18) _
          unfold l_X11_isMade_58
          refine jo_iload (pc := 58) 4 rfl dX11_isMade_58 ?_
          refine jo_aload_n (pc := 60) 0 rfl dX11_isMade_60 rfl ?_
          refine jo_cV_I_p (pc := 61) (μ' := mu_X11_n) (fx := f_X11_n σ17) (As := []) (c_X11_n hw hN) (ok_X11_n) (ltb rfl) (all3 gw_1441 gw_1443 gw_68) (ik_306 hw hN) (by decide) (q := (RX11, TX11, 39)) rfl rfl rfl rfl (Nat.le_of_ble_eq_true rfl) dX11_isMade_61 (fun v19 => ?_)
          refine jo_icmp_ge (pc := 64) dX11_isMade_64 (tgt := 80) rfl ?_ ?_
          · refine jo_lv (lv' := [(0, .ref (adr w 306)), (1, .int x0), (2, .int x1), (3, .int i13)]) [0, 1, 2, 3] rfl ?_
            exact jo_leaf (by rfl) (h80_16 σ17)
          · refine jo_aload_n (pc := 67) 0 rfl dX11_isMade_67 rfl ?_
            refine jo_iload (pc := 68) 4 rfl dX11_isMade_68 ?_
            refine jo_iload_n (pc := 70) 3 rfl dX11_isMade_70 rfl ?_
            refine jo_cV_V_i (pc := 71) (μ' := mu_X11_addsTail) (fx := f_X11_addsTail σ17 i18 i13) (As := [.int i18, .int i13]) (c_X11_addsTail hw hN) (ok_X11_addsTail) (ltb rfl) (all3 gw_1825 gw_1827 gw_137) (ik_306 hw hN) (by decide) (q := (RX11, TX11, 39)) rfl rfl rfl rfl (Nat.le_of_ble_eq_true rfl) dX11_isMade_71 (fun σ20 => ?_)
            refine jo_iinc (pc := 74) (lv' := [(4, .int (i18 + 1)), (0, .ref (adr w 306)), (1, .int x0), (2, .int x1), (3, .int i13)]) 4 rfl dX11_isMade_74 (congrArg (fun z => i18 + z) (ic_i_1)) (ltb rfl) rfl ?_
            refine jo_goto (pc := 77) dX11_isMade_77 (tgt := 58) rfl ?_
            refine jo_lv (lv' := [(0, .ref (adr w 306)), (1, .int x0), (2, .int x1), (3, .int i13), (4, .int (i18 + 1))]) [1, 2, 3, 4, 0] rfl ?_
            exact jo_leaf (by rfl) (hF58_18 (σ20, i18 + 1))
  · refine jo_lv (lv' := [(0, .ref (adr w 306)), (1, .int x0), (2, .int x1), (3, .int 0)]) [1, 2, 3, 0] rfl ?_
    refine jo_loop (X := Unit ⊕ (Bool × Mem)) (fun (z21 : Int32) => σ) (fun (z21 : Int32) => [(0, .ref (adr w 306)), (1, .int x0), (2, .int x1), (3, .int z21)]) (body := (fun (z21 : Int32) => l_X11_isMade_2 σ x0 z21)) (fun F2_21 hF2_21 s => ?_) 0
    revert s; intro i21
    show JO w mu_X11_isMade vB σ [(0, .ref (adr w 306)), (1, .int x0), (2, .int x1), (3, .int i21)] [] 2 (l_X11_isMade_2 σ x0 i21) _
    unfold l_X11_isMade_2
    refine jo_iload_n (pc := 2) 3 rfl dX11_isMade_2 rfl ?_
    refine jo_aload_n (pc := 3) 0 rfl dX11_isMade_3 rfl ?_
    refine jo_cV_I_p (pc := 4) (μ' := mu_X11_n) (fx := f_X11_n σ) (As := []) (c_X11_n hw hN) (ok_X11_n) (ltb rfl) (all3 gw_1441 gw_1443 gw_68) (ik_306 hw hN) (by decide) (q := (RX11, TX11, 39)) rfl rfl rfl rfl (Nat.le_of_ble_eq_true rfl) dX11_isMade_4 (fun v22 => ?_)
    refine jo_icmp_ge (pc := 7) dX11_isMade_7 (tgt := 38) rfl ?_ ?_
    · refine jo_lv (lv' := [(0, .ref (adr w 306)), (1, .int x0), (2, .int x1)]) [0, 1, 2] rfl ?_
      exact jo_leaf (by rfl) (h38_0 ())
    · refine jo_aload_n (pc := 10) 0 rfl dX11_isMade_10 rfl ?_
      refine jo_iload_n (pc := 11) 3 rfl dX11_isMade_11 rfl ?_
      refine jo_cV_I_p (pc := 12) (μ' := mu_X11_weight) (fx := f_X11_weight σ i21) (As := [.int i21]) (c_X11_weight hw hN) (ok_X11_weight) (ltb rfl) (all3 gw_1446 gw_1448 gw_69) (ik_306 hw hN) (by decide) (q := (RX11, TX11, 39)) rfl rfl rfl rfl (Nat.le_of_ble_eq_true rfl) dX11_isMade_12 (fun v23 => ?_)
      refine jo_iconst (pc := 15) dX11_isMade_15 (ic_i_1) ?_
      refine jo_joinS (S := Unit) (fun (z23 : Unit) => σ) (fun (z23 : Unit) => [(0, .ref (adr w 306)), (1, .int x0), (2, .int x1), (3, .int i21)]) (fun (z23 : Unit) => []) 32 ?_ (fun h32_23 => ?_)
      · intro _
        show JO w mu_X11_isMade vB σ [(0, .ref (adr w 306)), (1, .int x0), (2, .int x1), (3, .int i21)] [] 32 (j_X11_isMade_32 i21) _
        unfold j_X11_isMade_32
        refine jo_iinc (pc := 32) (lv' := [(3, .int (i21 + 1)), (0, .ref (adr w 306)), (1, .int x0), (2, .int x1)]) 3 rfl dX11_isMade_32 (congrArg (fun z => i21 + z) (ic_i_1)) (ltb rfl) rfl ?_
        refine jo_goto (pc := 35) dX11_isMade_35 (tgt := 2) rfl ?_
        refine jo_lv (lv' := [(0, .ref (adr w 306)), (1, .int x0), (2, .int x1), (3, .int (i21 + 1))]) [1, 2, 3, 0] rfl ?_
        exact jo_leaf (by rfl) (hF2_21 (i21 + 1))
      · refine jo_icmp_ne (pc := 16) dX11_isMade_16 (tgt := 32) rfl ?_ ?_
        · exact jo_leaf (by rfl) (h32_23 ())
        · refine jo_aload_n (pc := 19) 0 rfl dX11_isMade_19 rfl ?_
          refine jo_iload_n (pc := 20) 1 rfl dX11_isMade_20 rfl ?_
          refine jo_iload_n (pc := 21) 3 rfl dX11_isMade_21 rfl ?_
          refine jo_cV_J_p (pc := 22) (μ' := mu_X11_of) (fx := f_X11_of σ x0 i21) (As := [.int x0, .int i21]) (c_X11_of hw hN) (ok_X11_of) (ltb rfl) (all3 gw_1527 gw_1529 gw_87) (ik_306 hw hN) (by decide) (q := (RX11, TX11, 39)) rfl rfl rfl rfl (Nat.le_of_ble_eq_true rfl) dX11_isMade_22 (fun v24 => ?_)
          refine jo_lconst (pc := 25) dX11_isMade_25 (ic_l_0) ?_
          refine jo_lcmp_eq (pc := 26) dX11_isMade_26 dX11_isMade_27 (tgt := 32) rfl ?_ ?_
          · exact jo_leaf (by rfl) (h32_23 ())
          · refine jo_iconst (pc := 30) dX11_isMade_30 (ic_i_0) ?_
            exact jo_breturn (pc := 31) (b := false) rfl rfl dX11_isMade_31
theorem c_X11_isMade {w : Wd} (hw : WOK w) (hN : wn w = NT) {σ : Mem} {x0 : Int32} {x1 : Int32} : ∀ r σ', f_X11_isMade σ x0 x1 = some (r, σ') → MC w mu_X11_isMade (vB r) [.ref (adr w 306), .int x0, .int x1] σ σ' := mc_of ok_X11_isMade rfl (Nat.le_of_ble_eq_true rfl) (t_X11_isMade hw hN)
abbrev mu_X11_leastMade : MD := (yX11_leastMade, cX11_leastMade, 3, some .int, 4)
theorem ok_X11_leastMade : MOK mu_X11_leastMade 1 := ⟨gw_1855, gw_171, (by decide +kernel : plainFor yX11_leastMade = true), ⟨(by decide +kernel : yX11_leastMade.cls ≠ "java/lang/invoke/MethodHandle"), (by decide +kernel : yX11_leastMade.cls ≠ "java/lang/invoke/VarHandle"), (by decide +kernel : (parseMethodDescriptor yX11_leastMade.desc).map (fun d => d.parameters.length) = some 1)⟩, Nat.le_of_ble_eq_true rfl⟩
noncomputable def l_X11_leastMade_2 (x0 : Int32) (σ1 : Mem) (i2 : Int32) : Option ((Mem × Int32) ⊕ (Int32 × Mem)) :=
  if 100 ≤ i2 then (some (Sum.inr (0, σ1))) else (bq (f_X11_isMade σ1 x0 i2) (fun (b3 : Bool) (σ4 : Mem) => if b3 then some (Sum.inr (i2, σ4)) else some (Sum.inl (σ4, i2 + 1))))
noncomputable def f_X11_leastMade (σ : Mem) (x0 : Int32) : Option (Int32 × Mem) :=
  loopO (fun (z2 : (Mem × Int32)) => l_X11_leastMade_2 x0 z2.1 z2.2) (σ, 1)
theorem t_X11_leastMade {w : Wd} (hw : WOK w) (hN : wn w = NT) {σ : Mem} {x0 : Int32} : JO w mu_X11_leastMade vI σ [(0, .ref (adr w 306)), (1, .int x0)] [] 0 (f_X11_leastMade σ x0) some := by
  unfold f_X11_leastMade
  refine jo_iconst (pc := 0) dX11_leastMade_0 (ic_i_1) ?_
  refine jo_istore_n (pc := 1) (lv' := [(2, .int 1), (0, .ref (adr w 306)), (1, .int x0)]) dX11_leastMade_1 rfl (ltb rfl) rfl ?_
  refine jo_lv (lv' := [(0, .ref (adr w 306)), (1, .int x0), (2, .int 1)]) [1, 2, 0] rfl ?_
  refine jo_loop (X := (Int32 × Mem)) (fun (z2 : (Mem × Int32)) => z2.1) (fun (z2 : (Mem × Int32)) => [(0, .ref (adr w 306)), (1, .int x0), (2, .int z2.2)]) (body := (fun (z2 : (Mem × Int32)) => l_X11_leastMade_2 x0 z2.1 z2.2)) (fun F2_2 hF2_2 s => ?_) (σ, 1)
  obtain ⟨σ1, i2⟩ := s
  show JO w mu_X11_leastMade vI σ1 [(0, .ref (adr w 306)), (1, .int x0), (2, .int i2)] [] 2 (l_X11_leastMade_2 x0 σ1 i2) _
  unfold l_X11_leastMade_2
  refine jo_iload_n (pc := 2) 2 rfl dX11_leastMade_2 rfl ?_
  refine jo_bipush (pc := 3) dX11_leastMade_3 (ic_b_100) ?_
  refine jo_icmp_ge (pc := 5) dX11_leastMade_5 (tgt := 25) rfl ?_ ?_
  · refine jo_iconst (pc := 25) dX11_leastMade_25 (ic_i_0) ?_
    exact jo_ireturn (pc := 26) rfl rfl dX11_leastMade_26
  · refine jo_aload_n (pc := 8) 0 rfl dX11_leastMade_8 rfl ?_
    refine jo_iload_n (pc := 9) 1 rfl dX11_leastMade_9 rfl ?_
    refine jo_iload_n (pc := 10) 2 rfl dX11_leastMade_10 rfl ?_
    refine jo_cV_Z_i (pc := 11) (μ' := mu_X11_isMade) (fx := f_X11_isMade σ1 x0 i2) (As := [.int x0, .int i2]) (c_X11_isMade hw hN) (ok_X11_isMade) (ltb rfl) (all3 gw_1821 gw_1823 gw_136) (ik_306 hw hN) (by decide) (q := (RX11, TX11, 39)) rfl rfl rfl rfl (Nat.le_of_ble_eq_true rfl) dX11_leastMade_11 (fun b3 σ4 => ?_)
    refine jo_ifz_eq (pc := 14) dX11_leastMade_14 (tgt := 19) rfl ?_ ?_
    · refine jo_iinc (pc := 19) (lv' := [(2, .int (i2 + 1)), (0, .ref (adr w 306)), (1, .int x0)]) 2 rfl dX11_leastMade_19 (congrArg (fun z => i2 + z) (ic_i_1)) (ltb rfl) rfl ?_
      refine jo_goto (pc := 22) dX11_leastMade_22 (tgt := 2) rfl ?_
      refine jo_lv (lv' := [(0, .ref (adr w 306)), (1, .int x0), (2, .int (i2 + 1))]) [1, 2, 0] rfl ?_
      exact jo_leaf (by rfl) (hF2_2 (σ4, i2 + 1))
    · refine jo_iload_n (pc := 17) 2 rfl dX11_leastMade_17 rfl ?_
      exact jo_ireturn (pc := 18) rfl rfl dX11_leastMade_18
theorem c_X11_leastMade {w : Wd} (hw : WOK w) (hN : wn w = NT) {σ : Mem} {x0 : Int32} : ∀ r σ', f_X11_leastMade σ x0 = some (r, σ') → MC w mu_X11_leastMade (vI r) [.ref (adr w 306), .int x0] σ σ' := mc_of ok_X11_leastMade rfl (Nat.le_of_ble_eq_true rfl) (t_X11_leastMade hw hN)
abbrev mu_X11_register : MD := (yX11_register, cX11_register, 3, some .int, 37)
theorem ok_X11_register : MOK mu_X11_register 2 := ⟨gw_1811, gw_171, (by decide +kernel : plainFor yX11_register = true), ⟨(by decide +kernel : yX11_register.cls ≠ "java/lang/invoke/MethodHandle"), (by decide +kernel : yX11_register.cls ≠ "java/lang/invoke/VarHandle"), (by decide +kernel : (parseMethodDescriptor yX11_register.desc).map (fun d => d.parameters.length) = some 2)⟩, Nat.le_of_ble_eq_true rfl⟩
noncomputable def f_X11_register (σ : Mem) (x0 : Int32) (x1 : Int32) : Option (Int32 × Mem) :=
  pF σ 306 0 0 (fun (σ1 : Mem) => (f_X11_isRegister σ1 x0).bind (fun (b2 : Bool) => if b2 then bq (f_X11_isConsistent σ1) (fun (b3 : Bool) (σ4 : Mem) => if b3 then (f_X11_isIn σ4 (Int32.toInt64 x1) 0 7).bind (fun (b5 : Bool) => if b5 then (f_X11_laysRegister σ4 0 x0).bind (fun (σ6 : Mem) => if x1 = 0 then ((f_X11_layer σ6 0).bind (fun (v20 : Int32) => some (v20, σ6))) else (if x1 = 1 then (bq (f_X11_isCentral σ6 0 1) (fun (b18 : Bool) (σ19 : Mem) => if b18 then some (1, σ19) else some (0, σ19))) else (if x1 = 2 then ((f_X11_isOne σ6 0).bind (fun (b17 : Bool) => if b17 then some (1, σ6) else some (0, σ6))) else (if x1 = 3 then (bq (f_X11_shortOf σ6 0) (fun (v15 : Int32) (σ16 : Mem) => some (v15, σ16))) else (if x1 = 6 then (bq (f_X11_isMade σ6 0 1) (fun (b13 : Bool) (σ14 : Mem) => if b13 then some (1, σ14) else some (0, σ14))) else (if x1 = 7 then (bq (f_X11_leastMade σ6 0) (fun (v11 : Int32) (σ12 : Mem) => some (v11, σ12))) else (if x1 = 4 then (bq (f_X11_greatestRoot σ6 0) (fun (v9 : Int32) (σ10 : Mem) => some (v9, σ10))) else (bq (f_X11_sameAs σ6 x0) (fun (v7 : Int32) (σ8 : Mem) => some (v7, σ8)))))))))) else some ((-1), σ4)) else some ((-1), σ4)) else some ((-1), σ1)))
theorem t_X11_register {w : Wd} (hw : WOK w) (hN : wn w = NT) {σ : Mem} {x0 : Int32} {x1 : Int32} : JO w mu_X11_register vI σ [(0, .ref (adr w 306)), (1, .int x0), (2, .int x1)] [] 0 (f_X11_register σ x0 x1) some := by
  unfold f_X11_register
  refine jo_aload_n (pc := 0) 0 rfl dX11_register_0 rfl ?_
  refine jo_iconst (pc := 1) dX11_register_1 (ic_i_0) ?_
  refine jo_putf (pc := 2) ok_11_0 okp_11_0 (ik_306 hw hN) gw_1293 dX11_register_2 (fun σ1 => ?_)
  refine jo_aload_n (pc := 5) 0 rfl dX11_register_5 rfl ?_
  refine jo_iload_n (pc := 6) 1 rfl dX11_register_6 rfl ?_
  refine jo_cV_Z_p (pc := 7) (μ' := mu_X11_isRegister) (fx := f_X11_isRegister σ1 x0) (As := [.int x0]) (c_X11_isRegister hw hN) (ok_X11_isRegister) (ltb rfl) (all3 gw_1470 gw_1472 gw_73) (ik_306 hw hN) (by decide) (q := (RX11, TX11, 39)) rfl rfl rfl rfl (Nat.le_of_ble_eq_true rfl) dX11_register_7 (fun b2 => ?_)
  refine jo_ifz_eq (pc := 10) dX11_register_10 (tgt := 33) rfl ?_ ?_
  · refine jo_iconst (pc := 33) dX11_register_33 (ic_i_m1) ?_
    exact jo_ireturn (pc := 34) rfl rfl dX11_register_34
  · refine jo_aload_n (pc := 13) 0 rfl dX11_register_13 rfl ?_
    refine jo_cV_Z_i (pc := 14) (μ' := mu_X11_isConsistent) (fx := f_X11_isConsistent σ1) (As := []) (c_X11_isConsistent hw hN) (ok_X11_isConsistent) (ltb rfl) (all3 gw_1475 gw_1477 gw_74) (ik_306 hw hN) (by decide) (q := (RX11, TX11, 39)) rfl rfl rfl rfl (Nat.le_of_ble_eq_true rfl) dX11_register_14 (fun b3 σ4 => ?_)
    refine jo_ifz_eq (pc := 17) dX11_register_17 (tgt := 33) rfl ?_ ?_
    · refine jo_iconst (pc := 33) dX11_register_33 (ic_i_m1) ?_
      exact jo_ireturn (pc := 34) rfl rfl dX11_register_34
    · refine jo_aload_n (pc := 20) 0 rfl dX11_register_20 rfl ?_
      refine jo_iload_n (pc := 21) 2 rfl dX11_register_21 rfl ?_
      refine jo_i2l (pc := 22) dX11_register_22 ?_
      refine jo_lconst (pc := 23) dX11_register_23 (ic_l_0) ?_
      refine jo_ldc2 (pc := 24) dX11_register_24 gw_1812 ?_
      refine jo_cV_Z_p (pc := 27) (μ' := mu_X11_isIn) (fx := f_X11_isIn σ4 (Int32.toInt64 x1) 0 7) (As := [.long (Int32.toInt64 x1), .long 0, .long 7]) (c_X11_isIn hw hN) (ok_X11_isIn) (ltb rfl) (all3 gw_1420 gw_1422 gw_64) (ik_306 hw hN) (by decide) (q := (RX11, TX11, 39)) rfl rfl rfl rfl (Nat.le_of_ble_eq_true rfl) dX11_register_27 (fun b5 => ?_)
      refine jo_ifz_ne (pc := 30) dX11_register_30 (tgt := 35) rfl ?_ ?_
      · refine jo_aload_n (pc := 35) 0 rfl dX11_register_35 rfl ?_
        refine jo_iconst (pc := 36) dX11_register_36 (ic_i_0) ?_
        refine jo_iload_n (pc := 37) 1 rfl dX11_register_37 rfl ?_
        refine jo_cV_V_i (pc := 38) (μ' := mu_X11_laysRegister) (fx := f_X11_laysRegister σ4 0 x0) (As := [.int 0, .int x0]) (c_X11_laysRegister hw hN) (ok_X11_laysRegister) (ltb rfl) (all3 gw_1559 gw_1561 gw_94) (ik_306 hw hN) (by decide) (q := (RX11, TX11, 39)) rfl rfl rfl rfl (Nat.le_of_ble_eq_true rfl) dX11_register_38 (fun σ6 => ?_)
        refine jo_iload_n (pc := 41) 2 rfl dX11_register_41 rfl ?_
        refine jo_if_ne (pc := 42) dX11_register_42 (tgt := 51) rfl ?_ ?_
        · refine jo_iload_n (pc := 51) 2 rfl dX11_register_51 rfl ?_
          refine jo_iconst (pc := 52) dX11_register_52 (ic_i_1) ?_
          refine jo_icmp_ne (pc := 53) dX11_register_53 (tgt := 71) rfl ?_ ?_
          · refine jo_iload_n (pc := 71) 2 rfl dX11_register_71 rfl ?_
            refine jo_iconst (pc := 72) dX11_register_72 (ic_i_2) ?_
            refine jo_icmp_ne (pc := 73) dX11_register_73 (tgt := 90) rfl ?_ ?_
            · refine jo_iload_n (pc := 90) 2 rfl dX11_register_90 rfl ?_
              refine jo_iconst (pc := 91) dX11_register_91 (ic_i_3) ?_
              refine jo_icmp_ne (pc := 92) dX11_register_92 (tgt := 101) rfl ?_ ?_
              · refine jo_iload_n (pc := 101) 2 rfl dX11_register_101 rfl ?_
                refine jo_bipush (pc := 102) dX11_register_102 (ic_b_6) ?_
                refine jo_icmp_ne (pc := 104) dX11_register_104 (tgt := 122) rfl ?_ ?_
                · refine jo_iload_n (pc := 122) 2 rfl dX11_register_122 rfl ?_
                  refine jo_bipush (pc := 123) dX11_register_123 (ic_b_7) ?_
                  refine jo_icmp_ne (pc := 125) dX11_register_125 (tgt := 134) rfl ?_ ?_
                  · refine jo_iload_n (pc := 134) 2 rfl dX11_register_134 rfl ?_
                    refine jo_iconst (pc := 135) dX11_register_135 (ic_i_4) ?_
                    refine jo_icmp_ne (pc := 136) dX11_register_136 (tgt := 147) rfl ?_ ?_
                    · refine jo_aload_n (pc := 147) 0 rfl dX11_register_147 rfl ?_
                      refine jo_iload_n (pc := 148) 1 rfl dX11_register_148 rfl ?_
                      refine jo_cV_I_i (pc := 149) (μ' := mu_X11_sameAs) (fx := f_X11_sameAs σ6 x0) (As := [.int x0]) (c_X11_sameAs hw hN) (ok_X11_sameAs) (ltb rfl) (all3 gw_1860 gw_1862 gw_145) (ik_306 hw hN) (by decide) (q := (RX11, TX11, 39)) rfl rfl rfl rfl (Nat.le_of_ble_eq_true rfl) dX11_register_149 (fun v7 σ8 => ?_)
                      exact jo_ireturn (pc := 152) rfl rfl dX11_register_152
                    · refine jo_aload_n (pc := 139) 0 rfl dX11_register_139 rfl ?_
                      refine jo_iconst (pc := 140) dX11_register_140 (ic_i_0) ?_
                      refine jo_cV_I_i (pc := 141) (μ' := mu_X11_greatestRoot) (fx := f_X11_greatestRoot σ6 0) (As := [.int 0]) (c_X11_greatestRoot hw hN) (ok_X11_greatestRoot) (ltb rfl) (all3 gw_1856 gw_1858 gw_144) (ik_306 hw hN) (by decide) (q := (RX11, TX11, 39)) rfl rfl rfl rfl (Nat.le_of_ble_eq_true rfl) dX11_register_141 (fun v9 σ10 => ?_)
                      refine jo_goto (pc := 144) dX11_register_144 (tgt := 152) rfl ?_
                      exact jo_ireturn (pc := 152) rfl rfl dX11_register_152
                  · refine jo_aload_n (pc := 128) 0 rfl dX11_register_128 rfl ?_
                    refine jo_iconst (pc := 129) dX11_register_129 (ic_i_0) ?_
                    refine jo_cV_I_i (pc := 130) (μ' := mu_X11_leastMade) (fx := f_X11_leastMade σ6 0) (As := [.int 0]) (c_X11_leastMade hw hN) (ok_X11_leastMade) (ltb rfl) (all3 gw_1852 gw_1854 gw_143) (ik_306 hw hN) (by decide) (q := (RX11, TX11, 39)) rfl rfl rfl rfl (Nat.le_of_ble_eq_true rfl) dX11_register_130 (fun v11 σ12 => ?_)
                    exact jo_ireturn (pc := 133) rfl rfl dX11_register_133
                · refine jo_aload_n (pc := 107) 0 rfl dX11_register_107 rfl ?_
                  refine jo_iconst (pc := 108) dX11_register_108 (ic_i_0) ?_
                  refine jo_iconst (pc := 109) dX11_register_109 (ic_i_1) ?_
                  refine jo_cV_Z_i (pc := 110) (μ' := mu_X11_isMade) (fx := f_X11_isMade σ6 0 1) (As := [.int 0, .int 1]) (c_X11_isMade hw hN) (ok_X11_isMade) (ltb rfl) (all3 gw_1821 gw_1823 gw_136) (ik_306 hw hN) (by decide) (q := (RX11, TX11, 39)) rfl rfl rfl rfl (Nat.le_of_ble_eq_true rfl) dX11_register_110 (fun b13 σ14 => ?_)
                  refine jo_ifz_eq (pc := 113) dX11_register_113 (tgt := 120) rfl ?_ ?_
                  · refine jo_iconst (pc := 120) dX11_register_120 (ic_i_0) ?_
                    exact jo_ireturn (pc := 121) rfl rfl dX11_register_121
                  · refine jo_iconst (pc := 116) dX11_register_116 (ic_i_1) ?_
                    refine jo_goto (pc := 117) dX11_register_117 (tgt := 121) rfl ?_
                    exact jo_ireturn (pc := 121) rfl rfl dX11_register_121
              · refine jo_aload_n (pc := 95) 0 rfl dX11_register_95 rfl ?_
                refine jo_iconst (pc := 96) dX11_register_96 (ic_i_0) ?_
                refine jo_cV_I_i (pc := 97) (μ' := mu_X11_shortOf) (fx := f_X11_shortOf σ6 0) (As := [.int 0]) (c_X11_shortOf hw hN) (ok_X11_shortOf) (ltb rfl) (all3 gw_1817 gw_1819 gw_135) (ik_306 hw hN) (by decide) (q := (RX11, TX11, 39)) rfl rfl rfl rfl (Nat.le_of_ble_eq_true rfl) dX11_register_97 (fun v15 σ16 => ?_)
                exact jo_ireturn (pc := 100) rfl rfl dX11_register_100
            · refine jo_aload_n (pc := 76) 0 rfl dX11_register_76 rfl ?_
              refine jo_iconst (pc := 77) dX11_register_77 (ic_i_0) ?_
              refine jo_cV_Z_p (pc := 78) (μ' := mu_X11_isOne) (fx := f_X11_isOne σ6 0) (As := [.int 0]) (c_X11_isOne hw hN) (ok_X11_isOne) (ltb rfl) (all3 gw_1750 gw_1752 gw_125) (ik_306 hw hN) (by decide) (q := (RX11, TX11, 39)) rfl rfl rfl rfl (Nat.le_of_ble_eq_true rfl) dX11_register_78 (fun b17 => ?_)
              refine jo_ifz_eq (pc := 81) dX11_register_81 (tgt := 88) rfl ?_ ?_
              · refine jo_iconst (pc := 88) dX11_register_88 (ic_i_0) ?_
                exact jo_ireturn (pc := 89) rfl rfl dX11_register_89
              · refine jo_iconst (pc := 84) dX11_register_84 (ic_i_1) ?_
                refine jo_goto (pc := 85) dX11_register_85 (tgt := 89) rfl ?_
                exact jo_ireturn (pc := 89) rfl rfl dX11_register_89
          · refine jo_aload_n (pc := 56) 0 rfl dX11_register_56 rfl ?_
            refine jo_iconst (pc := 57) dX11_register_57 (ic_i_0) ?_
            refine jo_iconst (pc := 58) dX11_register_58 (ic_i_1) ?_
            refine jo_cV_Z_i (pc := 59) (μ' := mu_X11_isCentral) (fx := f_X11_isCentral σ6 0 1) (As := [.int 0, .int 1]) (c_X11_isCentral hw hN) (ok_X11_isCentral) (ltb rfl) (all3 gw_1742 gw_1744 gw_123) (ik_306 hw hN) (by decide) (q := (RX11, TX11, 39)) rfl rfl rfl rfl (Nat.le_of_ble_eq_true rfl) dX11_register_59 (fun b18 σ19 => ?_)
            refine jo_ifz_eq (pc := 62) dX11_register_62 (tgt := 69) rfl ?_ ?_
            · refine jo_iconst (pc := 69) dX11_register_69 (ic_i_0) ?_
              exact jo_ireturn (pc := 70) rfl rfl dX11_register_70
            · refine jo_iconst (pc := 65) dX11_register_65 (ic_i_1) ?_
              refine jo_goto (pc := 66) dX11_register_66 (tgt := 70) rfl ?_
              exact jo_ireturn (pc := 70) rfl rfl dX11_register_70
        · refine jo_aload_n (pc := 45) 0 rfl dX11_register_45 rfl ?_
          refine jo_iconst (pc := 46) dX11_register_46 (ic_i_0) ?_
          refine jo_cV_I_p (pc := 47) (μ' := mu_X11_layer) (fx := f_X11_layer σ6 0) (As := [.int 0]) (c_X11_layer hw hN) (ok_X11_layer) (ltb rfl) (all3 gw_1813 gw_1815 gw_134) (ik_306 hw hN) (by decide) (q := (RX11, TX11, 39)) rfl rfl rfl rfl (Nat.le_of_ble_eq_true rfl) dX11_register_47 (fun v20 => ?_)
          exact jo_ireturn (pc := 50) rfl rfl dX11_register_50
      · refine jo_iconst (pc := 33) dX11_register_33 (ic_i_m1) ?_
        exact jo_ireturn (pc := 34) rfl rfl dX11_register_34
theorem c_X11_register {w : Wd} (hw : WOK w) (hN : wn w = NT) {σ : Mem} {x0 : Int32} {x1 : Int32} : ∀ r σ', f_X11_register σ x0 x1 = some (r, σ') → MC w mu_X11_register (vI r) [.ref (adr w 306), .int x0, .int x1] σ σ' := mc_of ok_X11_register rfl (Nat.le_of_ble_eq_true rfl) (t_X11_register hw hN)
abbrev mu_X11_firstApart : MD := (yX11_firstApart, cX11_firstApart, 2, some .int, 1)
theorem ok_X11_firstApart : MOK mu_X11_firstApart 0 := ⟨gw_1871, gw_171, (by decide +kernel : plainFor yX11_firstApart = true), ⟨(by decide +kernel : yX11_firstApart.cls ≠ "java/lang/invoke/MethodHandle"), (by decide +kernel : yX11_firstApart.cls ≠ "java/lang/invoke/VarHandle"), (by decide +kernel : (parseMethodDescriptor yX11_firstApart.desc).map (fun d => d.parameters.length) = some 0)⟩, Nat.le_of_ble_eq_true rfl⟩
noncomputable def j_X11_firstApart_26 (i1 : Int32) : Option Int32 :=
  some (i1 + 1)
noncomputable def l_X11_firstApart_2 (σ : Mem) (i2 : Int32) : Option (Int32 ⊕ (Int32 ⊕ Int32)) :=
  (f_X11_n σ).bind (fun (v3 : Int32) => if v3 ≤ i2 then (some (Sum.inr (Sum.inr 0))) else ((f_X11_of σ 0 i2).bind (fun (v4 : Int64) => (f_X11_of σ 1 i2).bind (fun (v5 : Int64) => if v4 = v5 then (some (Sum.inl (i2 + 1))) else (some (Sum.inr (Sum.inl i2)))))))
noncomputable def f_X11_firstApart (σ : Mem) : Option Int32 :=
  (loopO (fun (z2 : Int32) => l_X11_firstApart_2 σ z2) 0 : Option (Int32 ⊕ Int32)).bind (Sum.elim (fun (z1 : Int32) => j_X11_firstApart_26 z1) some)
theorem t_X11_firstApart {w : Wd} (hw : WOK w) (hN : wn w = NT) {σ : Mem} : JO w mu_X11_firstApart vI σ [(0, .ref (adr w 306))] [] 0 (f_X11_firstApart σ) (fun z => some (z, σ)) := by
  unfold f_X11_firstApart
  refine jo_iconst (pc := 0) dX11_firstApart_0 (ic_i_0) ?_
  refine jo_istore_n (pc := 1) (lv' := [(1, .int 0), (0, .ref (adr w 306))]) dX11_firstApart_1 rfl (ltb rfl) rfl ?_
  refine jo_joinS (S := Int32) (fun (z1 : Int32) => σ) (fun (z1 : Int32) => [(1, .int z1)]) (fun (z1 : Int32) => []) 26 ?_ (fun h26_1 => ?_)
  · intro i1
    show JO w mu_X11_firstApart vI σ [(1, .int i1)] [] 26 (j_X11_firstApart_26 i1) _
    unfold j_X11_firstApart_26
    refine jo_iload_n (pc := 26) 0 rfl dX11_firstApart_26 rfl ?_
    refine jo_iconst (pc := 27) dX11_firstApart_27 (ic_i_1) ?_
    refine jo_iadd (pc := 28) dX11_firstApart_28 ?_
    exact jo_ireturn (pc := 29) rfl rfl dX11_firstApart_29
  · refine jo_lv (lv' := [(0, .ref (adr w 306)), (1, .int 0)]) [1, 0] rfl ?_
    refine jo_loop (X := Int32 ⊕ Int32) (fun (z2 : Int32) => σ) (fun (z2 : Int32) => [(0, .ref (adr w 306)), (1, .int z2)]) (body := (fun (z2 : Int32) => l_X11_firstApart_2 σ z2)) (fun F2_2 hF2_2 s => ?_) 0
    revert s; intro i2
    show JO w mu_X11_firstApart vI σ [(0, .ref (adr w 306)), (1, .int i2)] [] 2 (l_X11_firstApart_2 σ i2) _
    unfold l_X11_firstApart_2
    refine jo_iload_n (pc := 2) 1 rfl dX11_firstApart_2 rfl ?_
    refine jo_aload_n (pc := 3) 0 rfl dX11_firstApart_3 rfl ?_
    refine jo_cV_I_p (pc := 4) (μ' := mu_X11_n) (fx := f_X11_n σ) (As := []) (c_X11_n hw hN) (ok_X11_n) (ltb rfl) (all3 gw_1441 gw_1443 gw_68) (ik_306 hw hN) (by decide) (q := (RX11, TX11, 39)) rfl rfl rfl rfl (Nat.le_of_ble_eq_true rfl) dX11_firstApart_4 (fun v3 => ?_)
    refine jo_icmp_ge (pc := 7) dX11_firstApart_7 (tgt := 36) rfl ?_ ?_
    · refine jo_iconst (pc := 36) dX11_firstApart_36 (ic_i_0) ?_
      exact jo_ireturn (pc := 37) rfl rfl dX11_firstApart_37
    · refine jo_aload_n (pc := 10) 0 rfl dX11_firstApart_10 rfl ?_
      refine jo_iconst (pc := 11) dX11_firstApart_11 (ic_i_0) ?_
      refine jo_iload_n (pc := 12) 1 rfl dX11_firstApart_12 rfl ?_
      refine jo_cV_J_p (pc := 13) (μ' := mu_X11_of) (fx := f_X11_of σ 0 i2) (As := [.int 0, .int i2]) (c_X11_of hw hN) (ok_X11_of) (ltb rfl) (all3 gw_1527 gw_1529 gw_87) (ik_306 hw hN) (by decide) (q := (RX11, TX11, 39)) rfl rfl rfl rfl (Nat.le_of_ble_eq_true rfl) dX11_firstApart_13 (fun v4 => ?_)
      refine jo_aload_n (pc := 16) 0 rfl dX11_firstApart_16 rfl ?_
      refine jo_iconst (pc := 17) dX11_firstApart_17 (ic_i_1) ?_
      refine jo_iload_n (pc := 18) 1 rfl dX11_firstApart_18 rfl ?_
      refine jo_cV_J_p (pc := 19) (μ' := mu_X11_of) (fx := f_X11_of σ 1 i2) (As := [.int 1, .int i2]) (c_X11_of hw hN) (ok_X11_of) (ltb rfl) (all3 gw_1527 gw_1529 gw_87) (ik_306 hw hN) (by decide) (q := (RX11, TX11, 39)) rfl rfl rfl rfl (Nat.le_of_ble_eq_true rfl) dX11_firstApart_19 (fun v5 => ?_)
      refine jo_lcmp_eq (pc := 22) dX11_firstApart_22 dX11_firstApart_23 (tgt := 30) rfl ?_ ?_
      · refine jo_iinc (pc := 30) (lv' := [(1, .int (i2 + 1)), (0, .ref (adr w 306))]) 1 rfl dX11_firstApart_30 (congrArg (fun z => i2 + z) (ic_i_1)) (ltb rfl) rfl ?_
        refine jo_goto (pc := 33) dX11_firstApart_33 (tgt := 2) rfl ?_
        refine jo_lv (lv' := [(0, .ref (adr w 306)), (1, .int (i2 + 1))]) [1, 0] rfl ?_
        exact jo_leaf (by rfl) (hF2_2 (i2 + 1))
      · refine jo_lv (lv' := [(1, .int i2)]) [1] rfl ?_
        exact jo_leaf (by rfl) (h26_1 i2)
theorem c_X11_firstApart {w : Wd} (hw : WOK w) (hN : wn w = NT) {σ : Mem} : ∀ r, f_X11_firstApart σ = some r → MC w mu_X11_firstApart (vI r) [.ref (adr w 306)] σ σ := mc_ofP ok_X11_firstApart rfl (Nat.le_of_ble_eq_true rfl) (t_X11_firstApart hw hN)
abbrev mu_X11_both : MD := (yX11_both, cX11_both, 4, some .int, 37)
theorem ok_X11_both : MOK mu_X11_both 3 := ⟨gw_1867, gw_171, (by decide +kernel : plainFor yX11_both = true), ⟨(by decide +kernel : yX11_both.cls ≠ "java/lang/invoke/MethodHandle"), (by decide +kernel : yX11_both.cls ≠ "java/lang/invoke/VarHandle"), (by decide +kernel : (parseMethodDescriptor yX11_both.desc).map (fun d => d.parameters.length) = some 3)⟩, Nat.le_of_ble_eq_true rfl⟩
noncomputable def f_X11_both (σ : Mem) (x0 : Int32) (x1 : Int32) (x2 : Int32) : Option (Int32 × Mem) :=
  pF σ 306 0 0 (fun (σ1 : Mem) => (f_X11_isRegister σ1 x0).bind (fun (b2 : Bool) => if b2 then (f_X11_isRegister σ1 x1).bind (fun (b3 : Bool) => if b3 then bq (f_X11_isConsistent σ1) (fun (b4 : Bool) (σ5 : Mem) => if b4 then (f_X11_isIn σ5 (Int32.toInt64 x2) 0 2).bind (fun (b6 : Bool) => if b6 then (f_X11_laysRegister σ5 0 x0).bind (fun (σ7 : Mem) => (f_X11_laysRegister σ7 1 x1).bind (fun (σ8 : Mem) => if x2 = 2 then ((f_X11_firstApart σ8).bind (fun (v12 : Int32) => some (v12, σ8))) else ((f_X11_commutator σ8 0 1 2).bind (fun (σ9 : Mem) => if x2 = 1 then ((f_X11_layer σ9 2).bind (fun (v11 : Int32) => some (v11, σ9))) else ((f_X11_isOne σ9 2).bind (fun (b10 : Bool) => if b10 then some (1, σ9) else some (0, σ9))))))) else some ((-1), σ5)) else some ((-1), σ5)) else some ((-1), σ1)) else some ((-1), σ1)))
theorem t_X11_both {w : Wd} (hw : WOK w) (hN : wn w = NT) {σ : Mem} {x0 : Int32} {x1 : Int32} {x2 : Int32} : JO w mu_X11_both vI σ [(0, .ref (adr w 306)), (1, .int x0), (2, .int x1), (3, .int x2)] [] 0 (f_X11_both σ x0 x1 x2) some := by
  unfold f_X11_both
  refine jo_aload_n (pc := 0) 0 rfl dX11_both_0 rfl ?_
  refine jo_iconst (pc := 1) dX11_both_1 (ic_i_0) ?_
  refine jo_putf (pc := 2) ok_11_0 okp_11_0 (ik_306 hw hN) gw_1293 dX11_both_2 (fun σ1 => ?_)
  refine jo_aload_n (pc := 5) 0 rfl dX11_both_5 rfl ?_
  refine jo_iload_n (pc := 6) 1 rfl dX11_both_6 rfl ?_
  refine jo_cV_Z_p (pc := 7) (μ' := mu_X11_isRegister) (fx := f_X11_isRegister σ1 x0) (As := [.int x0]) (c_X11_isRegister hw hN) (ok_X11_isRegister) (ltb rfl) (all3 gw_1470 gw_1472 gw_73) (ik_306 hw hN) (by decide) (q := (RX11, TX11, 39)) rfl rfl rfl rfl (Nat.le_of_ble_eq_true rfl) dX11_both_7 (fun b2 => ?_)
  refine jo_ifz_eq (pc := 10) dX11_both_10 (tgt := 41) rfl ?_ ?_
  · refine jo_iconst (pc := 41) dX11_both_41 (ic_i_m1) ?_
    exact jo_ireturn (pc := 42) rfl rfl dX11_both_42
  · refine jo_aload_n (pc := 13) 0 rfl dX11_both_13 rfl ?_
    refine jo_iload_n (pc := 14) 2 rfl dX11_both_14 rfl ?_
    refine jo_cV_Z_p (pc := 15) (μ' := mu_X11_isRegister) (fx := f_X11_isRegister σ1 x1) (As := [.int x1]) (c_X11_isRegister hw hN) (ok_X11_isRegister) (ltb rfl) (all3 gw_1470 gw_1472 gw_73) (ik_306 hw hN) (by decide) (q := (RX11, TX11, 39)) rfl rfl rfl rfl (Nat.le_of_ble_eq_true rfl) dX11_both_15 (fun b3 => ?_)
    refine jo_ifz_eq (pc := 18) dX11_both_18 (tgt := 41) rfl ?_ ?_
    · refine jo_iconst (pc := 41) dX11_both_41 (ic_i_m1) ?_
      exact jo_ireturn (pc := 42) rfl rfl dX11_both_42
    · refine jo_aload_n (pc := 21) 0 rfl dX11_both_21 rfl ?_
      refine jo_cV_Z_i (pc := 22) (μ' := mu_X11_isConsistent) (fx := f_X11_isConsistent σ1) (As := []) (c_X11_isConsistent hw hN) (ok_X11_isConsistent) (ltb rfl) (all3 gw_1475 gw_1477 gw_74) (ik_306 hw hN) (by decide) (q := (RX11, TX11, 39)) rfl rfl rfl rfl (Nat.le_of_ble_eq_true rfl) dX11_both_22 (fun b4 σ5 => ?_)
      refine jo_ifz_eq (pc := 25) dX11_both_25 (tgt := 41) rfl ?_ ?_
      · refine jo_iconst (pc := 41) dX11_both_41 (ic_i_m1) ?_
        exact jo_ireturn (pc := 42) rfl rfl dX11_both_42
      · refine jo_aload_n (pc := 28) 0 rfl dX11_both_28 rfl ?_
        refine jo_iload_n (pc := 29) 3 rfl dX11_both_29 rfl ?_
        refine jo_i2l (pc := 30) dX11_both_30 ?_
        refine jo_lconst (pc := 31) dX11_both_31 (ic_l_0) ?_
        refine jo_ldc2 (pc := 32) dX11_both_32 gw_1547 ?_
        refine jo_cV_Z_p (pc := 35) (μ' := mu_X11_isIn) (fx := f_X11_isIn σ5 (Int32.toInt64 x2) 0 2) (As := [.long (Int32.toInt64 x2), .long 0, .long 2]) (c_X11_isIn hw hN) (ok_X11_isIn) (ltb rfl) (all3 gw_1420 gw_1422 gw_64) (ik_306 hw hN) (by decide) (q := (RX11, TX11, 39)) rfl rfl rfl rfl (Nat.le_of_ble_eq_true rfl) dX11_both_35 (fun b6 => ?_)
        refine jo_ifz_ne (pc := 38) dX11_both_38 (tgt := 43) rfl ?_ ?_
        · refine jo_aload_n (pc := 43) 0 rfl dX11_both_43 rfl ?_
          refine jo_iconst (pc := 44) dX11_both_44 (ic_i_0) ?_
          refine jo_iload_n (pc := 45) 1 rfl dX11_both_45 rfl ?_
          refine jo_cV_V_i (pc := 46) (μ' := mu_X11_laysRegister) (fx := f_X11_laysRegister σ5 0 x0) (As := [.int 0, .int x0]) (c_X11_laysRegister hw hN) (ok_X11_laysRegister) (ltb rfl) (all3 gw_1559 gw_1561 gw_94) (ik_306 hw hN) (by decide) (q := (RX11, TX11, 39)) rfl rfl rfl rfl (Nat.le_of_ble_eq_true rfl) dX11_both_46 (fun σ7 => ?_)
          refine jo_aload_n (pc := 49) 0 rfl dX11_both_49 rfl ?_
          refine jo_iconst (pc := 50) dX11_both_50 (ic_i_1) ?_
          refine jo_iload_n (pc := 51) 2 rfl dX11_both_51 rfl ?_
          refine jo_cV_V_i (pc := 52) (μ' := mu_X11_laysRegister) (fx := f_X11_laysRegister σ7 1 x1) (As := [.int 1, .int x1]) (c_X11_laysRegister hw hN) (ok_X11_laysRegister) (ltb rfl) (all3 gw_1559 gw_1561 gw_94) (ik_306 hw hN) (by decide) (q := (RX11, TX11, 39)) rfl rfl rfl rfl (Nat.le_of_ble_eq_true rfl) dX11_both_52 (fun σ8 => ?_)
          refine jo_iload_n (pc := 55) 3 rfl dX11_both_55 rfl ?_
          refine jo_iconst (pc := 56) dX11_both_56 (ic_i_2) ?_
          refine jo_icmp_ne (pc := 57) dX11_both_57 (tgt := 65) rfl ?_ ?_
          · refine jo_aload_n (pc := 65) 0 rfl dX11_both_65 rfl ?_
            refine jo_iconst (pc := 66) dX11_both_66 (ic_i_0) ?_
            refine jo_iconst (pc := 67) dX11_both_67 (ic_i_1) ?_
            refine jo_iconst (pc := 68) dX11_both_68 (ic_i_2) ?_
            refine jo_cV_V_i (pc := 69) (μ' := mu_X11_commutator) (fx := f_X11_commutator σ8 0 1 2) (As := [.int 0, .int 1, .int 2]) (c_X11_commutator hw hN) (ok_X11_commutator) (ltb rfl) (all3 gw_1609 gw_1611 gw_102) (ik_306 hw hN) (by decide) (q := (RX11, TX11, 39)) rfl rfl rfl rfl (Nat.le_of_ble_eq_true rfl) dX11_both_69 (fun σ9 => ?_)
            refine jo_iload_n (pc := 72) 3 rfl dX11_both_72 rfl ?_
            refine jo_iconst (pc := 73) dX11_both_73 (ic_i_1) ?_
            refine jo_icmp_ne (pc := 74) dX11_both_74 (tgt := 85) rfl ?_ ?_
            · refine jo_aload_n (pc := 85) 0 rfl dX11_both_85 rfl ?_
              refine jo_iconst (pc := 86) dX11_both_86 (ic_i_2) ?_
              refine jo_cV_Z_p (pc := 87) (μ' := mu_X11_isOne) (fx := f_X11_isOne σ9 2) (As := [.int 2]) (c_X11_isOne hw hN) (ok_X11_isOne) (ltb rfl) (all3 gw_1750 gw_1752 gw_125) (ik_306 hw hN) (by decide) (q := (RX11, TX11, 39)) rfl rfl rfl rfl (Nat.le_of_ble_eq_true rfl) dX11_both_87 (fun b10 => ?_)
              refine jo_ifz_eq (pc := 90) dX11_both_90 (tgt := 97) rfl ?_ ?_
              · refine jo_iconst (pc := 97) dX11_both_97 (ic_i_0) ?_
                exact jo_ireturn (pc := 98) rfl rfl dX11_both_98
              · refine jo_iconst (pc := 93) dX11_both_93 (ic_i_1) ?_
                refine jo_goto (pc := 94) dX11_both_94 (tgt := 98) rfl ?_
                exact jo_ireturn (pc := 98) rfl rfl dX11_both_98
            · refine jo_aload_n (pc := 77) 0 rfl dX11_both_77 rfl ?_
              refine jo_iconst (pc := 78) dX11_both_78 (ic_i_2) ?_
              refine jo_cV_I_p (pc := 79) (μ' := mu_X11_layer) (fx := f_X11_layer σ9 2) (As := [.int 2]) (c_X11_layer hw hN) (ok_X11_layer) (ltb rfl) (all3 gw_1813 gw_1815 gw_134) (ik_306 hw hN) (by decide) (q := (RX11, TX11, 39)) rfl rfl rfl rfl (Nat.le_of_ble_eq_true rfl) dX11_both_79 (fun v11 => ?_)
              refine jo_goto (pc := 82) dX11_both_82 (tgt := 98) rfl ?_
              exact jo_ireturn (pc := 98) rfl rfl dX11_both_98
          · refine jo_aload_n (pc := 60) 0 rfl dX11_both_60 rfl ?_
            refine jo_cV_I_p (pc := 61) (μ' := mu_X11_firstApart) (fx := f_X11_firstApart σ8) (As := []) (c_X11_firstApart hw hN) (ok_X11_firstApart) (ltb rfl) (all3 gw_1868 gw_1870 gw_146) (ik_306 hw hN) (by decide) (q := (RX11, TX11, 39)) rfl rfl rfl rfl (Nat.le_of_ble_eq_true rfl) dX11_both_61 (fun v12 => ?_)
            exact jo_ireturn (pc := 64) rfl rfl dX11_both_64
        · refine jo_iconst (pc := 41) dX11_both_41 (ic_i_m1) ?_
          exact jo_ireturn (pc := 42) rfl rfl dX11_both_42
theorem c_X11_both {w : Wd} (hw : WOK w) (hN : wn w = NT) {σ : Mem} {x0 : Int32} {x1 : Int32} {x2 : Int32} : ∀ r σ', f_X11_both σ x0 x1 x2 = some (r, σ') → MC w mu_X11_both (vI r) [.ref (adr w 306), .int x0, .int x1, .int x2] σ σ' := mc_of ok_X11_both rfl (Nat.le_of_ble_eq_true rfl) (t_X11_both hw hN)
abbrev mu_X11_adds : MD := (yX11_adds, cX11_adds, 5, none, 6)
theorem ok_X11_adds : MOK mu_X11_adds 3 := ⟨gw_1893, gw_171, (by decide +kernel : plainFor yX11_adds = true), ⟨(by decide +kernel : yX11_adds.cls ≠ "java/lang/invoke/MethodHandle"), (by decide +kernel : yX11_adds.cls ≠ "java/lang/invoke/VarHandle"), (by decide +kernel : (parseMethodDescriptor yX11_adds.desc).map (fun d => d.parameters.length) = some 3)⟩, Nat.le_of_ble_eq_true rfl⟩
noncomputable def j_X11_adds_134 (σ4 : Mem) : Option Mem :=
  gF σ4 306 31 (fun (v5 : Int32) => pF σ4 306 31 (v5 + 1) (fun (σ6 : Mem) => some σ6))
noncomputable def l_X11_adds_94 (x1 : Int32) (σ7 : Mem) (i8 : Int32) : Option ((Mem × Int32) ⊕ Mem) :=
  (f_X11_n σ7).bind (fun (v9 : Int32) => if v9 ≤ i8 then (some (Sum.inr σ7)) else (gF σ7 306 31 (fun (v10 : Int32) => (f_X11_of σ7 x1 i8).bind (fun (v11 : Int64) => pL σ7 320 (((18 * v10) + 12) + i8) v11 (fun (σ12 : Mem) => some (Sum.inl (σ12, i8 + 1)))))))
noncomputable def j_X11_adds_91 (x1 : Int32) (σ3 : Mem) : Option Mem :=
  (loopO (fun (z8 : (Mem × Int32)) => l_X11_adds_94 x1 z8.1 z8.2) (σ3, 0) : Option Mem).bind (fun (z4 : Mem) => j_X11_adds_134 z4)
noncomputable def j_X11_adds_85 (i14 : Int32) (σ17 : Mem) : Option ((Mem × Int32) ⊕ Mem) :=
  some (Sum.inl (σ17, i14 + 1))
noncomputable def l_X11_adds_43 (x2 : Int32) (σ13 : Mem) (i14 : Int32) : Option ((Mem × Int32) ⊕ Mem) :=
  (f_X11_n σ13).bind (fun (v15 : Int32) => if v15 ≤ i14 then (some (Sum.inr σ13)) else ((f_X11_weight σ13 i14).bind (fun (v16 : Int32) => (if v16 = x2 then (gF σ13 306 31 (fun (v18 : Int32) => (f_X11_of σ13 50 i14).bind (fun (v19 : Int64) => pL σ13 320 ((18 * v18) + i14) v19 (fun (σ20 : Mem) => some σ20)))) else (some σ13) : Option Mem).bind (fun (z17 : Mem) => j_X11_adds_85 i14 z17))))
noncomputable def j_X11_adds_40 (x1 : Int32) (x2 : Int32) (σ2 : Mem) : Option Mem :=
  (loopO (fun (z14 : (Mem × Int32)) => l_X11_adds_43 x2 z14.1 z14.2) (σ2, 0) : Option Mem).bind (fun (z3 : Mem) => j_X11_adds_91 x1 z3)
noncomputable def l_X11_adds_11 (σ21 : Mem) (i22 : Int32) : Option ((Mem × Int32) ⊕ Mem) :=
  if 18 ≤ i22 then (some (Sum.inr σ21)) else (gF σ21 306 31 (fun (v23 : Int32) => pL σ21 320 ((18 * v23) + i22) 0 (fun (σ24 : Mem) => some (Sum.inl (σ24, i22 + 1)))))
noncomputable def f_X11_adds (σ : Mem) (x0 : Int32) (x1 : Int32) (x2 : Int32) : Option Mem :=
  (f_X11_commutator σ x0 x1 50).bind (fun (σ1 : Mem) => (loopO (fun (z22 : (Mem × Int32)) => l_X11_adds_11 z22.1 z22.2) (σ1, 0) : Option Mem).bind (fun (z2 : Mem) => j_X11_adds_40 x1 x2 z2))
theorem t_X11_adds {w : Wd} (hw : WOK w) (hN : wn w = NT) {σ : Mem} {x0 : Int32} {x1 : Int32} {x2 : Int32} : JO w mu_X11_adds vV σ [(0, .ref (adr w 306)), (1, .int x0), (2, .int x1), (3, .int x2)] [] 0 (f_X11_adds σ x0 x1 x2) (fun z => some ((), z)) := by
  unfold f_X11_adds
  refine jo_aload_n (pc := 0) 0 rfl dX11_adds_0 rfl ?_
  refine jo_iload_n (pc := 1) 1 rfl dX11_adds_1 rfl ?_
  refine jo_iload_n (pc := 2) 2 rfl dX11_adds_2 rfl ?_
  refine jo_bipush (pc := 3) dX11_adds_3 (ic_b_50) ?_
  refine jo_cV_V_i (pc := 5) (μ' := mu_X11_commutator) (fx := f_X11_commutator σ x0 x1 50) (As := [.int x0, .int x1, .int 50]) (c_X11_commutator hw hN) (ok_X11_commutator) (ltb rfl) (all3 gw_1609 gw_1611 gw_102) (ik_306 hw hN) (by decide) (q := (RX11, TX11, 39)) rfl rfl rfl rfl (Nat.le_of_ble_eq_true rfl) dX11_adds_5 (fun σ1 => ?_)
  refine jo_iconst (pc := 8) dX11_adds_8 (ic_i_0) ?_
  refine jo_istore (pc := 9) (lv' := [(4, .int 0), (0, .ref (adr w 306)), (1, .int x0), (2, .int x1), (3, .int x2)]) dX11_adds_9 (ltb rfl) rfl ?_
  refine jo_join1 (S := Mem) (fun (z2 : Mem) => z2) (fun (z2 : Mem) => [(0, .ref (adr w 306)), (2, .int x1), (3, .int x2)]) (fun (z2 : Mem) => []) 40 ?_ (fun h40_2 => ?_)
  · intro σ2
    show JO w mu_X11_adds vV σ2 [(0, .ref (adr w 306)), (2, .int x1), (3, .int x2)] [] 40 (j_X11_adds_40 x1 x2 σ2) _
    unfold j_X11_adds_40
    refine jo_iconst (pc := 40) dX11_adds_40 (ic_i_0) ?_
    refine jo_istore (pc := 41) (lv' := [(4, .int 0), (0, .ref (adr w 306)), (2, .int x1), (3, .int x2)]) dX11_adds_41 (ltb rfl) rfl ?_
    refine jo_join1 (S := Mem) (fun (z3 : Mem) => z3) (fun (z3 : Mem) => [(0, .ref (adr w 306)), (2, .int x1)]) (fun (z3 : Mem) => []) 91 ?_ (fun h91_3 => ?_)
    · intro σ3
      show JO w mu_X11_adds vV σ3 [(0, .ref (adr w 306)), (2, .int x1)] [] 91 (j_X11_adds_91 x1 σ3) _
      unfold j_X11_adds_91
      refine jo_iconst (pc := 91) dX11_adds_91 (ic_i_0) ?_
      refine jo_istore (pc := 92) (lv' := [(4, .int 0), (0, .ref (adr w 306)), (2, .int x1)]) dX11_adds_92 (ltb rfl) rfl ?_
      refine jo_join1 (S := Mem) (fun (z4 : Mem) => z4) (fun (z4 : Mem) => [(0, .ref (adr w 306))]) (fun (z4 : Mem) => []) 134 ?_ (fun h134_4 => ?_)
      · intro σ4
        show JO w mu_X11_adds vV σ4 [(0, .ref (adr w 306))] [] 134 (j_X11_adds_134 σ4) _
        unfold j_X11_adds_134
        refine jo_aload_n (pc := 134) 0 rfl dX11_adds_134 rfl ?_
        refine jo_aload_n (pc := 135) 0 rfl dX11_adds_135 rfl ?_
        refine jo_getf (pc := 136) ok_11_31 (ik_306 hw hN) gw_1324 dX11_adds_136 (fun v5 => ?_)
        refine jo_iconst (pc := 139) dX11_adds_139 (ic_i_1) ?_
        refine jo_iadd (pc := 140) dX11_adds_140 ?_
        refine jo_putf (pc := 141) ok_11_31 okp_11_31 (ik_306 hw hN) gw_1324 dX11_adds_141 (fun σ6 => ?_)
        exact jo_return (pc := 144) rfl rfl dX11_adds_144
      · refine jo_lv (lv' := [(0, .ref (adr w 306)), (2, .int x1), (4, .int 0)]) [1, 2, 0] rfl ?_
        refine jo_loop (X := Mem) (fun (z8 : (Mem × Int32)) => z8.1) (fun (z8 : (Mem × Int32)) => [(0, .ref (adr w 306)), (2, .int x1), (4, .int z8.2)]) (body := (fun (z8 : (Mem × Int32)) => l_X11_adds_94 x1 z8.1 z8.2)) (fun F94_8 hF94_8 s => ?_) (σ3, 0)
        obtain ⟨σ7, i8⟩ := s
        show JO w mu_X11_adds vV σ7 [(0, .ref (adr w 306)), (2, .int x1), (4, .int i8)] [] 94 (l_X11_adds_94 x1 σ7 i8) _
        unfold l_X11_adds_94
        refine jo_iload (pc := 94) 2 rfl dX11_adds_94 ?_
        refine jo_aload_n (pc := 96) 0 rfl dX11_adds_96 rfl ?_
        refine jo_cV_I_p (pc := 97) (μ' := mu_X11_n) (fx := f_X11_n σ7) (As := []) (c_X11_n hw hN) (ok_X11_n) (ltb rfl) (all3 gw_1441 gw_1443 gw_68) (ik_306 hw hN) (by decide) (q := (RX11, TX11, 39)) rfl rfl rfl rfl (Nat.le_of_ble_eq_true rfl) dX11_adds_97 (fun v9 => ?_)
        refine jo_icmp_ge (pc := 100) dX11_adds_100 (tgt := 134) rfl ?_ ?_
        · refine jo_lv (lv' := [(0, .ref (adr w 306))]) [0] rfl ?_
          exact jo_leaf (by rfl) (h134_4 σ7)
        · refine jo_aload_n (pc := 103) 0 rfl dX11_adds_103 rfl ?_
          refine jo_getrE (pc := 104) ok_11_30 (ik_306 hw hN) rf_306_30 gw_1323 dX11_adds_104 ?_
          refine jo_bipush (pc := 107) dX11_adds_107 (ic_b_18) ?_
          refine jo_aload_n (pc := 109) 0 rfl dX11_adds_109 rfl ?_
          refine jo_getf (pc := 110) ok_11_31 (ik_306 hw hN) gw_1324 dX11_adds_110 (fun v10 => ?_)
          refine jo_imul (pc := 113) dX11_adds_113 ?_
          refine jo_bipush (pc := 114) dX11_adds_114 (ic_b_12) ?_
          refine jo_iadd (pc := 116) dX11_adds_116 ?_
          refine jo_iload (pc := 117) 2 rfl dX11_adds_117 ?_
          refine jo_iadd (pc := 119) dX11_adds_119 ?_
          refine jo_aload_n (pc := 120) 0 rfl dX11_adds_120 rfl ?_
          refine jo_iload_n (pc := 121) 1 rfl dX11_adds_121 rfl ?_
          refine jo_iload (pc := 122) 2 rfl dX11_adds_122 ?_
          refine jo_cV_J_p (pc := 124) (μ' := mu_X11_of) (fx := f_X11_of σ7 x1 i8) (As := [.int x1, .int i8]) (c_X11_of hw hN) (ok_X11_of) (ltb rfl) (all3 gw_1527 gw_1529 gw_87) (ik_306 hw hN) (by decide) (q := (RX11, TX11, 39)) rfl rfl rfl rfl (Nat.le_of_ble_eq_true rfl) dX11_adds_124 (fun v11 => ?_)
          refine jo_last (pc := 127) (ik_320 hw hN) dX11_adds_127 (fun σ12 => ?_)
          refine jo_iinc (pc := 128) (lv' := [(4, .int (i8 + 1)), (0, .ref (adr w 306)), (2, .int x1)]) 2 rfl dX11_adds_128 (congrArg (fun z => i8 + z) (ic_i_1)) (ltb rfl) rfl ?_
          refine jo_goto (pc := 131) dX11_adds_131 (tgt := 94) rfl ?_
          refine jo_lv (lv' := [(0, .ref (adr w 306)), (2, .int x1), (4, .int (i8 + 1))]) [1, 2, 0] rfl ?_
          exact jo_leaf (by rfl) (hF94_8 (σ12, i8 + 1))
    · refine jo_lv (lv' := [(0, .ref (adr w 306)), (2, .int x1), (3, .int x2), (4, .int 0)]) [1, 2, 3, 0] rfl ?_
      refine jo_loop (X := Mem) (fun (z14 : (Mem × Int32)) => z14.1) (fun (z14 : (Mem × Int32)) => [(0, .ref (adr w 306)), (2, .int x1), (3, .int x2), (4, .int z14.2)]) (body := (fun (z14 : (Mem × Int32)) => l_X11_adds_43 x2 z14.1 z14.2)) (fun F43_14 hF43_14 s => ?_) (σ2, 0)
      obtain ⟨σ13, i14⟩ := s
      show JO w mu_X11_adds vV σ13 [(0, .ref (adr w 306)), (2, .int x1), (3, .int x2), (4, .int i14)] [] 43 (l_X11_adds_43 x2 σ13 i14) _
      unfold l_X11_adds_43
      refine jo_iload (pc := 43) 3 rfl dX11_adds_43 ?_
      refine jo_aload_n (pc := 45) 0 rfl dX11_adds_45 rfl ?_
      refine jo_cV_I_p (pc := 46) (μ' := mu_X11_n) (fx := f_X11_n σ13) (As := []) (c_X11_n hw hN) (ok_X11_n) (ltb rfl) (all3 gw_1441 gw_1443 gw_68) (ik_306 hw hN) (by decide) (q := (RX11, TX11, 39)) rfl rfl rfl rfl (Nat.le_of_ble_eq_true rfl) dX11_adds_46 (fun v15 => ?_)
      refine jo_icmp_ge (pc := 49) dX11_adds_49 (tgt := 91) rfl ?_ ?_
      · refine jo_lv (lv' := [(0, .ref (adr w 306)), (2, .int x1)]) [0, 1] rfl ?_
        exact jo_leaf (by rfl) (h91_3 σ13)
      · refine jo_aload_n (pc := 52) 0 rfl dX11_adds_52 rfl ?_
        refine jo_iload (pc := 53) 3 rfl dX11_adds_53 ?_
        refine jo_cV_I_p (pc := 55) (μ' := mu_X11_weight) (fx := f_X11_weight σ13 i14) (As := [.int i14]) (c_X11_weight hw hN) (ok_X11_weight) (ltb rfl) (all3 gw_1446 gw_1448 gw_69) (ik_306 hw hN) (by decide) (q := (RX11, TX11, 39)) rfl rfl rfl rfl (Nat.le_of_ble_eq_true rfl) dX11_adds_55 (fun v16 => ?_)
        refine jo_iload_n (pc := 58) 2 rfl dX11_adds_58 rfl ?_
        refine jo_join1 (S := Mem) (fun (z17 : Mem) => z17) (fun (z17 : Mem) => [(0, .ref (adr w 306)), (2, .int x1), (3, .int x2), (4, .int i14)]) (fun (z17 : Mem) => []) 85 ?_ (fun h85_17 => ?_)
        · intro σ17
          show JO w mu_X11_adds vV σ17 [(0, .ref (adr w 306)), (2, .int x1), (3, .int x2), (4, .int i14)] [] 85 (j_X11_adds_85 i14 σ17) _
          unfold j_X11_adds_85
          refine jo_iinc (pc := 85) (lv' := [(4, .int (i14 + 1)), (0, .ref (adr w 306)), (2, .int x1), (3, .int x2)]) 3 rfl dX11_adds_85 (congrArg (fun z => i14 + z) (ic_i_1)) (ltb rfl) rfl ?_
          refine jo_goto (pc := 88) dX11_adds_88 (tgt := 43) rfl ?_
          refine jo_lv (lv' := [(0, .ref (adr w 306)), (2, .int x1), (3, .int x2), (4, .int (i14 + 1))]) [1, 2, 3, 0] rfl ?_
          exact jo_leaf (by rfl) (hF43_14 (σ17, i14 + 1))
        · refine jo_icmp_ne (pc := 59) dX11_adds_59 (tgt := 85) rfl ?_ ?_
          · exact jo_leaf (by rfl) (h85_17 σ13)
          · refine jo_aload_n (pc := 62) 0 rfl dX11_adds_62 rfl ?_
            refine jo_getrE (pc := 63) ok_11_30 (ik_306 hw hN) rf_306_30 gw_1323 dX11_adds_63 ?_
            refine jo_bipush (pc := 66) dX11_adds_66 (ic_b_18) ?_
            refine jo_aload_n (pc := 68) 0 rfl dX11_adds_68 rfl ?_
            refine jo_getf (pc := 69) ok_11_31 (ik_306 hw hN) gw_1324 dX11_adds_69 (fun v18 => ?_)
            refine jo_imul (pc := 72) dX11_adds_72 ?_
            refine jo_iload (pc := 73) 3 rfl dX11_adds_73 ?_
            refine jo_iadd (pc := 75) dX11_adds_75 ?_
            refine jo_aload_n (pc := 76) 0 rfl dX11_adds_76 rfl ?_
            refine jo_bipush (pc := 77) dX11_adds_77 (ic_b_50) ?_
            refine jo_iload (pc := 79) 3 rfl dX11_adds_79 ?_
            refine jo_cV_J_p (pc := 81) (μ' := mu_X11_of) (fx := f_X11_of σ13 50 i14) (As := [.int 50, .int i14]) (c_X11_of hw hN) (ok_X11_of) (ltb rfl) (all3 gw_1527 gw_1529 gw_87) (ik_306 hw hN) (by decide) (q := (RX11, TX11, 39)) rfl rfl rfl rfl (Nat.le_of_ble_eq_true rfl) dX11_adds_81 (fun v19 => ?_)
            refine jo_last (pc := 84) (ik_320 hw hN) dX11_adds_84 (fun σ20 => ?_)
            exact jo_leaf (by rfl) (h85_17 σ20)
  · refine jo_lv (lv' := [(0, .ref (adr w 306)), (2, .int x1), (3, .int x2), (4, .int 0)]) [1, 3, 4, 0] rfl ?_
    refine jo_loop (X := Mem) (fun (z22 : (Mem × Int32)) => z22.1) (fun (z22 : (Mem × Int32)) => [(0, .ref (adr w 306)), (2, .int x1), (3, .int x2), (4, .int z22.2)]) (body := (fun (z22 : (Mem × Int32)) => l_X11_adds_11 z22.1 z22.2)) (fun F11_22 hF11_22 s => ?_) (σ1, 0)
    obtain ⟨σ21, i22⟩ := s
    show JO w mu_X11_adds vV σ21 [(0, .ref (adr w 306)), (2, .int x1), (3, .int x2), (4, .int i22)] [] 11 (l_X11_adds_11 σ21 i22) _
    unfold l_X11_adds_11
    refine jo_iload (pc := 11) 3 rfl dX11_adds_11 ?_
    refine jo_bipush (pc := 13) dX11_adds_13 (ic_b_18) ?_
    refine jo_icmp_ge (pc := 15) dX11_adds_15 (tgt := 40) rfl ?_ ?_
    · refine jo_lv (lv' := [(0, .ref (adr w 306)), (2, .int x1), (3, .int x2)]) [0, 1, 2] rfl ?_
      exact jo_leaf (by rfl) (h40_2 σ21)
    · refine jo_aload_n (pc := 18) 0 rfl dX11_adds_18 rfl ?_
      refine jo_getrE (pc := 19) ok_11_30 (ik_306 hw hN) rf_306_30 gw_1323 dX11_adds_19 ?_
      refine jo_bipush (pc := 22) dX11_adds_22 (ic_b_18) ?_
      refine jo_aload_n (pc := 24) 0 rfl dX11_adds_24 rfl ?_
      refine jo_getf (pc := 25) ok_11_31 (ik_306 hw hN) gw_1324 dX11_adds_25 (fun v23 => ?_)
      refine jo_imul (pc := 28) dX11_adds_28 ?_
      refine jo_iload (pc := 29) 3 rfl dX11_adds_29 ?_
      refine jo_iadd (pc := 31) dX11_adds_31 ?_
      refine jo_lconst (pc := 32) dX11_adds_32 (ic_l_0) ?_
      refine jo_last (pc := 33) (ik_320 hw hN) dX11_adds_33 (fun σ24 => ?_)
      refine jo_iinc (pc := 34) (lv' := [(4, .int (i22 + 1)), (0, .ref (adr w 306)), (2, .int x1), (3, .int x2)]) 3 rfl dX11_adds_34 (congrArg (fun z => i22 + z) (ic_i_1)) (ltb rfl) rfl ?_
      refine jo_goto (pc := 37) dX11_adds_37 (tgt := 11) rfl ?_
      refine jo_lv (lv' := [(0, .ref (adr w 306)), (2, .int x1), (3, .int x2), (4, .int (i22 + 1))]) [1, 2, 3, 0] rfl ?_
      exact jo_leaf (by rfl) (hF11_22 (σ24, i22 + 1))
theorem c_X11_adds {w : Wd} (hw : WOK w) (hN : wn w = NT) {σ : Mem} {x0 : Int32} {x1 : Int32} {x2 : Int32} : ∀ σ', f_X11_adds σ x0 x1 x2 = some σ' → MC w mu_X11_adds none [.ref (adr w 306), .int x0, .int x1, .int x2] σ σ' := mc_ofV ok_X11_adds rfl (Nat.le_of_ble_eq_true rfl) (t_X11_adds hw hN)
abbrev mu_X11_letterAt : MD := (yX11_letterAt, cX11_letterAt, 5, none, 2)
theorem ok_X11_letterAt : MOK mu_X11_letterAt 3 := ⟨gw_1889, gw_171, (by decide +kernel : plainFor yX11_letterAt = true), ⟨(by decide +kernel : yX11_letterAt.cls ≠ "java/lang/invoke/MethodHandle"), (by decide +kernel : yX11_letterAt.cls ≠ "java/lang/invoke/VarHandle"), (by decide +kernel : (parseMethodDescriptor yX11_letterAt.desc).map (fun d => d.parameters.length) = some 3)⟩, Nat.le_of_ble_eq_true rfl⟩
noncomputable def f_X11_letterAt (σ : Mem) (x0 : Int32) (x1 : Int32) (x2 : Int64) : Option Mem :=
  (f_X11_ones σ x0).bind (fun (σ1 : Mem) => (f_X11_puts σ1 x0 x1 x2).bind (fun (σ2 : Mem) => some σ2))
theorem t_X11_letterAt {w : Wd} (hw : WOK w) (hN : wn w = NT) {σ : Mem} {x0 : Int32} {x1 : Int32} {x2 : Int64} : JO w mu_X11_letterAt vV σ [(0, .ref (adr w 306)), (1, .int x0), (2, .int x1), (3, .long x2)] [] 0 (f_X11_letterAt σ x0 x1 x2) (fun z => some ((), z)) := by
  unfold f_X11_letterAt
  refine jo_aload_n (pc := 0) 0 rfl dX11_letterAt_0 rfl ?_
  refine jo_iload_n (pc := 1) 1 rfl dX11_letterAt_1 rfl ?_
  refine jo_cV_V_i (pc := 2) (μ' := mu_X11_ones) (fx := f_X11_ones σ x0) (As := [.int x0]) (c_X11_ones hw hN) (ok_X11_ones) (ltb rfl) (all3 gw_1587 gw_1589 gw_99) (ik_306 hw hN) (by decide) (q := (RX11, TX11, 39)) rfl rfl rfl rfl (Nat.le_of_ble_eq_true rfl) dX11_letterAt_2 (fun σ1 => ?_)
  refine jo_aload_n (pc := 5) 0 rfl dX11_letterAt_5 rfl ?_
  refine jo_iload_n (pc := 6) 1 rfl dX11_letterAt_6 rfl ?_
  refine jo_iload_n (pc := 7) 2 rfl dX11_letterAt_7 rfl ?_
  refine jo_lload_n (pc := 8) 3 rfl dX11_letterAt_8 rfl ?_
  refine jo_cV_V_i (pc := 9) (μ' := mu_X11_puts) (fx := f_X11_puts σ1 x0 x1 x2) (As := [.int x0, .int x1, .long x2]) (c_X11_puts hw hN) (ok_X11_puts) (ltb rfl) (all3 gw_1519 gw_1521 gw_85) (ik_306 hw hN) (by decide) (q := (RX11, TX11, 39)) rfl rfl rfl rfl (Nat.le_of_ble_eq_true rfl) dX11_letterAt_9 (fun σ2 => ?_)
  exact jo_return (pc := 12) rfl rfl dX11_letterAt_12
theorem c_X11_letterAt {w : Wd} (hw : WOK w) (hN : wn w = NT) {σ : Mem} {x0 : Int32} {x1 : Int32} {x2 : Int64} : ∀ σ', f_X11_letterAt σ x0 x1 x2 = some σ' → MC w mu_X11_letterAt none [.ref (adr w 306), .int x0, .int x1, .long x2] σ σ' := mc_ofV ok_X11_letterAt rfl (Nat.le_of_ble_eq_true rfl) (t_X11_letterAt hw hN)
abbrev mu_X11_areAlikeUpTo : MD := (yX11_areAlikeUpTo, cX11_areAlikeUpTo, 5, some .boolean, 1)
theorem ok_X11_areAlikeUpTo : MOK mu_X11_areAlikeUpTo 3 := ⟨gw_1885, gw_171, (by decide +kernel : plainFor yX11_areAlikeUpTo = true), ⟨(by decide +kernel : yX11_areAlikeUpTo.cls ≠ "java/lang/invoke/MethodHandle"), (by decide +kernel : yX11_areAlikeUpTo.cls ≠ "java/lang/invoke/VarHandle"), (by decide +kernel : (parseMethodDescriptor yX11_areAlikeUpTo.desc).map (fun d => d.parameters.length) = some 3)⟩, Nat.le_of_ble_eq_true rfl⟩
noncomputable def j_X11_areAlikeUpTo_42 (i1 : Int32) : Option (Int32 ⊕ Bool) :=
  some (Sum.inl (i1 + 1))
noncomputable def l_X11_areAlikeUpTo_3 (σ : Mem) (x0 : Int32) (x1 : Int32) (x2 : Int32) (i1 : Int32) : Option (Int32 ⊕ Bool) :=
  (f_X11_n σ).bind (fun (v2 : Int32) => if v2 ≤ i1 then (some (Sum.inr true)) else ((f_X11_weight σ i1).bind (fun (v3 : Int32) => (if x0 < v3 then (some (Sum.inl ())) else ((f_X11_of σ x1 i1).bind (fun (v4 : Int64) => (f_X11_of σ x2 i1).bind (fun (v5 : Int64) => if v4 = v5 then (some (Sum.inl ())) else (some (Sum.inr (Sum.inr false)))))) : Option (Unit ⊕ (Int32 ⊕ Bool))).bind (Sum.elim (fun (z3 : Unit) => j_X11_areAlikeUpTo_42 i1) some))))
noncomputable def f_X11_areAlikeUpTo (σ : Mem) (x0 : Int32) (x1 : Int32) (x2 : Int32) : Option Bool :=
  loopO (fun (z1 : Int32) => l_X11_areAlikeUpTo_3 σ x0 x1 x2 z1) 0
theorem t_X11_areAlikeUpTo {w : Wd} (hw : WOK w) (hN : wn w = NT) {σ : Mem} {x0 : Int32} {x1 : Int32} {x2 : Int32} : JO w mu_X11_areAlikeUpTo vB σ [(0, .ref (adr w 306)), (1, .int x0), (2, .int x1), (3, .int x2)] [] 0 (f_X11_areAlikeUpTo σ x0 x1 x2) (fun z => some (z, σ)) := by
  unfold f_X11_areAlikeUpTo
  refine jo_iconst (pc := 0) dX11_areAlikeUpTo_0 (ic_i_0) ?_
  refine jo_istore (pc := 1) (lv' := [(4, .int 0), (0, .ref (adr w 306)), (1, .int x0), (2, .int x1), (3, .int x2)]) dX11_areAlikeUpTo_1 (ltb rfl) rfl ?_
  refine jo_lv (lv' := [(0, .ref (adr w 306)), (1, .int x0), (2, .int x1), (3, .int x2), (4, .int 0)]) [1, 2, 3, 4, 0] rfl ?_
  refine jo_loop (X := Bool) (fun (z1 : Int32) => σ) (fun (z1 : Int32) => [(0, .ref (adr w 306)), (1, .int x0), (2, .int x1), (3, .int x2), (4, .int z1)]) (body := (fun (z1 : Int32) => l_X11_areAlikeUpTo_3 σ x0 x1 x2 z1)) (fun F3_1 hF3_1 s => ?_) 0
  revert s; intro i1
  show JO w mu_X11_areAlikeUpTo vB σ [(0, .ref (adr w 306)), (1, .int x0), (2, .int x1), (3, .int x2), (4, .int i1)] [] 3 (l_X11_areAlikeUpTo_3 σ x0 x1 x2 i1) _
  unfold l_X11_areAlikeUpTo_3
  refine jo_iload (pc := 3) 4 rfl dX11_areAlikeUpTo_3 ?_
  refine jo_aload_n (pc := 5) 0 rfl dX11_areAlikeUpTo_5 rfl ?_
  refine jo_cV_I_p (pc := 6) (μ' := mu_X11_n) (fx := f_X11_n σ) (As := []) (c_X11_n hw hN) (ok_X11_n) (ltb rfl) (all3 gw_1441 gw_1443 gw_68) (ik_306 hw hN) (by decide) (q := (RX11, TX11, 39)) rfl rfl rfl rfl (Nat.le_of_ble_eq_true rfl) dX11_areAlikeUpTo_6 (fun v2 => ?_)
  refine jo_icmp_ge (pc := 9) dX11_areAlikeUpTo_9 (tgt := 48) rfl ?_ ?_
  · refine jo_iconst (pc := 48) dX11_areAlikeUpTo_48 (ic_i_1) ?_
    exact jo_breturn (pc := 49) (b := true) rfl rfl dX11_areAlikeUpTo_49
  · refine jo_aload_n (pc := 12) 0 rfl dX11_areAlikeUpTo_12 rfl ?_
    refine jo_iload (pc := 13) 4 rfl dX11_areAlikeUpTo_13 ?_
    refine jo_cV_I_p (pc := 15) (μ' := mu_X11_weight) (fx := f_X11_weight σ i1) (As := [.int i1]) (c_X11_weight hw hN) (ok_X11_weight) (ltb rfl) (all3 gw_1446 gw_1448 gw_69) (ik_306 hw hN) (by decide) (q := (RX11, TX11, 39)) rfl rfl rfl rfl (Nat.le_of_ble_eq_true rfl) dX11_areAlikeUpTo_15 (fun v3 => ?_)
    refine jo_iload_n (pc := 18) 1 rfl dX11_areAlikeUpTo_18 rfl ?_
    refine jo_joinS (S := Unit) (fun (z3 : Unit) => σ) (fun (z3 : Unit) => [(0, .ref (adr w 306)), (1, .int x0), (2, .int x1), (3, .int x2), (4, .int i1)]) (fun (z3 : Unit) => []) 42 ?_ (fun h42_3 => ?_)
    · intro _
      show JO w mu_X11_areAlikeUpTo vB σ [(0, .ref (adr w 306)), (1, .int x0), (2, .int x1), (3, .int x2), (4, .int i1)] [] 42 (j_X11_areAlikeUpTo_42 i1) _
      unfold j_X11_areAlikeUpTo_42
      refine jo_iinc (pc := 42) (lv' := [(4, .int (i1 + 1)), (0, .ref (adr w 306)), (1, .int x0), (2, .int x1), (3, .int x2)]) 4 rfl dX11_areAlikeUpTo_42 (congrArg (fun z => i1 + z) (ic_i_1)) (ltb rfl) rfl ?_
      refine jo_goto (pc := 45) dX11_areAlikeUpTo_45 (tgt := 3) rfl ?_
      refine jo_lv (lv' := [(0, .ref (adr w 306)), (1, .int x0), (2, .int x1), (3, .int x2), (4, .int (i1 + 1))]) [1, 2, 3, 4, 0] rfl ?_
      exact jo_leaf (by rfl) (hF3_1 (i1 + 1))
    · refine jo_icmp_gt (pc := 19) dX11_areAlikeUpTo_19 (tgt := 42) rfl ?_ ?_
      · exact jo_leaf (by rfl) (h42_3 ())
      · refine jo_aload_n (pc := 22) 0 rfl dX11_areAlikeUpTo_22 rfl ?_
        refine jo_iload_n (pc := 23) 2 rfl dX11_areAlikeUpTo_23 rfl ?_
        refine jo_iload (pc := 24) 4 rfl dX11_areAlikeUpTo_24 ?_
        refine jo_cV_J_p (pc := 26) (μ' := mu_X11_of) (fx := f_X11_of σ x1 i1) (As := [.int x1, .int i1]) (c_X11_of hw hN) (ok_X11_of) (ltb rfl) (all3 gw_1527 gw_1529 gw_87) (ik_306 hw hN) (by decide) (q := (RX11, TX11, 39)) rfl rfl rfl rfl (Nat.le_of_ble_eq_true rfl) dX11_areAlikeUpTo_26 (fun v4 => ?_)
        refine jo_aload_n (pc := 29) 0 rfl dX11_areAlikeUpTo_29 rfl ?_
        refine jo_iload_n (pc := 30) 3 rfl dX11_areAlikeUpTo_30 rfl ?_
        refine jo_iload (pc := 31) 4 rfl dX11_areAlikeUpTo_31 ?_
        refine jo_cV_J_p (pc := 33) (μ' := mu_X11_of) (fx := f_X11_of σ x2 i1) (As := [.int x2, .int i1]) (c_X11_of hw hN) (ok_X11_of) (ltb rfl) (all3 gw_1527 gw_1529 gw_87) (ik_306 hw hN) (by decide) (q := (RX11, TX11, 39)) rfl rfl rfl rfl (Nat.le_of_ble_eq_true rfl) dX11_areAlikeUpTo_33 (fun v5 => ?_)
        refine jo_lcmp_eq (pc := 36) dX11_areAlikeUpTo_36 dX11_areAlikeUpTo_37 (tgt := 42) rfl ?_ ?_
        · exact jo_leaf (by rfl) (h42_3 ())
        · refine jo_iconst (pc := 40) dX11_areAlikeUpTo_40 (ic_i_0) ?_
          exact jo_breturn (pc := 41) (b := false) rfl rfl dX11_areAlikeUpTo_41
theorem c_X11_areAlikeUpTo {w : Wd} (hw : WOK w) (hN : wn w = NT) {σ : Mem} {x0 : Int32} {x1 : Int32} {x2 : Int32} : ∀ r, f_X11_areAlikeUpTo σ x0 x1 x2 = some r → MC w mu_X11_areAlikeUpTo (vB r) [.ref (adr w 306), .int x0, .int x1, .int x2] σ σ := mc_ofP ok_X11_areAlikeUpTo rfl (Nat.le_of_ble_eq_true rfl) (t_X11_areAlikeUpTo hw hN)
abbrev mu_X11_laysDue : MD := (yX11_laysDue, cX11_laysDue, 5, none, 1)
theorem ok_X11_laysDue : MOK mu_X11_laysDue 3 := ⟨gw_1897, gw_171, (by decide +kernel : plainFor yX11_laysDue = true), ⟨(by decide +kernel : yX11_laysDue.cls ≠ "java/lang/invoke/MethodHandle"), (by decide +kernel : yX11_laysDue.cls ≠ "java/lang/invoke/VarHandle"), (by decide +kernel : (parseMethodDescriptor yX11_laysDue.desc).map (fun d => d.parameters.length) = some 3)⟩, Nat.le_of_ble_eq_true rfl⟩
noncomputable def j_X11_laysDue_68 (i3 : Int32) (σ6 : Mem) : Option ((Mem × Int32) ⊕ Mem) :=
  some (Sum.inl (σ6, i3 + 1))
noncomputable def l_X11_laysDue_27 (x0 : Int32) (x1 : Int32) (x2 : Int32) (σ2 : Mem) (i3 : Int32) : Option ((Mem × Int32) ⊕ Mem) :=
  (f_X11_n σ2).bind (fun (v4 : Int32) => if v4 ≤ i3 then (some (Sum.inr σ2)) else ((f_X11_weight σ2 i3).bind (fun (v5 : Int32) => (if v5 = x2 then ((f_X11_of σ2 x1 i3).bind (fun (v7 : Int64) => (f_X11_of σ2 x0 i3).bind (fun (v8 : Int64) => pL σ2 321 i3 (v7 - v8) (fun (σ9 : Mem) => some σ9)))) else (some σ2) : Option Mem).bind (fun (z6 : Mem) => j_X11_laysDue_68 i3 z6))))
noncomputable def j_X11_laysDue_24 (x0 : Int32) (x1 : Int32) (x2 : Int32) (σ1 : Mem) : Option Mem :=
  loopO (fun (z3 : (Mem × Int32)) => l_X11_laysDue_27 x0 x1 x2 z3.1 z3.2) (σ1, 0)
noncomputable def l_X11_laysDue_3 (σ10 : Mem) (i11 : Int32) : Option ((Mem × Int32) ⊕ Mem) :=
  if 18 ≤ i11 then (some (Sum.inr σ10)) else (pL σ10 321 i11 0 (fun (σ12 : Mem) => some (Sum.inl (σ12, i11 + 1))))
noncomputable def f_X11_laysDue (σ : Mem) (x0 : Int32) (x1 : Int32) (x2 : Int32) : Option Mem :=
  (loopO (fun (z11 : (Mem × Int32)) => l_X11_laysDue_3 z11.1 z11.2) (σ, 0) : Option Mem).bind (fun (z1 : Mem) => j_X11_laysDue_24 x0 x1 x2 z1)
theorem t_X11_laysDue {w : Wd} (hw : WOK w) (hN : wn w = NT) {σ : Mem} {x0 : Int32} {x1 : Int32} {x2 : Int32} : JO w mu_X11_laysDue vV σ [(0, .ref (adr w 306)), (1, .int x0), (2, .int x1), (3, .int x2)] [] 0 (f_X11_laysDue σ x0 x1 x2) (fun z => some ((), z)) := by
  unfold f_X11_laysDue
  refine jo_iconst (pc := 0) dX11_laysDue_0 (ic_i_0) ?_
  refine jo_istore (pc := 1) (lv' := [(4, .int 0), (0, .ref (adr w 306)), (1, .int x0), (2, .int x1), (3, .int x2)]) dX11_laysDue_1 (ltb rfl) rfl ?_
  refine jo_join1 (S := Mem) (fun (z1 : Mem) => z1) (fun (z1 : Mem) => [(0, .ref (adr w 306)), (1, .int x0), (2, .int x1), (3, .int x2)]) (fun (z1 : Mem) => []) 24 ?_ (fun h24_1 => ?_)
  · intro σ1
    show JO w mu_X11_laysDue vV σ1 [(0, .ref (adr w 306)), (1, .int x0), (2, .int x1), (3, .int x2)] [] 24 (j_X11_laysDue_24 x0 x1 x2 σ1) _
    unfold j_X11_laysDue_24
    refine jo_iconst (pc := 24) dX11_laysDue_24 (ic_i_0) ?_
    refine jo_istore (pc := 25) (lv' := [(4, .int 0), (0, .ref (adr w 306)), (1, .int x0), (2, .int x1), (3, .int x2)]) dX11_laysDue_25 (ltb rfl) rfl ?_
    refine jo_lv (lv' := [(0, .ref (adr w 306)), (1, .int x0), (2, .int x1), (3, .int x2), (4, .int 0)]) [1, 2, 3, 4, 0] rfl ?_
    refine jo_loop (X := Mem) (fun (z3 : (Mem × Int32)) => z3.1) (fun (z3 : (Mem × Int32)) => [(0, .ref (adr w 306)), (1, .int x0), (2, .int x1), (3, .int x2), (4, .int z3.2)]) (body := (fun (z3 : (Mem × Int32)) => l_X11_laysDue_27 x0 x1 x2 z3.1 z3.2)) (fun F27_3 hF27_3 s => ?_) (σ1, 0)
    obtain ⟨σ2, i3⟩ := s
    show JO w mu_X11_laysDue vV σ2 [(0, .ref (adr w 306)), (1, .int x0), (2, .int x1), (3, .int x2), (4, .int i3)] [] 27 (l_X11_laysDue_27 x0 x1 x2 σ2 i3) _
    unfold l_X11_laysDue_27
    refine jo_iload (pc := 27) 4 rfl dX11_laysDue_27 ?_
    refine jo_aload_n (pc := 29) 0 rfl dX11_laysDue_29 rfl ?_
    refine jo_cV_I_p (pc := 30) (μ' := mu_X11_n) (fx := f_X11_n σ2) (As := []) (c_X11_n hw hN) (ok_X11_n) (ltb rfl) (all3 gw_1441 gw_1443 gw_68) (ik_306 hw hN) (by decide) (q := (RX11, TX11, 39)) rfl rfl rfl rfl (Nat.le_of_ble_eq_true rfl) dX11_laysDue_30 (fun v4 => ?_)
    refine jo_icmp_ge (pc := 33) dX11_laysDue_33 (tgt := 74) rfl ?_ ?_
    · exact jo_return (pc := 74) rfl rfl dX11_laysDue_74
    · refine jo_aload_n (pc := 36) 0 rfl dX11_laysDue_36 rfl ?_
      refine jo_iload (pc := 37) 4 rfl dX11_laysDue_37 ?_
      refine jo_cV_I_p (pc := 39) (μ' := mu_X11_weight) (fx := f_X11_weight σ2 i3) (As := [.int i3]) (c_X11_weight hw hN) (ok_X11_weight) (ltb rfl) (all3 gw_1446 gw_1448 gw_69) (ik_306 hw hN) (by decide) (q := (RX11, TX11, 39)) rfl rfl rfl rfl (Nat.le_of_ble_eq_true rfl) dX11_laysDue_39 (fun v5 => ?_)
      refine jo_iload_n (pc := 42) 3 rfl dX11_laysDue_42 rfl ?_
      refine jo_join1 (S := Mem) (fun (z6 : Mem) => z6) (fun (z6 : Mem) => [(0, .ref (adr w 306)), (1, .int x0), (2, .int x1), (3, .int x2), (4, .int i3)]) (fun (z6 : Mem) => []) 68 ?_ (fun h68_6 => ?_)
      · intro σ6
        show JO w mu_X11_laysDue vV σ6 [(0, .ref (adr w 306)), (1, .int x0), (2, .int x1), (3, .int x2), (4, .int i3)] [] 68 (j_X11_laysDue_68 i3 σ6) _
        unfold j_X11_laysDue_68
        refine jo_iinc (pc := 68) (lv' := [(4, .int (i3 + 1)), (0, .ref (adr w 306)), (1, .int x0), (2, .int x1), (3, .int x2)]) 4 rfl dX11_laysDue_68 (congrArg (fun z => i3 + z) (ic_i_1)) (ltb rfl) rfl ?_
        refine jo_goto (pc := 71) dX11_laysDue_71 (tgt := 27) rfl ?_
        refine jo_lv (lv' := [(0, .ref (adr w 306)), (1, .int x0), (2, .int x1), (3, .int x2), (4, .int (i3 + 1))]) [1, 2, 3, 4, 0] rfl ?_
        exact jo_leaf (by rfl) (hF27_3 (σ6, i3 + 1))
      · refine jo_icmp_ne (pc := 43) dX11_laysDue_43 (tgt := 68) rfl ?_ ?_
        · exact jo_leaf (by rfl) (h68_6 σ2)
        · refine jo_aload_n (pc := 46) 0 rfl dX11_laysDue_46 rfl ?_
          refine jo_getrE (pc := 47) ok_11_32 (ik_306 hw hN) rf_306_32 gw_1325 dX11_laysDue_47 ?_
          refine jo_iload (pc := 50) 4 rfl dX11_laysDue_50 ?_
          refine jo_aload_n (pc := 52) 0 rfl dX11_laysDue_52 rfl ?_
          refine jo_iload_n (pc := 53) 2 rfl dX11_laysDue_53 rfl ?_
          refine jo_iload (pc := 54) 4 rfl dX11_laysDue_54 ?_
          refine jo_cV_J_p (pc := 56) (μ' := mu_X11_of) (fx := f_X11_of σ2 x1 i3) (As := [.int x1, .int i3]) (c_X11_of hw hN) (ok_X11_of) (ltb rfl) (all3 gw_1527 gw_1529 gw_87) (ik_306 hw hN) (by decide) (q := (RX11, TX11, 39)) rfl rfl rfl rfl (Nat.le_of_ble_eq_true rfl) dX11_laysDue_56 (fun v7 => ?_)
          refine jo_aload_n (pc := 59) 0 rfl dX11_laysDue_59 rfl ?_
          refine jo_iload_n (pc := 60) 1 rfl dX11_laysDue_60 rfl ?_
          refine jo_iload (pc := 61) 4 rfl dX11_laysDue_61 ?_
          refine jo_cV_J_p (pc := 63) (μ' := mu_X11_of) (fx := f_X11_of σ2 x0 i3) (As := [.int x0, .int i3]) (c_X11_of hw hN) (ok_X11_of) (ltb rfl) (all3 gw_1527 gw_1529 gw_87) (ik_306 hw hN) (by decide) (q := (RX11, TX11, 39)) rfl rfl rfl rfl (Nat.le_of_ble_eq_true rfl) dX11_laysDue_63 (fun v8 => ?_)
          refine jo_lsub (pc := 66) dX11_laysDue_66 ?_
          refine jo_last (pc := 67) (ik_321 hw hN) dX11_laysDue_67 (fun σ9 => ?_)
          exact jo_leaf (by rfl) (h68_6 σ9)
  · refine jo_lv (lv' := [(0, .ref (adr w 306)), (1, .int x0), (2, .int x1), (3, .int x2), (4, .int 0)]) [1, 2, 3, 4, 0] rfl ?_
    refine jo_loop (X := Mem) (fun (z11 : (Mem × Int32)) => z11.1) (fun (z11 : (Mem × Int32)) => [(0, .ref (adr w 306)), (1, .int x0), (2, .int x1), (3, .int x2), (4, .int z11.2)]) (body := (fun (z11 : (Mem × Int32)) => l_X11_laysDue_3 z11.1 z11.2)) (fun F3_11 hF3_11 s => ?_) (σ, 0)
    obtain ⟨σ10, i11⟩ := s
    show JO w mu_X11_laysDue vV σ10 [(0, .ref (adr w 306)), (1, .int x0), (2, .int x1), (3, .int x2), (4, .int i11)] [] 3 (l_X11_laysDue_3 σ10 i11) _
    unfold l_X11_laysDue_3
    refine jo_iload (pc := 3) 4 rfl dX11_laysDue_3 ?_
    refine jo_bipush (pc := 5) dX11_laysDue_5 (ic_b_18) ?_
    refine jo_icmp_ge (pc := 7) dX11_laysDue_7 (tgt := 24) rfl ?_ ?_
    · refine jo_lv (lv' := [(0, .ref (adr w 306)), (1, .int x0), (2, .int x1), (3, .int x2)]) [0, 1, 2, 3] rfl ?_
      exact jo_leaf (by rfl) (h24_1 σ10)
    · refine jo_aload_n (pc := 10) 0 rfl dX11_laysDue_10 rfl ?_
      refine jo_getrE (pc := 11) ok_11_32 (ik_306 hw hN) rf_306_32 gw_1325 dX11_laysDue_11 ?_
      refine jo_iload (pc := 14) 4 rfl dX11_laysDue_14 ?_
      refine jo_lconst (pc := 16) dX11_laysDue_16 (ic_l_0) ?_
      refine jo_last (pc := 17) (ik_321 hw hN) dX11_laysDue_17 (fun σ12 => ?_)
      refine jo_iinc (pc := 18) (lv' := [(4, .int (i11 + 1)), (0, .ref (adr w 306)), (1, .int x0), (2, .int x1), (3, .int x2)]) 4 rfl dX11_laysDue_18 (congrArg (fun z => i11 + z) (ic_i_1)) (ltb rfl) rfl ?_
      refine jo_goto (pc := 21) dX11_laysDue_21 (tgt := 3) rfl ?_
      refine jo_lv (lv' := [(0, .ref (adr w 306)), (1, .int x0), (2, .int x1), (3, .int x2), (4, .int (i11 + 1))]) [1, 2, 3, 4, 0] rfl ?_
      exact jo_leaf (by rfl) (hF3_11 (σ12, i11 + 1))
theorem c_X11_laysDue {w : Wd} (hw : WOK w) (hN : wn w = NT) {σ : Mem} {x0 : Int32} {x1 : Int32} {x2 : Int32} : ∀ σ', f_X11_laysDue σ x0 x1 x2 = some σ' → MC w mu_X11_laysDue none [.ref (adr w 306), .int x0, .int x1, .int x2] σ σ' := mc_ofV ok_X11_laysDue rfl (Nat.le_of_ble_eq_true rfl) (t_X11_laysDue hw hN)
abbrev mu_X11_areAlikeInLast : MD := (yX11_areAlikeInLast, cX11_areAlikeInLast, 3, some .boolean, 7)
theorem ok_X11_areAlikeInLast : MOK mu_X11_areAlikeInLast 0 := ⟨gw_1901, gw_171, (by decide +kernel : plainFor yX11_areAlikeInLast = true), ⟨(by decide +kernel : yX11_areAlikeInLast.cls ≠ "java/lang/invoke/MethodHandle"), (by decide +kernel : yX11_areAlikeInLast.cls ≠ "java/lang/invoke/VarHandle"), (by decide +kernel : (parseMethodDescriptor yX11_areAlikeInLast.desc).map (fun d => d.parameters.length) = some 0)⟩, Nat.le_of_ble_eq_true rfl⟩
noncomputable def j_X11_areAlikeInLast_117 (σ4 : Mem) : Option (Bool × Mem) :=
  (f_X11_laysDue σ4 2 1 3).bind (fun (σ5 : Mem) => bq (f_X11_canMake σ5) (fun (b6 : Bool) (σ7 : Mem) => some (b6, σ7)))
noncomputable def j_X11_areAlikeInLast_111 (i9 : Int32) (σ12 : Mem) : Option ((Mem × Int32) ⊕ Mem) :=
  some (Sum.inl (σ12, i9 + 1))
noncomputable def l_X11_areAlikeInLast_75 (σ8 : Mem) (i9 : Int32) : Option ((Mem × Int32) ⊕ Mem) :=
  (f_X11_n σ8).bind (fun (v10 : Int32) => if v10 ≤ i9 then (some (Sum.inr σ8)) else ((f_X11_weight σ8 i9).bind (fun (v11 : Int32) => (if v11 = 2 then ((f_X11_letterAt σ8 40 i9 1).bind (fun (σ13 : Mem) => (f_X11_adds σ13 2 40 3).bind (fun (σ14 : Mem) => some σ14))) else (some σ8) : Option Mem).bind (fun (z12 : Mem) => j_X11_areAlikeInLast_111 i9 z12))))
noncomputable def j_X11_areAlikeInLast_73 (σ3 : Mem) : Option (Bool × Mem) :=
  (loopO (fun (z9 : (Mem × Int32)) => l_X11_areAlikeInLast_75 z9.1 z9.2) (σ3, 0) : Option Mem).bind (fun (z4 : Mem) => j_X11_areAlikeInLast_117 z4)
noncomputable def j_X11_areAlikeInLast_59 (i16 : Int32) (σ18 : Mem) : Option ((Mem × Int32) ⊕ Mem) :=
  (f_X11_adds σ18 2 40 3).bind (fun (σ19 : Mem) => some (Sum.inl (σ19, i16 + 1)))
noncomputable def l_X11_areAlikeInLast_29 (i16 : Int32) (σ20 : Mem) (i21 : Int32) : Option ((Mem × Int32) ⊕ Mem) :=
  if 6 ≤ i21 then (some (Sum.inr σ20)) else (gL σ20 322 ((6 * i16) + i21) (fun (v22 : Int64) => (f_X11_puts σ20 40 i21 v22).bind (fun (σ23 : Mem) => some (Sum.inl (σ23, i21 + 1)))))
noncomputable def l_X11_areAlikeInLast_19 (σ15 : Mem) (i16 : Int32) : Option ((Mem × Int32) ⊕ Mem) :=
  gF σ15 306 36 (fun (v17 : Int32) => if v17 ≤ i16 then (some (Sum.inr σ15)) else ((loopO (fun (z21 : (Mem × Int32)) => l_X11_areAlikeInLast_29 i16 z21.1 z21.2) (σ15, 0) : Option Mem).bind (fun (z18 : Mem) => j_X11_areAlikeInLast_59 i16 z18)))
noncomputable def f_X11_areAlikeInLast (σ : Mem) : Option (Bool × Mem) :=
  (f_X11_areAlikeUpTo σ 2 2 1).bind (fun (b1 : Bool) => if b1 then pF σ 306 31 0 (fun (σ2 : Mem) => (loopO (fun (z16 : (Mem × Int32)) => l_X11_areAlikeInLast_19 z16.1 z16.2) (σ2, 0) : Option Mem).bind (fun (z3 : Mem) => j_X11_areAlikeInLast_73 z3)) else some (false, σ))
theorem t_X11_areAlikeInLast {w : Wd} (hw : WOK w) (hN : wn w = NT) {σ : Mem} : JO w mu_X11_areAlikeInLast vB σ [(0, .ref (adr w 306))] [] 0 (f_X11_areAlikeInLast σ) some := by
  unfold f_X11_areAlikeInLast
  refine jo_aload_n (pc := 0) 0 rfl dX11_areAlikeInLast_0 rfl ?_
  refine jo_iconst (pc := 1) dX11_areAlikeInLast_1 (ic_i_2) ?_
  refine jo_iconst (pc := 2) dX11_areAlikeInLast_2 (ic_i_2) ?_
  refine jo_iconst (pc := 3) dX11_areAlikeInLast_3 (ic_i_1) ?_
  refine jo_cV_Z_p (pc := 4) (μ' := mu_X11_areAlikeUpTo) (fx := f_X11_areAlikeUpTo σ 2 2 1) (As := [.int 2, .int 2, .int 1]) (c_X11_areAlikeUpTo hw hN) (ok_X11_areAlikeUpTo) (ltb rfl) (all3 gw_1882 gw_1884 gw_148) (ik_306 hw hN) (by decide) (q := (RX11, TX11, 39)) rfl rfl rfl rfl (Nat.le_of_ble_eq_true rfl) dX11_areAlikeInLast_4 (fun b1 => ?_)
  refine jo_ifz_ne (pc := 7) dX11_areAlikeInLast_7 (tgt := 12) rfl ?_ ?_
  · refine jo_aload_n (pc := 12) 0 rfl dX11_areAlikeInLast_12 rfl ?_
    refine jo_iconst (pc := 13) dX11_areAlikeInLast_13 (ic_i_0) ?_
    refine jo_putf (pc := 14) ok_11_31 okp_11_31 (ik_306 hw hN) gw_1324 dX11_areAlikeInLast_14 (fun σ2 => ?_)
    refine jo_iconst (pc := 17) dX11_areAlikeInLast_17 (ic_i_0) ?_
    refine jo_istore_n (pc := 18) (lv' := [(1, .int 0), (0, .ref (adr w 306))]) dX11_areAlikeInLast_18 rfl (ltb rfl) rfl ?_
    refine jo_join1 (S := Mem) (fun (z3 : Mem) => z3) (fun (z3 : Mem) => [(0, .ref (adr w 306))]) (fun (z3 : Mem) => []) 73 ?_ (fun h73_3 => ?_)
    · intro σ3
      show JO w mu_X11_areAlikeInLast vB σ3 [(0, .ref (adr w 306))] [] 73 (j_X11_areAlikeInLast_73 σ3) _
      unfold j_X11_areAlikeInLast_73
      refine jo_iconst (pc := 73) dX11_areAlikeInLast_73 (ic_i_0) ?_
      refine jo_istore_n (pc := 74) (lv' := [(1, .int 0), (0, .ref (adr w 306))]) dX11_areAlikeInLast_74 rfl (ltb rfl) rfl ?_
      refine jo_join1 (S := Mem) (fun (z4 : Mem) => z4) (fun (z4 : Mem) => [(0, .ref (adr w 306))]) (fun (z4 : Mem) => []) 117 ?_ (fun h117_4 => ?_)
      · intro σ4
        show JO w mu_X11_areAlikeInLast vB σ4 [(0, .ref (adr w 306))] [] 117 (j_X11_areAlikeInLast_117 σ4) _
        unfold j_X11_areAlikeInLast_117
        refine jo_aload_n (pc := 117) 0 rfl dX11_areAlikeInLast_117 rfl ?_
        refine jo_iconst (pc := 118) dX11_areAlikeInLast_118 (ic_i_2) ?_
        refine jo_iconst (pc := 119) dX11_areAlikeInLast_119 (ic_i_1) ?_
        refine jo_iconst (pc := 120) dX11_areAlikeInLast_120 (ic_i_3) ?_
        refine jo_cV_V_i (pc := 121) (μ' := mu_X11_laysDue) (fx := f_X11_laysDue σ4 2 1 3) (As := [.int 2, .int 1, .int 3]) (c_X11_laysDue hw hN) (ok_X11_laysDue) (ltb rfl) (all3 gw_1894 gw_1896 gw_151) (ik_306 hw hN) (by decide) (q := (RX11, TX11, 39)) rfl rfl rfl rfl (Nat.le_of_ble_eq_true rfl) dX11_areAlikeInLast_121 (fun σ5 => ?_)
        refine jo_aload_n (pc := 124) 0 rfl dX11_areAlikeInLast_124 rfl ?_
        refine jo_cV_Z_i (pc := 125) (μ' := mu_X11_canMake) (fx := f_X11_canMake σ5) (As := []) (c_X11_canMake hw hN) (ok_X11_canMake) (ltb rfl) (all3 gw_1829 gw_1831 gw_138) (ik_306 hw hN) (by decide) (q := (RX11, TX11, 39)) rfl rfl rfl rfl (Nat.le_of_ble_eq_true rfl) dX11_areAlikeInLast_125 (fun b6 σ7 => ?_)
        exact jo_breturn (pc := 128) (b := b6) rfl rfl dX11_areAlikeInLast_128
      · refine jo_lv (lv' := [(0, .ref (adr w 306)), (1, .int 0)]) [1, 0] rfl ?_
        refine jo_loop (X := Mem) (fun (z9 : (Mem × Int32)) => z9.1) (fun (z9 : (Mem × Int32)) => [(0, .ref (adr w 306)), (1, .int z9.2)]) (body := (fun (z9 : (Mem × Int32)) => l_X11_areAlikeInLast_75 z9.1 z9.2)) (fun F75_9 hF75_9 s => ?_) (σ3, 0)
        obtain ⟨σ8, i9⟩ := s
        show JO w mu_X11_areAlikeInLast vB σ8 [(0, .ref (adr w 306)), (1, .int i9)] [] 75 (l_X11_areAlikeInLast_75 σ8 i9) _
        unfold l_X11_areAlikeInLast_75
        refine jo_iload_n (pc := 75) 1 rfl dX11_areAlikeInLast_75 rfl ?_
        refine jo_aload_n (pc := 76) 0 rfl dX11_areAlikeInLast_76 rfl ?_
        refine jo_cV_I_p (pc := 77) (μ' := mu_X11_n) (fx := f_X11_n σ8) (As := []) (c_X11_n hw hN) (ok_X11_n) (ltb rfl) (all3 gw_1441 gw_1443 gw_68) (ik_306 hw hN) (by decide) (q := (RX11, TX11, 39)) rfl rfl rfl rfl (Nat.le_of_ble_eq_true rfl) dX11_areAlikeInLast_77 (fun v10 => ?_)
        refine jo_icmp_ge (pc := 80) dX11_areAlikeInLast_80 (tgt := 117) rfl ?_ ?_
        · refine jo_lv (lv' := [(0, .ref (adr w 306))]) [0] rfl ?_
          exact jo_leaf (by rfl) (h117_4 σ8)
        · refine jo_aload_n (pc := 83) 0 rfl dX11_areAlikeInLast_83 rfl ?_
          refine jo_iload_n (pc := 84) 1 rfl dX11_areAlikeInLast_84 rfl ?_
          refine jo_cV_I_p (pc := 85) (μ' := mu_X11_weight) (fx := f_X11_weight σ8 i9) (As := [.int i9]) (c_X11_weight hw hN) (ok_X11_weight) (ltb rfl) (all3 gw_1446 gw_1448 gw_69) (ik_306 hw hN) (by decide) (q := (RX11, TX11, 39)) rfl rfl rfl rfl (Nat.le_of_ble_eq_true rfl) dX11_areAlikeInLast_85 (fun v11 => ?_)
          refine jo_iconst (pc := 88) dX11_areAlikeInLast_88 (ic_i_2) ?_
          refine jo_join1 (S := Mem) (fun (z12 : Mem) => z12) (fun (z12 : Mem) => [(0, .ref (adr w 306)), (1, .int i9)]) (fun (z12 : Mem) => []) 111 ?_ (fun h111_12 => ?_)
          · intro σ12
            show JO w mu_X11_areAlikeInLast vB σ12 [(0, .ref (adr w 306)), (1, .int i9)] [] 111 (j_X11_areAlikeInLast_111 i9 σ12) _
            unfold j_X11_areAlikeInLast_111
            refine jo_iinc (pc := 111) (lv' := [(1, .int (i9 + 1)), (0, .ref (adr w 306))]) 1 rfl dX11_areAlikeInLast_111 (congrArg (fun z => i9 + z) (ic_i_1)) (ltb rfl) rfl ?_
            refine jo_goto (pc := 114) dX11_areAlikeInLast_114 (tgt := 75) rfl ?_
            refine jo_lv (lv' := [(0, .ref (adr w 306)), (1, .int (i9 + 1))]) [1, 0] rfl ?_
            exact jo_leaf (by rfl) (hF75_9 (σ12, i9 + 1))
          · refine jo_icmp_eq (pc := 89) dX11_areAlikeInLast_89 (tgt := 95) rfl ?_ ?_
            · refine jo_aload_n (pc := 95) 0 rfl dX11_areAlikeInLast_95 rfl ?_
              refine jo_bipush (pc := 96) dX11_areAlikeInLast_96 (ic_b_40) ?_
              refine jo_iload_n (pc := 98) 1 rfl dX11_areAlikeInLast_98 rfl ?_
              refine jo_lconst (pc := 99) dX11_areAlikeInLast_99 (ic_l_1) ?_
              refine jo_cV_V_i (pc := 100) (μ' := mu_X11_letterAt) (fx := f_X11_letterAt σ8 40 i9 1) (As := [.int 40, .int i9, .long 1]) (c_X11_letterAt hw hN) (ok_X11_letterAt) (ltb rfl) (all3 gw_1886 gw_1888 gw_149) (ik_306 hw hN) (by decide) (q := (RX11, TX11, 39)) rfl rfl rfl rfl (Nat.le_of_ble_eq_true rfl) dX11_areAlikeInLast_100 (fun σ13 => ?_)
              refine jo_aload_n (pc := 103) 0 rfl dX11_areAlikeInLast_103 rfl ?_
              refine jo_iconst (pc := 104) dX11_areAlikeInLast_104 (ic_i_2) ?_
              refine jo_bipush (pc := 105) dX11_areAlikeInLast_105 (ic_b_40) ?_
              refine jo_iconst (pc := 107) dX11_areAlikeInLast_107 (ic_i_3) ?_
              refine jo_cV_V_i (pc := 108) (μ' := mu_X11_adds) (fx := f_X11_adds σ13 2 40 3) (As := [.int 2, .int 40, .int 3]) (c_X11_adds hw hN) (ok_X11_adds) (ltb rfl) (all3 gw_1890 gw_1892 gw_150) (ik_306 hw hN) (by decide) (q := (RX11, TX11, 39)) rfl rfl rfl rfl (Nat.le_of_ble_eq_true rfl) dX11_areAlikeInLast_108 (fun σ14 => ?_)
              exact jo_leaf (by rfl) (h111_12 σ14)
            · refine jo_goto (pc := 92) dX11_areAlikeInLast_92 (tgt := 111) rfl ?_
              exact jo_leaf (by rfl) (h111_12 σ8)
    · refine jo_lv (lv' := [(0, .ref (adr w 306)), (1, .int 0)]) [1, 0] rfl ?_
      refine jo_loop (X := Mem) (fun (z16 : (Mem × Int32)) => z16.1) (fun (z16 : (Mem × Int32)) => [(0, .ref (adr w 306)), (1, .int z16.2)]) (body := (fun (z16 : (Mem × Int32)) => l_X11_areAlikeInLast_19 z16.1 z16.2)) (fun F19_16 hF19_16 s => ?_) (σ2, 0)
      obtain ⟨σ15, i16⟩ := s
      show JO w mu_X11_areAlikeInLast vB σ15 [(0, .ref (adr w 306)), (1, .int i16)] [] 19 (l_X11_areAlikeInLast_19 σ15 i16) _
      unfold l_X11_areAlikeInLast_19
      refine jo_iload_n (pc := 19) 1 rfl dX11_areAlikeInLast_19 rfl ?_
      refine jo_aload_n (pc := 20) 0 rfl dX11_areAlikeInLast_20 rfl ?_
      refine jo_getf (pc := 21) ok_11_36 (ik_306 hw hN) gw_1329 dX11_areAlikeInLast_21 (fun v17 => ?_)
      refine jo_icmp_ge (pc := 24) dX11_areAlikeInLast_24 (tgt := 73) rfl ?_ ?_
      · refine jo_lv (lv' := [(0, .ref (adr w 306))]) [0] rfl ?_
        exact jo_leaf (by rfl) (h73_3 σ15)
      · refine jo_iconst (pc := 27) dX11_areAlikeInLast_27 (ic_i_0) ?_
        refine jo_istore_n (pc := 28) (lv' := [(2, .int 0), (0, .ref (adr w 306)), (1, .int i16)]) dX11_areAlikeInLast_28 rfl (ltb rfl) rfl ?_
        refine jo_join1 (S := Mem) (fun (z18 : Mem) => z18) (fun (z18 : Mem) => [(0, .ref (adr w 306)), (1, .int i16)]) (fun (z18 : Mem) => []) 59 ?_ (fun h59_18 => ?_)
        · intro σ18
          show JO w mu_X11_areAlikeInLast vB σ18 [(0, .ref (adr w 306)), (1, .int i16)] [] 59 (j_X11_areAlikeInLast_59 i16 σ18) _
          unfold j_X11_areAlikeInLast_59
          refine jo_aload_n (pc := 59) 0 rfl dX11_areAlikeInLast_59 rfl ?_
          refine jo_iconst (pc := 60) dX11_areAlikeInLast_60 (ic_i_2) ?_
          refine jo_bipush (pc := 61) dX11_areAlikeInLast_61 (ic_b_40) ?_
          refine jo_iconst (pc := 63) dX11_areAlikeInLast_63 (ic_i_3) ?_
          refine jo_cV_V_i (pc := 64) (μ' := mu_X11_adds) (fx := f_X11_adds σ18 2 40 3) (As := [.int 2, .int 40, .int 3]) (c_X11_adds hw hN) (ok_X11_adds) (ltb rfl) (all3 gw_1890 gw_1892 gw_150) (ik_306 hw hN) (by decide) (q := (RX11, TX11, 39)) rfl rfl rfl rfl (Nat.le_of_ble_eq_true rfl) dX11_areAlikeInLast_64 (fun σ19 => ?_)
          refine jo_iinc (pc := 67) (lv' := [(1, .int (i16 + 1)), (0, .ref (adr w 306))]) 1 rfl dX11_areAlikeInLast_67 (congrArg (fun z => i16 + z) (ic_i_1)) (ltb rfl) rfl ?_
          refine jo_goto (pc := 70) dX11_areAlikeInLast_70 (tgt := 19) rfl ?_
          refine jo_lv (lv' := [(0, .ref (adr w 306)), (1, .int (i16 + 1))]) [1, 0] rfl ?_
          exact jo_leaf (by rfl) (hF19_16 (σ19, i16 + 1))
        · refine jo_lv (lv' := [(0, .ref (adr w 306)), (1, .int i16), (2, .int 0)]) [1, 2, 0] rfl ?_
          refine jo_loop (X := Mem) (fun (z21 : (Mem × Int32)) => z21.1) (fun (z21 : (Mem × Int32)) => [(0, .ref (adr w 306)), (1, .int i16), (2, .int z21.2)]) (body := (fun (z21 : (Mem × Int32)) => l_X11_areAlikeInLast_29 i16 z21.1 z21.2)) (fun F29_21 hF29_21 s => ?_) (σ15, 0)
          obtain ⟨σ20, i21⟩ := s
          show JO w mu_X11_areAlikeInLast vB σ20 [(0, .ref (adr w 306)), (1, .int i16), (2, .int i21)] [] 29 (l_X11_areAlikeInLast_29 i16 σ20 i21) _
          unfold l_X11_areAlikeInLast_29
          refine jo_iload_n (pc := 29) 2 rfl dX11_areAlikeInLast_29 rfl ?_
          refine jo_bipush (pc := 30) dX11_areAlikeInLast_30 (ic_b_6) ?_
          refine jo_icmp_ge (pc := 32) dX11_areAlikeInLast_32 (tgt := 59) rfl ?_ ?_
          · refine jo_lv (lv' := [(0, .ref (adr w 306)), (1, .int i16)]) [0, 1] rfl ?_
            exact jo_leaf (by rfl) (h59_18 σ20)
          · refine jo_aload_n (pc := 35) 0 rfl dX11_areAlikeInLast_35 rfl ?_
            refine jo_bipush (pc := 36) dX11_areAlikeInLast_36 (ic_b_40) ?_
            refine jo_iload_n (pc := 38) 2 rfl dX11_areAlikeInLast_38 rfl ?_
            refine jo_aload_n (pc := 39) 0 rfl dX11_areAlikeInLast_39 rfl ?_
            refine jo_getrE (pc := 40) ok_11_35 (ik_306 hw hN) rf_306_35 gw_1328 dX11_areAlikeInLast_40 ?_
            refine jo_bipush (pc := 43) dX11_areAlikeInLast_43 (ic_b_6) ?_
            refine jo_iload_n (pc := 45) 1 rfl dX11_areAlikeInLast_45 rfl ?_
            refine jo_imul (pc := 46) dX11_areAlikeInLast_46 ?_
            refine jo_iload_n (pc := 47) 2 rfl dX11_areAlikeInLast_47 rfl ?_
            refine jo_iadd (pc := 48) dX11_areAlikeInLast_48 ?_
            refine jo_lald (pc := 49) (ik_322 hw hN) dX11_areAlikeInLast_49 (fun v22 => ?_)
            refine jo_cV_V_i (pc := 50) (μ' := mu_X11_puts) (fx := f_X11_puts σ20 40 i21 v22) (As := [.int 40, .int i21, .long v22]) (c_X11_puts hw hN) (ok_X11_puts) (ltb rfl) (all3 gw_1519 gw_1521 gw_85) (ik_306 hw hN) (by decide) (q := (RX11, TX11, 39)) rfl rfl rfl rfl (Nat.le_of_ble_eq_true rfl) dX11_areAlikeInLast_50 (fun σ23 => ?_)
            refine jo_iinc (pc := 53) (lv' := [(2, .int (i21 + 1)), (0, .ref (adr w 306)), (1, .int i16)]) 2 rfl dX11_areAlikeInLast_53 (congrArg (fun z => i21 + z) (ic_i_1)) (ltb rfl) rfl ?_
            refine jo_goto (pc := 56) dX11_areAlikeInLast_56 (tgt := 29) rfl ?_
            refine jo_lv (lv' := [(0, .ref (adr w 306)), (1, .int i16), (2, .int (i21 + 1))]) [1, 2, 0] rfl ?_
            exact jo_leaf (by rfl) (hF29_21 (σ23, i21 + 1))
  · refine jo_iconst (pc := 10) dX11_areAlikeInLast_10 (ic_i_0) ?_
    exact jo_breturn (pc := 11) (b := false) rfl rfl dX11_areAlikeInLast_11
theorem c_X11_areAlikeInLast {w : Wd} (hw : WOK w) (hN : wn w = NT) {σ : Mem} : ∀ r σ', f_X11_areAlikeInLast σ = some (r, σ') → MC w mu_X11_areAlikeInLast (vB r) [.ref (adr w 306)] σ σ' := mc_of ok_X11_areAlikeInLast rfl (Nat.le_of_ble_eq_true rfl) (t_X11_areAlikeInLast hw hN)
end
section
abbrev mu_X11_areAlike : MD := (yX11_areAlike, cX11_areAlike, 3, some .boolean, 8)
theorem ok_X11_areAlike : MOK mu_X11_areAlike 0 := ⟨gw_1881, gw_171, (by decide +kernel : plainFor yX11_areAlike = true), ⟨(by decide +kernel : yX11_areAlike.cls ≠ "java/lang/invoke/MethodHandle"), (by decide +kernel : yX11_areAlike.cls ≠ "java/lang/invoke/VarHandle"), (by decide +kernel : (parseMethodDescriptor yX11_areAlike.desc).map (fun d => d.parameters.length) = some 0)⟩, Nat.le_of_ble_eq_true rfl⟩
noncomputable def j_X11_areAlike_187 (σ11 : Mem) : Option (Bool × Mem) :=
  (f_X11_conjugates σ11 0 41 42).bind (fun (σ12 : Mem) => (f_X11_copies σ12 42 2).bind (fun (σ13 : Mem) => bq (f_X11_areAlikeInLast σ13) (fun (b14 : Bool) (σ15 : Mem) => some (b14, σ15))))
noncomputable def l_X11_areAlike_156 (σ16 : Mem) (i17 : Int32) : Option ((Mem × Int32) ⊕ Mem) :=
  (f_X11_n σ16).bind (fun (v18 : Int32) => if v18 ≤ i17 then (some (Sum.inr σ16)) else (gL σ16 321 (12 + i17) (fun (v19 : Int64) => (f_X11_puts σ16 41 i17 (-v19)).bind (fun (σ20 : Mem) => some (Sum.inl (σ20, i17 + 1))))))
noncomputable def j_X11_areAlike_148 (σ9 : Mem) : Option (Bool × Mem) :=
  (f_X11_ones σ9 41).bind (fun (σ10 : Mem) => (loopO (fun (z17 : (Mem × Int32)) => l_X11_areAlike_156 z17.1 z17.2) (σ10, 0) : Option Mem).bind (fun (z11 : Mem) => j_X11_areAlike_187 z11))
noncomputable def j_X11_areAlike_132 (i22 : Int32) (σ24 : Mem) : Option ((Mem × Int32) ⊕ Mem) :=
  gF σ24 306 36 (fun (v25 : Int32) => pF σ24 306 36 (v25 + 1) (fun (σ26 : Mem) => some (Sum.inl (σ26, i22 + 1))))
noncomputable def l_X11_areAlike_97 (i22 : Int32) (σ27 : Mem) (i28 : Int32) : Option ((Mem × Int32) ⊕ Mem) :=
  if 6 ≤ i28 then (some (Sum.inr σ27)) else (gF σ27 306 36 (fun (v29 : Int32) => (f_X11_ofColumn σ27 i22 (12 + i28)).bind (fun (v30 : Int64) => pL σ27 322 ((6 * v29) + i28) v30 (fun (σ31 : Mem) => some (Sum.inl (σ31, i28 + 1))))))
noncomputable def l_X11_areAlike_87 (σ21 : Mem) (i22 : Int32) : Option ((Mem × Int32) ⊕ Mem) :=
  gF σ21 306 31 (fun (v23 : Int32) => if v23 ≤ i22 then (some (Sum.inr σ21)) else ((loopO (fun (z28 : (Mem × Int32)) => l_X11_areAlike_97 i22 z28.1 z28.2) (σ21, 0) : Option Mem).bind (fun (z24 : Mem) => j_X11_areAlike_132 i22 z24)))
noncomputable def j_X11_areAlike_61 (σ3 : Mem) : Option (Bool × Mem) :=
  (f_X11_laysDue σ3 0 1 2).bind (fun (σ4 : Mem) => bq (f_X11_canMake σ4) (fun (b5 : Bool) (σ6 : Mem) => if b5 then pF σ6 306 36 0 (fun (σ7 : Mem) => gF σ7 306 34 (fun (v8 : Int32) => (loopO (fun (z22 : (Mem × Int32)) => l_X11_areAlike_87 z22.1 z22.2) (σ7, v8) : Option Mem).bind (fun (z9 : Mem) => j_X11_areAlike_148 z9))) else some (false, σ6)))
noncomputable def j_X11_areAlike_55 (i33 : Int32) (σ36 : Mem) : Option ((Mem × Int32) ⊕ Mem) :=
  some (Sum.inl (σ36, i33 + 1))
noncomputable def l_X11_areAlike_19 (σ32 : Mem) (i33 : Int32) : Option ((Mem × Int32) ⊕ Mem) :=
  (f_X11_n σ32).bind (fun (v34 : Int32) => if v34 ≤ i33 then (some (Sum.inr σ32)) else ((f_X11_weight σ32 i33).bind (fun (v35 : Int32) => (if v35 ≤ 1 then ((f_X11_letterAt σ32 40 i33 1).bind (fun (σ37 : Mem) => (f_X11_adds σ37 0 40 2).bind (fun (σ38 : Mem) => some σ38))) else (some σ32) : Option Mem).bind (fun (z36 : Mem) => j_X11_areAlike_55 i33 z36))))
noncomputable def f_X11_areAlike (σ : Mem) : Option (Bool × Mem) :=
  (f_X11_areAlikeUpTo σ 1 0 1).bind (fun (b1 : Bool) => if b1 then pF σ 306 31 0 (fun (σ2 : Mem) => (loopO (fun (z33 : (Mem × Int32)) => l_X11_areAlike_19 z33.1 z33.2) (σ2, 0) : Option Mem).bind (fun (z3 : Mem) => j_X11_areAlike_61 z3)) else some (false, σ))
theorem t_X11_areAlike {w : Wd} (hw : WOK w) (hN : wn w = NT) {σ : Mem} : JO w mu_X11_areAlike vB σ [(0, .ref (adr w 306))] [] 0 (f_X11_areAlike σ) some := by
  unfold f_X11_areAlike
  refine jo_aload_n (pc := 0) 0 rfl dX11_areAlike_0 rfl ?_
  refine jo_iconst (pc := 1) dX11_areAlike_1 (ic_i_1) ?_
  refine jo_iconst (pc := 2) dX11_areAlike_2 (ic_i_0) ?_
  refine jo_iconst (pc := 3) dX11_areAlike_3 (ic_i_1) ?_
  refine jo_cV_Z_p (pc := 4) (μ' := mu_X11_areAlikeUpTo) (fx := f_X11_areAlikeUpTo σ 1 0 1) (As := [.int 1, .int 0, .int 1]) (c_X11_areAlikeUpTo hw hN) (ok_X11_areAlikeUpTo) (ltb rfl) (all3 gw_1882 gw_1884 gw_148) (ik_306 hw hN) (by decide) (q := (RX11, TX11, 39)) rfl rfl rfl rfl (Nat.le_of_ble_eq_true rfl) dX11_areAlike_4 (fun b1 => ?_)
  refine jo_ifz_ne (pc := 7) dX11_areAlike_7 (tgt := 12) rfl ?_ ?_
  · refine jo_aload_n (pc := 12) 0 rfl dX11_areAlike_12 rfl ?_
    refine jo_iconst (pc := 13) dX11_areAlike_13 (ic_i_0) ?_
    refine jo_putf (pc := 14) ok_11_31 okp_11_31 (ik_306 hw hN) gw_1324 dX11_areAlike_14 (fun σ2 => ?_)
    refine jo_iconst (pc := 17) dX11_areAlike_17 (ic_i_0) ?_
    refine jo_istore_n (pc := 18) (lv' := [(1, .int 0), (0, .ref (adr w 306))]) dX11_areAlike_18 rfl (ltb rfl) rfl ?_
    refine jo_join1 (S := Mem) (fun (z3 : Mem) => z3) (fun (z3 : Mem) => [(0, .ref (adr w 306))]) (fun (z3 : Mem) => []) 61 ?_ (fun h61_3 => ?_)
    · intro σ3
      show JO w mu_X11_areAlike vB σ3 [(0, .ref (adr w 306))] [] 61 (j_X11_areAlike_61 σ3) _
      unfold j_X11_areAlike_61
      refine jo_aload_n (pc := 61) 0 rfl dX11_areAlike_61 rfl ?_
      refine jo_iconst (pc := 62) dX11_areAlike_62 (ic_i_0) ?_
      refine jo_iconst (pc := 63) dX11_areAlike_63 (ic_i_1) ?_
      refine jo_iconst (pc := 64) dX11_areAlike_64 (ic_i_2) ?_
      refine jo_cV_V_i (pc := 65) (μ' := mu_X11_laysDue) (fx := f_X11_laysDue σ3 0 1 2) (As := [.int 0, .int 1, .int 2]) (c_X11_laysDue hw hN) (ok_X11_laysDue) (ltb rfl) (all3 gw_1894 gw_1896 gw_151) (ik_306 hw hN) (by decide) (q := (RX11, TX11, 39)) rfl rfl rfl rfl (Nat.le_of_ble_eq_true rfl) dX11_areAlike_65 (fun σ4 => ?_)
      refine jo_aload_n (pc := 68) 0 rfl dX11_areAlike_68 rfl ?_
      refine jo_cV_Z_i (pc := 69) (μ' := mu_X11_canMake) (fx := f_X11_canMake σ4) (As := []) (c_X11_canMake hw hN) (ok_X11_canMake) (ltb rfl) (all3 gw_1829 gw_1831 gw_138) (ik_306 hw hN) (by decide) (q := (RX11, TX11, 39)) rfl rfl rfl rfl (Nat.le_of_ble_eq_true rfl) dX11_areAlike_69 (fun b5 σ6 => ?_)
      refine jo_ifz_ne (pc := 72) dX11_areAlike_72 (tgt := 77) rfl ?_ ?_
      · refine jo_aload_n (pc := 77) 0 rfl dX11_areAlike_77 rfl ?_
        refine jo_iconst (pc := 78) dX11_areAlike_78 (ic_i_0) ?_
        refine jo_putf (pc := 79) ok_11_36 okp_11_36 (ik_306 hw hN) gw_1329 dX11_areAlike_79 (fun σ7 => ?_)
        refine jo_aload_n (pc := 82) 0 rfl dX11_areAlike_82 rfl ?_
        refine jo_getf (pc := 83) ok_11_34 (ik_306 hw hN) gw_1327 dX11_areAlike_83 (fun v8 => ?_)
        refine jo_istore_n (pc := 86) (lv' := [(1, .int v8), (0, .ref (adr w 306))]) dX11_areAlike_86 rfl (ltb rfl) rfl ?_
        refine jo_join1 (S := Mem) (fun (z9 : Mem) => z9) (fun (z9 : Mem) => [(0, .ref (adr w 306))]) (fun (z9 : Mem) => []) 148 ?_ (fun h148_9 => ?_)
        · intro σ9
          show JO w mu_X11_areAlike vB σ9 [(0, .ref (adr w 306))] [] 148 (j_X11_areAlike_148 σ9) _
          unfold j_X11_areAlike_148
          refine jo_aload_n (pc := 148) 0 rfl dX11_areAlike_148 rfl ?_
          refine jo_bipush (pc := 149) dX11_areAlike_149 (ic_b_41) ?_
          refine jo_cV_V_i (pc := 151) (μ' := mu_X11_ones) (fx := f_X11_ones σ9 41) (As := [.int 41]) (c_X11_ones hw hN) (ok_X11_ones) (ltb rfl) (all3 gw_1587 gw_1589 gw_99) (ik_306 hw hN) (by decide) (q := (RX11, TX11, 39)) rfl rfl rfl rfl (Nat.le_of_ble_eq_true rfl) dX11_areAlike_151 (fun σ10 => ?_)
          refine jo_iconst (pc := 154) dX11_areAlike_154 (ic_i_0) ?_
          refine jo_istore_n (pc := 155) (lv' := [(1, .int 0), (0, .ref (adr w 306))]) dX11_areAlike_155 rfl (ltb rfl) rfl ?_
          refine jo_join1 (S := Mem) (fun (z11 : Mem) => z11) (fun (z11 : Mem) => [(0, .ref (adr w 306))]) (fun (z11 : Mem) => []) 187 ?_ (fun h187_11 => ?_)
          · intro σ11
            show JO w mu_X11_areAlike vB σ11 [(0, .ref (adr w 306))] [] 187 (j_X11_areAlike_187 σ11) _
            unfold j_X11_areAlike_187
            refine jo_aload_n (pc := 187) 0 rfl dX11_areAlike_187 rfl ?_
            refine jo_iconst (pc := 188) dX11_areAlike_188 (ic_i_0) ?_
            refine jo_bipush (pc := 189) dX11_areAlike_189 (ic_b_41) ?_
            refine jo_bipush (pc := 191) dX11_areAlike_191 (ic_b_42) ?_
            refine jo_cV_V_i (pc := 193) (μ' := mu_X11_conjugates) (fx := f_X11_conjugates σ11 0 41 42) (As := [.int 0, .int 41, .int 42]) (c_X11_conjugates hw hN) (ok_X11_conjugates) (ltb rfl) (all3 gw_1617 gw_1619 gw_103) (ik_306 hw hN) (by decide) (q := (RX11, TX11, 39)) rfl rfl rfl rfl (Nat.le_of_ble_eq_true rfl) dX11_areAlike_193 (fun σ12 => ?_)
            refine jo_aload_n (pc := 196) 0 rfl dX11_areAlike_196 rfl ?_
            refine jo_bipush (pc := 197) dX11_areAlike_197 (ic_b_42) ?_
            refine jo_iconst (pc := 199) dX11_areAlike_199 (ic_i_2) ?_
            refine jo_cV_V_i (pc := 200) (μ' := mu_X11_copies) (fx := f_X11_copies σ12 42 2) (As := [.int 42, .int 2]) (c_X11_copies hw hN) (ok_X11_copies) (ltb rfl) (all3 gw_1591 gw_1593 gw_100) (ik_306 hw hN) (by decide) (q := (RX11, TX11, 39)) rfl rfl rfl rfl (Nat.le_of_ble_eq_true rfl) dX11_areAlike_200 (fun σ13 => ?_)
            refine jo_aload_n (pc := 203) 0 rfl dX11_areAlike_203 rfl ?_
            refine jo_cV_Z_i (pc := 204) (μ' := mu_X11_areAlikeInLast) (fx := f_X11_areAlikeInLast σ13) (As := []) (c_X11_areAlikeInLast hw hN) (ok_X11_areAlikeInLast) (ltb rfl) (all3 gw_1898 gw_1900 gw_152) (ik_306 hw hN) (by decide) (q := (RX11, TX11, 39)) rfl rfl rfl rfl (Nat.le_of_ble_eq_true rfl) dX11_areAlike_204 (fun b14 σ15 => ?_)
            exact jo_breturn (pc := 207) (b := b14) rfl rfl dX11_areAlike_207
          · refine jo_lv (lv' := [(0, .ref (adr w 306)), (1, .int 0)]) [1, 0] rfl ?_
            refine jo_loop (X := Mem) (fun (z17 : (Mem × Int32)) => z17.1) (fun (z17 : (Mem × Int32)) => [(0, .ref (adr w 306)), (1, .int z17.2)]) (body := (fun (z17 : (Mem × Int32)) => l_X11_areAlike_156 z17.1 z17.2)) (fun F156_17 hF156_17 s => ?_) (σ10, 0)
            obtain ⟨σ16, i17⟩ := s
            show JO w mu_X11_areAlike vB σ16 [(0, .ref (adr w 306)), (1, .int i17)] [] 156 (l_X11_areAlike_156 σ16 i17) _
            unfold l_X11_areAlike_156
            refine jo_iload_n (pc := 156) 1 rfl dX11_areAlike_156 rfl ?_
            refine jo_aload_n (pc := 157) 0 rfl dX11_areAlike_157 rfl ?_
            refine jo_cV_I_p (pc := 158) (μ' := mu_X11_n) (fx := f_X11_n σ16) (As := []) (c_X11_n hw hN) (ok_X11_n) (ltb rfl) (all3 gw_1441 gw_1443 gw_68) (ik_306 hw hN) (by decide) (q := (RX11, TX11, 39)) rfl rfl rfl rfl (Nat.le_of_ble_eq_true rfl) dX11_areAlike_158 (fun v18 => ?_)
            refine jo_icmp_ge (pc := 161) dX11_areAlike_161 (tgt := 187) rfl ?_ ?_
            · refine jo_lv (lv' := [(0, .ref (adr w 306))]) [0] rfl ?_
              exact jo_leaf (by rfl) (h187_11 σ16)
            · refine jo_aload_n (pc := 164) 0 rfl dX11_areAlike_164 rfl ?_
              refine jo_bipush (pc := 165) dX11_areAlike_165 (ic_b_41) ?_
              refine jo_iload_n (pc := 167) 1 rfl dX11_areAlike_167 rfl ?_
              refine jo_aload_n (pc := 168) 0 rfl dX11_areAlike_168 rfl ?_
              refine jo_getrE (pc := 169) ok_11_32 (ik_306 hw hN) rf_306_32 gw_1325 dX11_areAlike_169 ?_
              refine jo_bipush (pc := 172) dX11_areAlike_172 (ic_b_12) ?_
              refine jo_iload_n (pc := 174) 1 rfl dX11_areAlike_174 rfl ?_
              refine jo_iadd (pc := 175) dX11_areAlike_175 ?_
              refine jo_lald (pc := 176) (ik_321 hw hN) dX11_areAlike_176 (fun v19 => ?_)
              refine jo_lneg (pc := 177) dX11_areAlike_177 ?_
              refine jo_cV_V_i (pc := 178) (μ' := mu_X11_puts) (fx := f_X11_puts σ16 41 i17 (-v19)) (As := [.int 41, .int i17, .long (-v19)]) (c_X11_puts hw hN) (ok_X11_puts) (ltb rfl) (all3 gw_1519 gw_1521 gw_85) (ik_306 hw hN) (by decide) (q := (RX11, TX11, 39)) rfl rfl rfl rfl (Nat.le_of_ble_eq_true rfl) dX11_areAlike_178 (fun σ20 => ?_)
              refine jo_iinc (pc := 181) (lv' := [(1, .int (i17 + 1)), (0, .ref (adr w 306))]) 1 rfl dX11_areAlike_181 (congrArg (fun z => i17 + z) (ic_i_1)) (ltb rfl) rfl ?_
              refine jo_goto (pc := 184) dX11_areAlike_184 (tgt := 156) rfl ?_
              refine jo_lv (lv' := [(0, .ref (adr w 306)), (1, .int (i17 + 1))]) [1, 0] rfl ?_
              exact jo_leaf (by rfl) (hF156_17 (σ20, i17 + 1))
        · refine jo_lv (lv' := [(0, .ref (adr w 306)), (1, .int v8)]) [1, 0] rfl ?_
          refine jo_loop (X := Mem) (fun (z22 : (Mem × Int32)) => z22.1) (fun (z22 : (Mem × Int32)) => [(0, .ref (adr w 306)), (1, .int z22.2)]) (body := (fun (z22 : (Mem × Int32)) => l_X11_areAlike_87 z22.1 z22.2)) (fun F87_22 hF87_22 s => ?_) (σ7, v8)
          obtain ⟨σ21, i22⟩ := s
          show JO w mu_X11_areAlike vB σ21 [(0, .ref (adr w 306)), (1, .int i22)] [] 87 (l_X11_areAlike_87 σ21 i22) _
          unfold l_X11_areAlike_87
          refine jo_iload_n (pc := 87) 1 rfl dX11_areAlike_87 rfl ?_
          refine jo_aload_n (pc := 88) 0 rfl dX11_areAlike_88 rfl ?_
          refine jo_getf (pc := 89) ok_11_31 (ik_306 hw hN) gw_1324 dX11_areAlike_89 (fun v23 => ?_)
          refine jo_icmp_ge (pc := 92) dX11_areAlike_92 (tgt := 148) rfl ?_ ?_
          · refine jo_lv (lv' := [(0, .ref (adr w 306))]) [0] rfl ?_
            exact jo_leaf (by rfl) (h148_9 σ21)
          · refine jo_iconst (pc := 95) dX11_areAlike_95 (ic_i_0) ?_
            refine jo_istore_n (pc := 96) (lv' := [(2, .int 0), (0, .ref (adr w 306)), (1, .int i22)]) dX11_areAlike_96 rfl (ltb rfl) rfl ?_
            refine jo_join1 (S := Mem) (fun (z24 : Mem) => z24) (fun (z24 : Mem) => [(0, .ref (adr w 306)), (1, .int i22)]) (fun (z24 : Mem) => []) 132 ?_ (fun h132_24 => ?_)
            · intro σ24
              show JO w mu_X11_areAlike vB σ24 [(0, .ref (adr w 306)), (1, .int i22)] [] 132 (j_X11_areAlike_132 i22 σ24) _
              unfold j_X11_areAlike_132
              refine jo_aload_n (pc := 132) 0 rfl dX11_areAlike_132 rfl ?_
              refine jo_aload_n (pc := 133) 0 rfl dX11_areAlike_133 rfl ?_
              refine jo_getf (pc := 134) ok_11_36 (ik_306 hw hN) gw_1329 dX11_areAlike_134 (fun v25 => ?_)
              refine jo_iconst (pc := 137) dX11_areAlike_137 (ic_i_1) ?_
              refine jo_iadd (pc := 138) dX11_areAlike_138 ?_
              refine jo_putf (pc := 139) ok_11_36 okp_11_36 (ik_306 hw hN) gw_1329 dX11_areAlike_139 (fun σ26 => ?_)
              refine jo_iinc (pc := 142) (lv' := [(1, .int (i22 + 1)), (0, .ref (adr w 306))]) 1 rfl dX11_areAlike_142 (congrArg (fun z => i22 + z) (ic_i_1)) (ltb rfl) rfl ?_
              refine jo_goto (pc := 145) dX11_areAlike_145 (tgt := 87) rfl ?_
              refine jo_lv (lv' := [(0, .ref (adr w 306)), (1, .int (i22 + 1))]) [1, 0] rfl ?_
              exact jo_leaf (by rfl) (hF87_22 (σ26, i22 + 1))
            · refine jo_lv (lv' := [(0, .ref (adr w 306)), (1, .int i22), (2, .int 0)]) [1, 2, 0] rfl ?_
              refine jo_loop (X := Mem) (fun (z28 : (Mem × Int32)) => z28.1) (fun (z28 : (Mem × Int32)) => [(0, .ref (adr w 306)), (1, .int i22), (2, .int z28.2)]) (body := (fun (z28 : (Mem × Int32)) => l_X11_areAlike_97 i22 z28.1 z28.2)) (fun F97_28 hF97_28 s => ?_) (σ21, 0)
              obtain ⟨σ27, i28⟩ := s
              show JO w mu_X11_areAlike vB σ27 [(0, .ref (adr w 306)), (1, .int i22), (2, .int i28)] [] 97 (l_X11_areAlike_97 i22 σ27 i28) _
              unfold l_X11_areAlike_97
              refine jo_iload_n (pc := 97) 2 rfl dX11_areAlike_97 rfl ?_
              refine jo_bipush (pc := 98) dX11_areAlike_98 (ic_b_6) ?_
              refine jo_icmp_ge (pc := 100) dX11_areAlike_100 (tgt := 132) rfl ?_ ?_
              · refine jo_lv (lv' := [(0, .ref (adr w 306)), (1, .int i22)]) [0, 1] rfl ?_
                exact jo_leaf (by rfl) (h132_24 σ27)
              · refine jo_aload_n (pc := 103) 0 rfl dX11_areAlike_103 rfl ?_
                refine jo_getrE (pc := 104) ok_11_35 (ik_306 hw hN) rf_306_35 gw_1328 dX11_areAlike_104 ?_
                refine jo_bipush (pc := 107) dX11_areAlike_107 (ic_b_6) ?_
                refine jo_aload_n (pc := 109) 0 rfl dX11_areAlike_109 rfl ?_
                refine jo_getf (pc := 110) ok_11_36 (ik_306 hw hN) gw_1329 dX11_areAlike_110 (fun v29 => ?_)
                refine jo_imul (pc := 113) dX11_areAlike_113 ?_
                refine jo_iload_n (pc := 114) 2 rfl dX11_areAlike_114 rfl ?_
                refine jo_iadd (pc := 115) dX11_areAlike_115 ?_
                refine jo_aload_n (pc := 116) 0 rfl dX11_areAlike_116 rfl ?_
                refine jo_iload_n (pc := 117) 1 rfl dX11_areAlike_117 rfl ?_
                refine jo_bipush (pc := 118) dX11_areAlike_118 (ic_b_12) ?_
                refine jo_iload_n (pc := 120) 2 rfl dX11_areAlike_120 rfl ?_
                refine jo_iadd (pc := 121) dX11_areAlike_121 ?_
                refine jo_cV_J_p (pc := 122) (μ' := mu_X11_ofColumn) (fx := f_X11_ofColumn σ27 i22 (12 + i28)) (As := [.int i22, .int (12 + i28)]) (c_X11_ofColumn hw hN) (ok_X11_ofColumn) (ltb rfl) (all3 gw_1837 gw_1839 gw_140) (ik_306 hw hN) (by decide) (q := (RX11, TX11, 39)) rfl rfl rfl rfl (Nat.le_of_ble_eq_true rfl) dX11_areAlike_122 (fun v30 => ?_)
                refine jo_last (pc := 125) (ik_322 hw hN) dX11_areAlike_125 (fun σ31 => ?_)
                refine jo_iinc (pc := 126) (lv' := [(2, .int (i28 + 1)), (0, .ref (adr w 306)), (1, .int i22)]) 2 rfl dX11_areAlike_126 (congrArg (fun z => i28 + z) (ic_i_1)) (ltb rfl) rfl ?_
                refine jo_goto (pc := 129) dX11_areAlike_129 (tgt := 97) rfl ?_
                refine jo_lv (lv' := [(0, .ref (adr w 306)), (1, .int i22), (2, .int (i28 + 1))]) [1, 2, 0] rfl ?_
                exact jo_leaf (by rfl) (hF97_28 (σ31, i28 + 1))
      · refine jo_iconst (pc := 75) dX11_areAlike_75 (ic_i_0) ?_
        exact jo_breturn (pc := 76) (b := false) rfl rfl dX11_areAlike_76
    · refine jo_lv (lv' := [(0, .ref (adr w 306)), (1, .int 0)]) [1, 0] rfl ?_
      refine jo_loop (X := Mem) (fun (z33 : (Mem × Int32)) => z33.1) (fun (z33 : (Mem × Int32)) => [(0, .ref (adr w 306)), (1, .int z33.2)]) (body := (fun (z33 : (Mem × Int32)) => l_X11_areAlike_19 z33.1 z33.2)) (fun F19_33 hF19_33 s => ?_) (σ2, 0)
      obtain ⟨σ32, i33⟩ := s
      show JO w mu_X11_areAlike vB σ32 [(0, .ref (adr w 306)), (1, .int i33)] [] 19 (l_X11_areAlike_19 σ32 i33) _
      unfold l_X11_areAlike_19
      refine jo_iload_n (pc := 19) 1 rfl dX11_areAlike_19 rfl ?_
      refine jo_aload_n (pc := 20) 0 rfl dX11_areAlike_20 rfl ?_
      refine jo_cV_I_p (pc := 21) (μ' := mu_X11_n) (fx := f_X11_n σ32) (As := []) (c_X11_n hw hN) (ok_X11_n) (ltb rfl) (all3 gw_1441 gw_1443 gw_68) (ik_306 hw hN) (by decide) (q := (RX11, TX11, 39)) rfl rfl rfl rfl (Nat.le_of_ble_eq_true rfl) dX11_areAlike_21 (fun v34 => ?_)
      refine jo_icmp_ge (pc := 24) dX11_areAlike_24 (tgt := 61) rfl ?_ ?_
      · refine jo_lv (lv' := [(0, .ref (adr w 306))]) [0] rfl ?_
        exact jo_leaf (by rfl) (h61_3 σ32)
      · refine jo_aload_n (pc := 27) 0 rfl dX11_areAlike_27 rfl ?_
        refine jo_iload_n (pc := 28) 1 rfl dX11_areAlike_28 rfl ?_
        refine jo_cV_I_p (pc := 29) (μ' := mu_X11_weight) (fx := f_X11_weight σ32 i33) (As := [.int i33]) (c_X11_weight hw hN) (ok_X11_weight) (ltb rfl) (all3 gw_1446 gw_1448 gw_69) (ik_306 hw hN) (by decide) (q := (RX11, TX11, 39)) rfl rfl rfl rfl (Nat.le_of_ble_eq_true rfl) dX11_areAlike_29 (fun v35 => ?_)
        refine jo_iconst (pc := 32) dX11_areAlike_32 (ic_i_1) ?_
        refine jo_join1 (S := Mem) (fun (z36 : Mem) => z36) (fun (z36 : Mem) => [(0, .ref (adr w 306)), (1, .int i33)]) (fun (z36 : Mem) => []) 55 ?_ (fun h55_36 => ?_)
        · intro σ36
          show JO w mu_X11_areAlike vB σ36 [(0, .ref (adr w 306)), (1, .int i33)] [] 55 (j_X11_areAlike_55 i33 σ36) _
          unfold j_X11_areAlike_55
          refine jo_iinc (pc := 55) (lv' := [(1, .int (i33 + 1)), (0, .ref (adr w 306))]) 1 rfl dX11_areAlike_55 (congrArg (fun z => i33 + z) (ic_i_1)) (ltb rfl) rfl ?_
          refine jo_goto (pc := 58) dX11_areAlike_58 (tgt := 19) rfl ?_
          refine jo_lv (lv' := [(0, .ref (adr w 306)), (1, .int (i33 + 1))]) [1, 0] rfl ?_
          exact jo_leaf (by rfl) (hF19_33 (σ36, i33 + 1))
        · refine jo_icmp_le (pc := 33) dX11_areAlike_33 (tgt := 39) rfl ?_ ?_
          · refine jo_aload_n (pc := 39) 0 rfl dX11_areAlike_39 rfl ?_
            refine jo_bipush (pc := 40) dX11_areAlike_40 (ic_b_40) ?_
            refine jo_iload_n (pc := 42) 1 rfl dX11_areAlike_42 rfl ?_
            refine jo_lconst (pc := 43) dX11_areAlike_43 (ic_l_1) ?_
            refine jo_cV_V_i (pc := 44) (μ' := mu_X11_letterAt) (fx := f_X11_letterAt σ32 40 i33 1) (As := [.int 40, .int i33, .long 1]) (c_X11_letterAt hw hN) (ok_X11_letterAt) (ltb rfl) (all3 gw_1886 gw_1888 gw_149) (ik_306 hw hN) (by decide) (q := (RX11, TX11, 39)) rfl rfl rfl rfl (Nat.le_of_ble_eq_true rfl) dX11_areAlike_44 (fun σ37 => ?_)
            refine jo_aload_n (pc := 47) 0 rfl dX11_areAlike_47 rfl ?_
            refine jo_iconst (pc := 48) dX11_areAlike_48 (ic_i_0) ?_
            refine jo_bipush (pc := 49) dX11_areAlike_49 (ic_b_40) ?_
            refine jo_iconst (pc := 51) dX11_areAlike_51 (ic_i_2) ?_
            refine jo_cV_V_i (pc := 52) (μ' := mu_X11_adds) (fx := f_X11_adds σ37 0 40 2) (As := [.int 0, .int 40, .int 2]) (c_X11_adds hw hN) (ok_X11_adds) (ltb rfl) (all3 gw_1890 gw_1892 gw_150) (ik_306 hw hN) (by decide) (q := (RX11, TX11, 39)) rfl rfl rfl rfl (Nat.le_of_ble_eq_true rfl) dX11_areAlike_52 (fun σ38 => ?_)
            exact jo_leaf (by rfl) (h55_36 σ38)
          · refine jo_goto (pc := 36) dX11_areAlike_36 (tgt := 55) rfl ?_
            exact jo_leaf (by rfl) (h55_36 σ32)
  · refine jo_iconst (pc := 10) dX11_areAlike_10 (ic_i_0) ?_
    exact jo_breturn (pc := 11) (b := false) rfl rfl dX11_areAlike_11
theorem c_X11_areAlike {w : Wd} (hw : WOK w) (hN : wn w = NT) {σ : Mem} : ∀ r σ', f_X11_areAlike σ = some (r, σ') → MC w mu_X11_areAlike (vB r) [.ref (adr w 306)] σ σ' := mc_of ok_X11_areAlike rfl (Nat.le_of_ble_eq_true rfl) (t_X11_areAlike hw hN)
abbrev mu_X11_alike : MD := (yX11_alike, cX11_alike, 4, some .int, 37)
theorem ok_X11_alike : MOK mu_X11_alike 2 := ⟨gw_1875, gw_171, (by decide +kernel : plainFor yX11_alike = true), ⟨(by decide +kernel : yX11_alike.cls ≠ "java/lang/invoke/MethodHandle"), (by decide +kernel : yX11_alike.cls ≠ "java/lang/invoke/VarHandle"), (by decide +kernel : (parseMethodDescriptor yX11_alike.desc).map (fun d => d.parameters.length) = some 2)⟩, Nat.le_of_ble_eq_true rfl⟩
noncomputable def j_X11_alike_99 (σ7 : Mem) : Option (Int32 × Mem) :=
  bq (f_X11_areAlike σ7) (fun (b8 : Bool) (σ9 : Mem) => if b8 then some (1, σ9) else some (0, σ9))
noncomputable def l_X11_alike_44 (σ7 : Mem) (i10 : Int32) : Option (Int32 ⊕ (Unit ⊕ (Int32 × Mem))) :=
  (f_X11_n σ7).bind (fun (v11 : Int32) => if v11 ≤ i10 then (some (Sum.inr (Sum.inl ()))) else ((f_X11_of σ7 0 i10).bind (fun (v12 : Int64) => (f_X11_isIn σ7 v12 (-30) 30).bind (fun (b13 : Bool) => if b13 then (f_X11_of σ7 1 i10).bind (fun (v14 : Int64) => (f_X11_isIn σ7 v14 (-30) 30).bind (fun (b15 : Bool) => if b15 then some (Sum.inl (i10 + 1)) else some (Sum.inr (Sum.inr ((-2), σ7))))) else some (Sum.inr (Sum.inr ((-2), σ7)))))))
noncomputable def f_X11_alike (σ : Mem) (x0 : Int32) (x1 : Int32) : Option (Int32 × Mem) :=
  pF σ 306 0 0 (fun (σ1 : Mem) => (f_X11_isRegister σ1 x0).bind (fun (b2 : Bool) => if b2 then (f_X11_isRegister σ1 x1).bind (fun (b3 : Bool) => if b3 then bq (f_X11_isConsistent σ1) (fun (b4 : Bool) (σ5 : Mem) => if b4 then (f_X11_laysRegister σ5 0 x0).bind (fun (σ6 : Mem) => (f_X11_laysRegister σ6 1 x1).bind (fun (σ7 : Mem) => (loopO (fun (z10 : Int32) => l_X11_alike_44 σ7 z10) 0 : Option (Unit ⊕ (Int32 × Mem))).bind (Sum.elim (fun (z7 : Unit) => j_X11_alike_99 σ7) some))) else some ((-1), σ5)) else some ((-1), σ1)) else some ((-1), σ1)))
theorem t_X11_alike {w : Wd} (hw : WOK w) (hN : wn w = NT) {σ : Mem} {x0 : Int32} {x1 : Int32} : JO w mu_X11_alike vI σ [(0, .ref (adr w 306)), (1, .int x0), (2, .int x1)] [] 0 (f_X11_alike σ x0 x1) some := by
  unfold f_X11_alike
  refine jo_aload_n (pc := 0) 0 rfl dX11_alike_0 rfl ?_
  refine jo_iconst (pc := 1) dX11_alike_1 (ic_i_0) ?_
  refine jo_putf (pc := 2) ok_11_0 okp_11_0 (ik_306 hw hN) gw_1293 dX11_alike_2 (fun σ1 => ?_)
  refine jo_aload_n (pc := 5) 0 rfl dX11_alike_5 rfl ?_
  refine jo_iload_n (pc := 6) 1 rfl dX11_alike_6 rfl ?_
  refine jo_cV_Z_p (pc := 7) (μ' := mu_X11_isRegister) (fx := f_X11_isRegister σ1 x0) (As := [.int x0]) (c_X11_isRegister hw hN) (ok_X11_isRegister) (ltb rfl) (all3 gw_1470 gw_1472 gw_73) (ik_306 hw hN) (by decide) (q := (RX11, TX11, 39)) rfl rfl rfl rfl (Nat.le_of_ble_eq_true rfl) dX11_alike_7 (fun b2 => ?_)
  refine jo_ifz_eq (pc := 10) dX11_alike_10 (tgt := 28) rfl ?_ ?_
  · refine jo_iconst (pc := 28) dX11_alike_28 (ic_i_m1) ?_
    exact jo_ireturn (pc := 29) rfl rfl dX11_alike_29
  · refine jo_aload_n (pc := 13) 0 rfl dX11_alike_13 rfl ?_
    refine jo_iload_n (pc := 14) 2 rfl dX11_alike_14 rfl ?_
    refine jo_cV_Z_p (pc := 15) (μ' := mu_X11_isRegister) (fx := f_X11_isRegister σ1 x1) (As := [.int x1]) (c_X11_isRegister hw hN) (ok_X11_isRegister) (ltb rfl) (all3 gw_1470 gw_1472 gw_73) (ik_306 hw hN) (by decide) (q := (RX11, TX11, 39)) rfl rfl rfl rfl (Nat.le_of_ble_eq_true rfl) dX11_alike_15 (fun b3 => ?_)
    refine jo_ifz_eq (pc := 18) dX11_alike_18 (tgt := 28) rfl ?_ ?_
    · refine jo_iconst (pc := 28) dX11_alike_28 (ic_i_m1) ?_
      exact jo_ireturn (pc := 29) rfl rfl dX11_alike_29
    · refine jo_aload_n (pc := 21) 0 rfl dX11_alike_21 rfl ?_
      refine jo_cV_Z_i (pc := 22) (μ' := mu_X11_isConsistent) (fx := f_X11_isConsistent σ1) (As := []) (c_X11_isConsistent hw hN) (ok_X11_isConsistent) (ltb rfl) (all3 gw_1475 gw_1477 gw_74) (ik_306 hw hN) (by decide) (q := (RX11, TX11, 39)) rfl rfl rfl rfl (Nat.le_of_ble_eq_true rfl) dX11_alike_22 (fun b4 σ5 => ?_)
      refine jo_ifz_ne (pc := 25) dX11_alike_25 (tgt := 30) rfl ?_ ?_
      · refine jo_aload_n (pc := 30) 0 rfl dX11_alike_30 rfl ?_
        refine jo_iconst (pc := 31) dX11_alike_31 (ic_i_0) ?_
        refine jo_iload_n (pc := 32) 1 rfl dX11_alike_32 rfl ?_
        refine jo_cV_V_i (pc := 33) (μ' := mu_X11_laysRegister) (fx := f_X11_laysRegister σ5 0 x0) (As := [.int 0, .int x0]) (c_X11_laysRegister hw hN) (ok_X11_laysRegister) (ltb rfl) (all3 gw_1559 gw_1561 gw_94) (ik_306 hw hN) (by decide) (q := (RX11, TX11, 39)) rfl rfl rfl rfl (Nat.le_of_ble_eq_true rfl) dX11_alike_33 (fun σ6 => ?_)
        refine jo_aload_n (pc := 36) 0 rfl dX11_alike_36 rfl ?_
        refine jo_iconst (pc := 37) dX11_alike_37 (ic_i_1) ?_
        refine jo_iload_n (pc := 38) 2 rfl dX11_alike_38 rfl ?_
        refine jo_cV_V_i (pc := 39) (μ' := mu_X11_laysRegister) (fx := f_X11_laysRegister σ6 1 x1) (As := [.int 1, .int x1]) (c_X11_laysRegister hw hN) (ok_X11_laysRegister) (ltb rfl) (all3 gw_1559 gw_1561 gw_94) (ik_306 hw hN) (by decide) (q := (RX11, TX11, 39)) rfl rfl rfl rfl (Nat.le_of_ble_eq_true rfl) dX11_alike_39 (fun σ7 => ?_)
        refine jo_iconst (pc := 42) dX11_alike_42 (ic_i_0) ?_
        refine jo_istore_n (pc := 43) (lv' := [(3, .int 0), (0, .ref (adr w 306)), (1, .int x0), (2, .int x1)]) dX11_alike_43 rfl (ltb rfl) rfl ?_
        refine jo_joinS (S := Unit) (fun (z7 : Unit) => σ7) (fun (z7 : Unit) => [(0, .ref (adr w 306))]) (fun (z7 : Unit) => []) 99 ?_ (fun h99_7 => ?_)
        · intro _
          show JO w mu_X11_alike vI σ7 [(0, .ref (adr w 306))] [] 99 (j_X11_alike_99 σ7) _
          unfold j_X11_alike_99
          refine jo_aload_n (pc := 99) 0 rfl dX11_alike_99 rfl ?_
          refine jo_cV_Z_i (pc := 100) (μ' := mu_X11_areAlike) (fx := f_X11_areAlike σ7) (As := []) (c_X11_areAlike hw hN) (ok_X11_areAlike) (ltb rfl) (all3 gw_1878 gw_1880 gw_147) (ik_306 hw hN) (by decide) (q := (RX11, TX11, 39)) rfl rfl rfl rfl (Nat.le_of_ble_eq_true rfl) dX11_alike_100 (fun b8 σ9 => ?_)
          refine jo_ifz_eq (pc := 103) dX11_alike_103 (tgt := 110) rfl ?_ ?_
          · refine jo_iconst (pc := 110) dX11_alike_110 (ic_i_0) ?_
            exact jo_ireturn (pc := 111) rfl rfl dX11_alike_111
          · refine jo_iconst (pc := 106) dX11_alike_106 (ic_i_1) ?_
            refine jo_goto (pc := 107) dX11_alike_107 (tgt := 111) rfl ?_
            exact jo_ireturn (pc := 111) rfl rfl dX11_alike_111
        · refine jo_lv (lv' := [(0, .ref (adr w 306)), (3, .int 0)]) [1, 0] rfl ?_
          refine jo_loop (X := Unit ⊕ (Int32 × Mem)) (fun (z10 : Int32) => σ7) (fun (z10 : Int32) => [(0, .ref (adr w 306)), (3, .int z10)]) (body := (fun (z10 : Int32) => l_X11_alike_44 σ7 z10)) (fun F44_10 hF44_10 s => ?_) 0
          revert s; intro i10
          show JO w mu_X11_alike vI σ7 [(0, .ref (adr w 306)), (3, .int i10)] [] 44 (l_X11_alike_44 σ7 i10) _
          unfold l_X11_alike_44
          refine jo_iload_n (pc := 44) 1 rfl dX11_alike_44 rfl ?_
          refine jo_aload_n (pc := 45) 0 rfl dX11_alike_45 rfl ?_
          refine jo_cV_I_p (pc := 46) (μ' := mu_X11_n) (fx := f_X11_n σ7) (As := []) (c_X11_n hw hN) (ok_X11_n) (ltb rfl) (all3 gw_1441 gw_1443 gw_68) (ik_306 hw hN) (by decide) (q := (RX11, TX11, 39)) rfl rfl rfl rfl (Nat.le_of_ble_eq_true rfl) dX11_alike_46 (fun v11 => ?_)
          refine jo_icmp_ge (pc := 49) dX11_alike_49 (tgt := 99) rfl ?_ ?_
          · refine jo_lv (lv' := [(0, .ref (adr w 306))]) [0] rfl ?_
            exact jo_leaf (by rfl) (h99_7 ())
          · refine jo_aload_n (pc := 52) 0 rfl dX11_alike_52 rfl ?_
            refine jo_aload_n (pc := 53) 0 rfl dX11_alike_53 rfl ?_
            refine jo_iconst (pc := 54) dX11_alike_54 (ic_i_0) ?_
            refine jo_iload_n (pc := 55) 1 rfl dX11_alike_55 rfl ?_
            refine jo_cV_J_p (pc := 56) (μ' := mu_X11_of) (fx := f_X11_of σ7 0 i10) (As := [.int 0, .int i10]) (c_X11_of hw hN) (ok_X11_of) (ltb rfl) (all3 gw_1527 gw_1529 gw_87) (ik_306 hw hN) (by decide) (q := (RX11, TX11, 39)) rfl rfl rfl rfl (Nat.le_of_ble_eq_true rfl) dX11_alike_56 (fun v12 => ?_)
            refine jo_ldc2 (pc := 59) dX11_alike_59 gw_1876 ?_
            refine jo_ldc2 (pc := 62) dX11_alike_62 gw_1877 ?_
            refine jo_cV_Z_p (pc := 65) (μ' := mu_X11_isIn) (fx := f_X11_isIn σ7 v12 (-30) 30) (As := [.long v12, .long (-30), .long 30]) (c_X11_isIn hw hN) (ok_X11_isIn) (ltb rfl) (all3 gw_1420 gw_1422 gw_64) (ik_306 hw hN) (by decide) (q := (RX11, TX11, 39)) rfl rfl rfl rfl (Nat.le_of_ble_eq_true rfl) dX11_alike_65 (fun b13 => ?_)
            refine jo_ifz_eq (pc := 68) dX11_alike_68 (tgt := 90) rfl ?_ ?_
            · refine jo_bipush (pc := 90) dX11_alike_90 (ic_b_m2) ?_
              exact jo_ireturn (pc := 92) rfl rfl dX11_alike_92
            · refine jo_aload_n (pc := 71) 0 rfl dX11_alike_71 rfl ?_
              refine jo_aload_n (pc := 72) 0 rfl dX11_alike_72 rfl ?_
              refine jo_iconst (pc := 73) dX11_alike_73 (ic_i_1) ?_
              refine jo_iload_n (pc := 74) 1 rfl dX11_alike_74 rfl ?_
              refine jo_cV_J_p (pc := 75) (μ' := mu_X11_of) (fx := f_X11_of σ7 1 i10) (As := [.int 1, .int i10]) (c_X11_of hw hN) (ok_X11_of) (ltb rfl) (all3 gw_1527 gw_1529 gw_87) (ik_306 hw hN) (by decide) (q := (RX11, TX11, 39)) rfl rfl rfl rfl (Nat.le_of_ble_eq_true rfl) dX11_alike_75 (fun v14 => ?_)
              refine jo_ldc2 (pc := 78) dX11_alike_78 gw_1876 ?_
              refine jo_ldc2 (pc := 81) dX11_alike_81 gw_1877 ?_
              refine jo_cV_Z_p (pc := 84) (μ' := mu_X11_isIn) (fx := f_X11_isIn σ7 v14 (-30) 30) (As := [.long v14, .long (-30), .long 30]) (c_X11_isIn hw hN) (ok_X11_isIn) (ltb rfl) (all3 gw_1420 gw_1422 gw_64) (ik_306 hw hN) (by decide) (q := (RX11, TX11, 39)) rfl rfl rfl rfl (Nat.le_of_ble_eq_true rfl) dX11_alike_84 (fun b15 => ?_)
              refine jo_ifz_ne (pc := 87) dX11_alike_87 (tgt := 93) rfl ?_ ?_
              · refine jo_iinc (pc := 93) (lv' := [(3, .int (i10 + 1)), (0, .ref (adr w 306))]) 1 rfl dX11_alike_93 (congrArg (fun z => i10 + z) (ic_i_1)) (ltb rfl) rfl ?_
                refine jo_goto (pc := 96) dX11_alike_96 (tgt := 44) rfl ?_
                refine jo_lv (lv' := [(0, .ref (adr w 306)), (3, .int (i10 + 1))]) [1, 0] rfl ?_
                exact jo_leaf (by rfl) (hF44_10 (i10 + 1))
              · refine jo_bipush (pc := 90) dX11_alike_90 (ic_b_m2) ?_
                exact jo_ireturn (pc := 92) rfl rfl dX11_alike_92
      · refine jo_iconst (pc := 28) dX11_alike_28 (ic_i_m1) ?_
        exact jo_ireturn (pc := 29) rfl rfl dX11_alike_29
theorem c_X11_alike {w : Wd} (hw : WOK w) (hN : wn w = NT) {σ : Mem} {x0 : Int32} {x1 : Int32} : ∀ r σ', f_X11_alike σ x0 x1 = some (r, σ') → MC w mu_X11_alike (vI r) [.ref (adr w 306), .int x0, .int x1] σ σ' := mc_of ok_X11_alike rfl (Nat.le_of_ble_eq_true rfl) (t_X11_alike hw hN)
abbrev mu_X11_powers : MD := (yX11_powers, cX11_powers, 7, some .long, 37)
theorem ok_X11_powers : MOK mu_X11_powers 3 := ⟨gw_1905, gw_171, (by decide +kernel : plainFor yX11_powers = true), ⟨(by decide +kernel : yX11_powers.cls ≠ "java/lang/invoke/MethodHandle"), (by decide +kernel : yX11_powers.cls ≠ "java/lang/invoke/VarHandle"), (by decide +kernel : (parseMethodDescriptor yX11_powers.desc).map (fun d => d.parameters.length) = some 3)⟩, Nat.le_of_ble_eq_true rfl⟩
noncomputable def j_X11_powers_96 (x1 : Int32) (x2 : Int32) (l10 : Int64) (i11 : Int32) (σ12 : Mem) (l13 : Int64) : Option ((Mem × Int64 × Int32) ⊕ (Int64 × Mem)) :=
  (f_X11_choose σ12 x2 i11).bind (fun (v14 : Int64) => (f_X11_of σ12 1 (x1 - 1)).bind (fun (v15 : Int64) => bd (l10 + ((l13 * v14) * v15)) (fun (v16 : Int64) => some (Sum.inl (σ12, v16, i11 + 1)))))
noncomputable def l_X11_powers_64 (x1 : Int32) (x2 : Int32) (σ9 : Mem) (l10 : Int64) (i11 : Int32) : Option ((Mem × Int64 × Int32) ⊕ (Int64 × Mem)) :=
  if x2 < i11 then (some (Sum.inr (l10, σ9))) else ((f_X11_raises σ9 0 1 i11).bind (fun (σ12 : Mem) => nzI 2 ((if ((x2 - i11) - (x2 - i11) / 2 * 2) = 0 then (some 1) else (some (-1)) : Option Int64).bind (fun (z13 : Int64) => j_X11_powers_96 x1 x2 l10 i11 σ12 z13))))
noncomputable def f_X11_powers (σ : Mem) (x0 : Int32) (x1 : Int32) (x2 : Int32) : Option (Int64 × Mem) :=
  pF σ 306 0 0 (fun (σ1 : Mem) => (f_X11_isRegister σ1 x0).bind (fun (b2 : Bool) => if b2 then bq (f_X11_isConsistent σ1) (fun (b3 : Bool) (σ4 : Mem) => if b3 then (f_X11_n σ4).bind (fun (v5 : Int32) => (f_X11_isIn σ4 (Int32.toInt64 x1) 1 (Int32.toInt64 v5)).bind (fun (b6 : Bool) => if b6 then (f_X11_isIn σ4 (Int32.toInt64 x2) 0 3).bind (fun (b7 : Bool) => if b7 then (f_X11_laysRegister σ4 0 x0).bind (fun (σ8 : Mem) => loopO (fun (z11 : (Mem × Int64 × Int32)) => l_X11_powers_64 x1 x2 z11.1 z11.2.1 z11.2.2) (σ8, 0, 0)) else some ((-100000000000000), σ4)) else some ((-100000000000000), σ4))) else some ((-100000000000000), σ4)) else some ((-100000000000000), σ1)))
theorem t_X11_powers {w : Wd} (hw : WOK w) (hN : wn w = NT) {σ : Mem} {x0 : Int32} {x1 : Int32} {x2 : Int32} : JO w mu_X11_powers vL σ [(0, .ref (adr w 306)), (1, .int x0), (2, .int x1), (3, .int x2)] [] 0 (f_X11_powers σ x0 x1 x2) some := by
  unfold f_X11_powers
  refine jo_aload_n (pc := 0) 0 rfl dX11_powers_0 rfl ?_
  refine jo_iconst (pc := 1) dX11_powers_1 (ic_i_0) ?_
  refine jo_putf (pc := 2) ok_11_0 okp_11_0 (ik_306 hw hN) gw_1293 dX11_powers_2 (fun σ1 => ?_)
  refine jo_aload_n (pc := 5) 0 rfl dX11_powers_5 rfl ?_
  refine jo_iload_n (pc := 6) 1 rfl dX11_powers_6 rfl ?_
  refine jo_cV_Z_p (pc := 7) (μ' := mu_X11_isRegister) (fx := f_X11_isRegister σ1 x0) (As := [.int x0]) (c_X11_isRegister hw hN) (ok_X11_isRegister) (ltb rfl) (all3 gw_1470 gw_1472 gw_73) (ik_306 hw hN) (by decide) (q := (RX11, TX11, 39)) rfl rfl rfl rfl (Nat.le_of_ble_eq_true rfl) dX11_powers_7 (fun b2 => ?_)
  refine jo_ifz_eq (pc := 10) dX11_powers_10 (tgt := 48) rfl ?_ ?_
  · refine jo_ldc2 (pc := 48) dX11_powers_48 gw_1906 ?_
    exact jo_lreturn (pc := 51) rfl rfl dX11_powers_51
  · refine jo_aload_n (pc := 13) 0 rfl dX11_powers_13 rfl ?_
    refine jo_cV_Z_i (pc := 14) (μ' := mu_X11_isConsistent) (fx := f_X11_isConsistent σ1) (As := []) (c_X11_isConsistent hw hN) (ok_X11_isConsistent) (ltb rfl) (all3 gw_1475 gw_1477 gw_74) (ik_306 hw hN) (by decide) (q := (RX11, TX11, 39)) rfl rfl rfl rfl (Nat.le_of_ble_eq_true rfl) dX11_powers_14 (fun b3 σ4 => ?_)
    refine jo_ifz_eq (pc := 17) dX11_powers_17 (tgt := 48) rfl ?_ ?_
    · refine jo_ldc2 (pc := 48) dX11_powers_48 gw_1906 ?_
      exact jo_lreturn (pc := 51) rfl rfl dX11_powers_51
    · refine jo_aload_n (pc := 20) 0 rfl dX11_powers_20 rfl ?_
      refine jo_iload_n (pc := 21) 2 rfl dX11_powers_21 rfl ?_
      refine jo_i2l (pc := 22) dX11_powers_22 ?_
      refine jo_lconst (pc := 23) dX11_powers_23 (ic_l_1) ?_
      refine jo_aload_n (pc := 24) 0 rfl dX11_powers_24 rfl ?_
      refine jo_cV_I_p (pc := 25) (μ' := mu_X11_n) (fx := f_X11_n σ4) (As := []) (c_X11_n hw hN) (ok_X11_n) (ltb rfl) (all3 gw_1441 gw_1443 gw_68) (ik_306 hw hN) (by decide) (q := (RX11, TX11, 39)) rfl rfl rfl rfl (Nat.le_of_ble_eq_true rfl) dX11_powers_25 (fun v5 => ?_)
      refine jo_i2l (pc := 28) dX11_powers_28 ?_
      refine jo_cV_Z_p (pc := 29) (μ' := mu_X11_isIn) (fx := f_X11_isIn σ4 (Int32.toInt64 x1) 1 (Int32.toInt64 v5)) (As := [.long (Int32.toInt64 x1), .long 1, .long (Int32.toInt64 v5)]) (c_X11_isIn hw hN) (ok_X11_isIn) (ltb rfl) (all3 gw_1420 gw_1422 gw_64) (ik_306 hw hN) (by decide) (q := (RX11, TX11, 39)) rfl rfl rfl rfl (Nat.le_of_ble_eq_true rfl) dX11_powers_29 (fun b6 => ?_)
      refine jo_ifz_eq (pc := 32) dX11_powers_32 (tgt := 48) rfl ?_ ?_
      · refine jo_ldc2 (pc := 48) dX11_powers_48 gw_1906 ?_
        exact jo_lreturn (pc := 51) rfl rfl dX11_powers_51
      · refine jo_aload_n (pc := 35) 0 rfl dX11_powers_35 rfl ?_
        refine jo_iload_n (pc := 36) 3 rfl dX11_powers_36 rfl ?_
        refine jo_i2l (pc := 37) dX11_powers_37 ?_
        refine jo_lconst (pc := 38) dX11_powers_38 (ic_l_0) ?_
        refine jo_ldc2 (pc := 39) dX11_powers_39 gw_1445 ?_
        refine jo_cV_Z_p (pc := 42) (μ' := mu_X11_isIn) (fx := f_X11_isIn σ4 (Int32.toInt64 x2) 0 3) (As := [.long (Int32.toInt64 x2), .long 0, .long 3]) (c_X11_isIn hw hN) (ok_X11_isIn) (ltb rfl) (all3 gw_1420 gw_1422 gw_64) (ik_306 hw hN) (by decide) (q := (RX11, TX11, 39)) rfl rfl rfl rfl (Nat.le_of_ble_eq_true rfl) dX11_powers_42 (fun b7 => ?_)
        refine jo_ifz_ne (pc := 45) dX11_powers_45 (tgt := 52) rfl ?_ ?_
        · refine jo_aload_n (pc := 52) 0 rfl dX11_powers_52 rfl ?_
          refine jo_iconst (pc := 53) dX11_powers_53 (ic_i_0) ?_
          refine jo_iload_n (pc := 54) 1 rfl dX11_powers_54 rfl ?_
          refine jo_cV_V_i (pc := 55) (μ' := mu_X11_laysRegister) (fx := f_X11_laysRegister σ4 0 x0) (As := [.int 0, .int x0]) (c_X11_laysRegister hw hN) (ok_X11_laysRegister) (ltb rfl) (all3 gw_1559 gw_1561 gw_94) (ik_306 hw hN) (by decide) (q := (RX11, TX11, 39)) rfl rfl rfl rfl (Nat.le_of_ble_eq_true rfl) dX11_powers_55 (fun σ8 => ?_)
          refine jo_lconst (pc := 58) dX11_powers_58 (ic_l_0) ?_
          refine jo_lstore (pc := 59) (lv' := [(4, .long 0), (0, .ref (adr w 306)), (1, .int x0), (2, .int x1), (3, .int x2)]) dX11_powers_59 (ltb rfl) rfl ?_
          refine jo_iconst (pc := 61) dX11_powers_61 (ic_i_0) ?_
          refine jo_istore (pc := 62) (lv' := [(6, .int 0), (4, .long 0), (0, .ref (adr w 306)), (1, .int x0), (2, .int x1), (3, .int x2)]) dX11_powers_62 (ltb rfl) rfl ?_
          refine jo_lv (lv' := [(0, .ref (adr w 306)), (2, .int x1), (3, .int x2), (4, .long 0), (6, .int 0)]) [2, 4, 5, 1, 0] rfl ?_
          refine jo_loop (X := (Int64 × Mem)) (fun (z11 : (Mem × Int64 × Int32)) => z11.1) (fun (z11 : (Mem × Int64 × Int32)) => [(0, .ref (adr w 306)), (2, .int x1), (3, .int x2), (4, .long z11.2.1), (6, .int z11.2.2)]) (body := (fun (z11 : (Mem × Int64 × Int32)) => l_X11_powers_64 x1 x2 z11.1 z11.2.1 z11.2.2)) (fun F64_11 hF64_11 s => ?_) (σ8, 0, 0)
          obtain ⟨σ9, l10, i11⟩ := s
          show JO w mu_X11_powers vL σ9 [(0, .ref (adr w 306)), (2, .int x1), (3, .int x2), (4, .long l10), (6, .int i11)] [] 64 (l_X11_powers_64 x1 x2 σ9 l10 i11) _
          unfold l_X11_powers_64
          refine jo_iload (pc := 64) 4 rfl dX11_powers_64 ?_
          refine jo_iload_n (pc := 66) 2 rfl dX11_powers_66 rfl ?_
          refine jo_icmp_gt (pc := 67) dX11_powers_67 (tgt := 122) rfl ?_ ?_
          · refine jo_lload (pc := 122) 3 rfl dX11_powers_122 ?_
            exact jo_lreturn (pc := 124) rfl rfl dX11_powers_124
          · refine jo_aload_n (pc := 70) 0 rfl dX11_powers_70 rfl ?_
            refine jo_iconst (pc := 71) dX11_powers_71 (ic_i_0) ?_
            refine jo_iconst (pc := 72) dX11_powers_72 (ic_i_1) ?_
            refine jo_iload (pc := 73) 4 rfl dX11_powers_73 ?_
            refine jo_cV_V_i (pc := 75) (μ' := mu_X11_raises) (fx := f_X11_raises σ9 0 1 i11) (As := [.int 0, .int 1, .int i11]) (c_X11_raises hw hN) (ok_X11_raises) (ltb rfl) (all3 gw_1601 gw_1603 gw_101) (ik_306 hw hN) (by decide) (q := (RX11, TX11, 39)) rfl rfl rfl rfl (Nat.le_of_ble_eq_true rfl) dX11_powers_75 (fun σ12 => ?_)
            refine jo_lload (pc := 78) 3 rfl dX11_powers_78 ?_
            refine jo_iload_n (pc := 80) 2 rfl dX11_powers_80 rfl ?_
            refine jo_iload (pc := 81) 4 rfl dX11_powers_81 ?_
            refine jo_isub (pc := 83) dX11_powers_83 ?_
            refine jo_iconst (pc := 84) dX11_powers_84 (ic_i_2) ?_
            refine jo_irem (pc := 85) dX11_powers_85 ?_
            refine jo_join1 (S := Int64) (fun (z13 : Int64) => σ12) (fun (z13 : Int64) => [(0, .ref (adr w 306)), (2, .int x1), (3, .int x2), (6, .int i11)]) (fun (z13 : Int64) => [.long z13, .long l10]) 96 ?_ (fun h96_13 => ?_)
            · intro l13
              show JO w mu_X11_powers vL σ12 [(0, .ref (adr w 306)), (2, .int x1), (3, .int x2), (6, .int i11)] [.long l13, .long l10] 96 (j_X11_powers_96 x1 x2 l10 i11 σ12 l13) _
              unfold j_X11_powers_96
              refine jo_aload_n (pc := 96) 0 rfl dX11_powers_96 rfl ?_
              refine jo_iload_n (pc := 97) 2 rfl dX11_powers_97 rfl ?_
              refine jo_iload (pc := 98) 3 rfl dX11_powers_98 ?_
              refine jo_cV_J_p (pc := 100) (μ' := mu_X11_choose) (fx := f_X11_choose σ12 x2 i11) (As := [.int x2, .int i11]) (c_X11_choose hw hN) (ok_X11_choose) (ltb rfl) (all3 gw_1548 gw_1550 gw_92) (ik_306 hw hN) (by decide) (q := (RX11, TX11, 39)) rfl rfl rfl rfl (Nat.le_of_ble_eq_true rfl) dX11_powers_100 (fun v14 => ?_)
              refine jo_lmul (pc := 103) dX11_powers_103 ?_
              refine jo_aload_n (pc := 104) 0 rfl dX11_powers_104 rfl ?_
              refine jo_iconst (pc := 105) dX11_powers_105 (ic_i_1) ?_
              refine jo_iload_n (pc := 106) 1 rfl dX11_powers_106 rfl ?_
              refine jo_iconst (pc := 107) dX11_powers_107 (ic_i_1) ?_
              refine jo_isub (pc := 108) dX11_powers_108 ?_
              refine jo_cV_J_p (pc := 109) (μ' := mu_X11_of) (fx := f_X11_of σ12 1 (x1 - 1)) (As := [.int 1, .int (x1 - 1)]) (c_X11_of hw hN) (ok_X11_of) (ltb rfl) (all3 gw_1527 gw_1529 gw_87) (ik_306 hw hN) (by decide) (q := (RX11, TX11, 39)) rfl rfl rfl rfl (Nat.le_of_ble_eq_true rfl) dX11_powers_109 (fun v15 => ?_)
              refine jo_lmul (pc := 112) dX11_powers_112 ?_
              refine jo_ladd (pc := 113) dX11_powers_113 ?_
              refine jo_bd ?_
              refine jo_lstore (pc := 114) (lv' := [(4, .long (l10 + ((l13 * v14) * v15))), (0, .ref (adr w 306)), (2, .int x1), (3, .int x2), (6, .int i11)]) dX11_powers_114 (ltb rfl) rfl ?_
              generalize (l10 + ((l13 * v14) * v15)) = v16
              refine jo_iinc (pc := 116) (lv' := [(6, .int (i11 + 1)), (4, .long v16), (0, .ref (adr w 306)), (2, .int x1), (3, .int x2)]) 4 rfl dX11_powers_116 (congrArg (fun z => i11 + z) (ic_i_1)) (ltb rfl) rfl ?_
              refine jo_goto (pc := 119) dX11_powers_119 (tgt := 64) rfl ?_
              refine jo_lv (lv' := [(0, .ref (adr w 306)), (2, .int x1), (3, .int x2), (4, .long v16), (6, .int (i11 + 1))]) [2, 3, 4, 1, 0] rfl ?_
              exact jo_leaf (by rfl) (hF64_11 (σ12, v16, i11 + 1))
            · refine jo_if_ne (pc := 86) dX11_powers_86 (tgt := 93) rfl ?_ ?_
              · refine jo_ldc2 (pc := 93) dX11_powers_93 gw_1552 ?_
                refine jo_lv (lv' := [(0, .ref (adr w 306)), (2, .int x1), (3, .int x2), (6, .int i11)]) [0, 1, 2, 4] rfl ?_
                exact jo_leaf (by rfl) (h96_13 (-1))
              · refine jo_lconst (pc := 89) dX11_powers_89 (ic_l_1) ?_
                refine jo_goto (pc := 90) dX11_powers_90 (tgt := 96) rfl ?_
                refine jo_lv (lv' := [(0, .ref (adr w 306)), (2, .int x1), (3, .int x2), (6, .int i11)]) [0, 1, 2, 4] rfl ?_
                exact jo_leaf (by rfl) (h96_13 1)
        · refine jo_ldc2 (pc := 48) dX11_powers_48 gw_1906 ?_
          exact jo_lreturn (pc := 51) rfl rfl dX11_powers_51
theorem c_X11_powers {w : Wd} (hw : WOK w) (hN : wn w = NT) {σ : Mem} {x0 : Int32} {x1 : Int32} {x2 : Int32} : ∀ r σ', f_X11_powers σ x0 x1 x2 = some (r, σ') → MC w mu_X11_powers (vL r) [.ref (adr w 306), .int x0, .int x1, .int x2] σ σ' := mc_of ok_X11_powers rfl (Nat.le_of_ble_eq_true rfl) (t_X11_powers hw hN)
abbrev mu_X11_associates : MD := (yX11_associates, cX11_associates, 4, some .int, 37)
theorem ok_X11_associates : MOK mu_X11_associates 3 := ⟨gw_1910, gw_171, (by decide +kernel : plainFor yX11_associates = true), ⟨(by decide +kernel : yX11_associates.cls ≠ "java/lang/invoke/MethodHandle"), (by decide +kernel : yX11_associates.cls ≠ "java/lang/invoke/VarHandle"), (by decide +kernel : (parseMethodDescriptor yX11_associates.desc).map (fun d => d.parameters.length) = some 3)⟩, Nat.le_of_ble_eq_true rfl⟩
noncomputable def f_X11_associates (σ : Mem) (x0 : Int32) (x1 : Int32) (x2 : Int32) : Option (Int32 × Mem) :=
  pF σ 306 0 0 (fun (σ1 : Mem) => (f_X11_isRegister σ1 x0).bind (fun (b2 : Bool) => if b2 then (f_X11_isRegister σ1 x1).bind (fun (b3 : Bool) => if b3 then (f_X11_isRegister σ1 x2).bind (fun (b4 : Bool) => if b4 then bq (f_X11_isConsistent σ1) (fun (b5 : Bool) (σ6 : Mem) => if b5 then (f_X11_laysRegister σ6 0 x0).bind (fun (σ7 : Mem) => (f_X11_laysRegister σ7 1 x1).bind (fun (σ8 : Mem) => (f_X11_laysRegister σ8 2 x2).bind (fun (σ9 : Mem) => (f_X11_copies σ9 0 3).bind (fun (σ10 : Mem) => (f_X11_times σ10 3 1).bind (fun (σ11 : Mem) => (f_X11_times σ11 3 2).bind (fun (σ12 : Mem) => (f_X11_copies σ12 1 4).bind (fun (σ13 : Mem) => (f_X11_times σ13 4 2).bind (fun (σ14 : Mem) => (f_X11_times σ14 0 4).bind (fun (σ15 : Mem) => (f_X11_areSame σ15 0 3).bind (fun (b16 : Bool) => if b16 then some (1, σ15) else some (0, σ15))))))))))) else some ((-1), σ6)) else some ((-1), σ1)) else some ((-1), σ1)) else some ((-1), σ1)))
theorem t_X11_associates {w : Wd} (hw : WOK w) (hN : wn w = NT) {σ : Mem} {x0 : Int32} {x1 : Int32} {x2 : Int32} : JO w mu_X11_associates vI σ [(0, .ref (adr w 306)), (1, .int x0), (2, .int x1), (3, .int x2)] [] 0 (f_X11_associates σ x0 x1 x2) some := by
  unfold f_X11_associates
  refine jo_aload_n (pc := 0) 0 rfl dX11_associates_0 rfl ?_
  refine jo_iconst (pc := 1) dX11_associates_1 (ic_i_0) ?_
  refine jo_putf (pc := 2) ok_11_0 okp_11_0 (ik_306 hw hN) gw_1293 dX11_associates_2 (fun σ1 => ?_)
  refine jo_aload_n (pc := 5) 0 rfl dX11_associates_5 rfl ?_
  refine jo_iload_n (pc := 6) 1 rfl dX11_associates_6 rfl ?_
  refine jo_cV_Z_p (pc := 7) (μ' := mu_X11_isRegister) (fx := f_X11_isRegister σ1 x0) (As := [.int x0]) (c_X11_isRegister hw hN) (ok_X11_isRegister) (ltb rfl) (all3 gw_1470 gw_1472 gw_73) (ik_306 hw hN) (by decide) (q := (RX11, TX11, 39)) rfl rfl rfl rfl (Nat.le_of_ble_eq_true rfl) dX11_associates_7 (fun b2 => ?_)
  refine jo_ifz_eq (pc := 10) dX11_associates_10 (tgt := 36) rfl ?_ ?_
  · refine jo_iconst (pc := 36) dX11_associates_36 (ic_i_m1) ?_
    exact jo_ireturn (pc := 37) rfl rfl dX11_associates_37
  · refine jo_aload_n (pc := 13) 0 rfl dX11_associates_13 rfl ?_
    refine jo_iload_n (pc := 14) 2 rfl dX11_associates_14 rfl ?_
    refine jo_cV_Z_p (pc := 15) (μ' := mu_X11_isRegister) (fx := f_X11_isRegister σ1 x1) (As := [.int x1]) (c_X11_isRegister hw hN) (ok_X11_isRegister) (ltb rfl) (all3 gw_1470 gw_1472 gw_73) (ik_306 hw hN) (by decide) (q := (RX11, TX11, 39)) rfl rfl rfl rfl (Nat.le_of_ble_eq_true rfl) dX11_associates_15 (fun b3 => ?_)
    refine jo_ifz_eq (pc := 18) dX11_associates_18 (tgt := 36) rfl ?_ ?_
    · refine jo_iconst (pc := 36) dX11_associates_36 (ic_i_m1) ?_
      exact jo_ireturn (pc := 37) rfl rfl dX11_associates_37
    · refine jo_aload_n (pc := 21) 0 rfl dX11_associates_21 rfl ?_
      refine jo_iload_n (pc := 22) 3 rfl dX11_associates_22 rfl ?_
      refine jo_cV_Z_p (pc := 23) (μ' := mu_X11_isRegister) (fx := f_X11_isRegister σ1 x2) (As := [.int x2]) (c_X11_isRegister hw hN) (ok_X11_isRegister) (ltb rfl) (all3 gw_1470 gw_1472 gw_73) (ik_306 hw hN) (by decide) (q := (RX11, TX11, 39)) rfl rfl rfl rfl (Nat.le_of_ble_eq_true rfl) dX11_associates_23 (fun b4 => ?_)
      refine jo_ifz_eq (pc := 26) dX11_associates_26 (tgt := 36) rfl ?_ ?_
      · refine jo_iconst (pc := 36) dX11_associates_36 (ic_i_m1) ?_
        exact jo_ireturn (pc := 37) rfl rfl dX11_associates_37
      · refine jo_aload_n (pc := 29) 0 rfl dX11_associates_29 rfl ?_
        refine jo_cV_Z_i (pc := 30) (μ' := mu_X11_isConsistent) (fx := f_X11_isConsistent σ1) (As := []) (c_X11_isConsistent hw hN) (ok_X11_isConsistent) (ltb rfl) (all3 gw_1475 gw_1477 gw_74) (ik_306 hw hN) (by decide) (q := (RX11, TX11, 39)) rfl rfl rfl rfl (Nat.le_of_ble_eq_true rfl) dX11_associates_30 (fun b5 σ6 => ?_)
        refine jo_ifz_ne (pc := 33) dX11_associates_33 (tgt := 38) rfl ?_ ?_
        · refine jo_aload_n (pc := 38) 0 rfl dX11_associates_38 rfl ?_
          refine jo_iconst (pc := 39) dX11_associates_39 (ic_i_0) ?_
          refine jo_iload_n (pc := 40) 1 rfl dX11_associates_40 rfl ?_
          refine jo_cV_V_i (pc := 41) (μ' := mu_X11_laysRegister) (fx := f_X11_laysRegister σ6 0 x0) (As := [.int 0, .int x0]) (c_X11_laysRegister hw hN) (ok_X11_laysRegister) (ltb rfl) (all3 gw_1559 gw_1561 gw_94) (ik_306 hw hN) (by decide) (q := (RX11, TX11, 39)) rfl rfl rfl rfl (Nat.le_of_ble_eq_true rfl) dX11_associates_41 (fun σ7 => ?_)
          refine jo_aload_n (pc := 44) 0 rfl dX11_associates_44 rfl ?_
          refine jo_iconst (pc := 45) dX11_associates_45 (ic_i_1) ?_
          refine jo_iload_n (pc := 46) 2 rfl dX11_associates_46 rfl ?_
          refine jo_cV_V_i (pc := 47) (μ' := mu_X11_laysRegister) (fx := f_X11_laysRegister σ7 1 x1) (As := [.int 1, .int x1]) (c_X11_laysRegister hw hN) (ok_X11_laysRegister) (ltb rfl) (all3 gw_1559 gw_1561 gw_94) (ik_306 hw hN) (by decide) (q := (RX11, TX11, 39)) rfl rfl rfl rfl (Nat.le_of_ble_eq_true rfl) dX11_associates_47 (fun σ8 => ?_)
          refine jo_aload_n (pc := 50) 0 rfl dX11_associates_50 rfl ?_
          refine jo_iconst (pc := 51) dX11_associates_51 (ic_i_2) ?_
          refine jo_iload_n (pc := 52) 3 rfl dX11_associates_52 rfl ?_
          refine jo_cV_V_i (pc := 53) (μ' := mu_X11_laysRegister) (fx := f_X11_laysRegister σ8 2 x2) (As := [.int 2, .int x2]) (c_X11_laysRegister hw hN) (ok_X11_laysRegister) (ltb rfl) (all3 gw_1559 gw_1561 gw_94) (ik_306 hw hN) (by decide) (q := (RX11, TX11, 39)) rfl rfl rfl rfl (Nat.le_of_ble_eq_true rfl) dX11_associates_53 (fun σ9 => ?_)
          refine jo_aload_n (pc := 56) 0 rfl dX11_associates_56 rfl ?_
          refine jo_iconst (pc := 57) dX11_associates_57 (ic_i_0) ?_
          refine jo_iconst (pc := 58) dX11_associates_58 (ic_i_3) ?_
          refine jo_cV_V_i (pc := 59) (μ' := mu_X11_copies) (fx := f_X11_copies σ9 0 3) (As := [.int 0, .int 3]) (c_X11_copies hw hN) (ok_X11_copies) (ltb rfl) (all3 gw_1591 gw_1593 gw_100) (ik_306 hw hN) (by decide) (q := (RX11, TX11, 39)) rfl rfl rfl rfl (Nat.le_of_ble_eq_true rfl) dX11_associates_59 (fun σ10 => ?_)
          refine jo_aload_n (pc := 62) 0 rfl dX11_associates_62 rfl ?_
          refine jo_iconst (pc := 63) dX11_associates_63 (ic_i_3) ?_
          refine jo_iconst (pc := 64) dX11_associates_64 (ic_i_1) ?_
          refine jo_cV_V_i (pc := 65) (μ' := mu_X11_times) (fx := f_X11_times σ10 3 1) (As := [.int 3, .int 1]) (c_X11_times hw hN) (ok_X11_times) (ltb rfl) (all3 gw_1523 gw_1525 gw_86) (ik_306 hw hN) (by decide) (q := (RX11, TX11, 39)) rfl rfl rfl rfl (Nat.le_of_ble_eq_true rfl) dX11_associates_65 (fun σ11 => ?_)
          refine jo_aload_n (pc := 68) 0 rfl dX11_associates_68 rfl ?_
          refine jo_iconst (pc := 69) dX11_associates_69 (ic_i_3) ?_
          refine jo_iconst (pc := 70) dX11_associates_70 (ic_i_2) ?_
          refine jo_cV_V_i (pc := 71) (μ' := mu_X11_times) (fx := f_X11_times σ11 3 2) (As := [.int 3, .int 2]) (c_X11_times hw hN) (ok_X11_times) (ltb rfl) (all3 gw_1523 gw_1525 gw_86) (ik_306 hw hN) (by decide) (q := (RX11, TX11, 39)) rfl rfl rfl rfl (Nat.le_of_ble_eq_true rfl) dX11_associates_71 (fun σ12 => ?_)
          refine jo_aload_n (pc := 74) 0 rfl dX11_associates_74 rfl ?_
          refine jo_iconst (pc := 75) dX11_associates_75 (ic_i_1) ?_
          refine jo_iconst (pc := 76) dX11_associates_76 (ic_i_4) ?_
          refine jo_cV_V_i (pc := 77) (μ' := mu_X11_copies) (fx := f_X11_copies σ12 1 4) (As := [.int 1, .int 4]) (c_X11_copies hw hN) (ok_X11_copies) (ltb rfl) (all3 gw_1591 gw_1593 gw_100) (ik_306 hw hN) (by decide) (q := (RX11, TX11, 39)) rfl rfl rfl rfl (Nat.le_of_ble_eq_true rfl) dX11_associates_77 (fun σ13 => ?_)
          refine jo_aload_n (pc := 80) 0 rfl dX11_associates_80 rfl ?_
          refine jo_iconst (pc := 81) dX11_associates_81 (ic_i_4) ?_
          refine jo_iconst (pc := 82) dX11_associates_82 (ic_i_2) ?_
          refine jo_cV_V_i (pc := 83) (μ' := mu_X11_times) (fx := f_X11_times σ13 4 2) (As := [.int 4, .int 2]) (c_X11_times hw hN) (ok_X11_times) (ltb rfl) (all3 gw_1523 gw_1525 gw_86) (ik_306 hw hN) (by decide) (q := (RX11, TX11, 39)) rfl rfl rfl rfl (Nat.le_of_ble_eq_true rfl) dX11_associates_83 (fun σ14 => ?_)
          refine jo_aload_n (pc := 86) 0 rfl dX11_associates_86 rfl ?_
          refine jo_iconst (pc := 87) dX11_associates_87 (ic_i_0) ?_
          refine jo_iconst (pc := 88) dX11_associates_88 (ic_i_4) ?_
          refine jo_cV_V_i (pc := 89) (μ' := mu_X11_times) (fx := f_X11_times σ14 0 4) (As := [.int 0, .int 4]) (c_X11_times hw hN) (ok_X11_times) (ltb rfl) (all3 gw_1523 gw_1525 gw_86) (ik_306 hw hN) (by decide) (q := (RX11, TX11, 39)) rfl rfl rfl rfl (Nat.le_of_ble_eq_true rfl) dX11_associates_89 (fun σ15 => ?_)
          refine jo_aload_n (pc := 92) 0 rfl dX11_associates_92 rfl ?_
          refine jo_iconst (pc := 93) dX11_associates_93 (ic_i_0) ?_
          refine jo_iconst (pc := 94) dX11_associates_94 (ic_i_3) ?_
          refine jo_cV_Z_p (pc := 95) (μ' := mu_X11_areSame) (fx := f_X11_areSame σ15 0 3) (As := [.int 0, .int 3]) (c_X11_areSame hw hN) (ok_X11_areSame) (ltb rfl) (all3 gw_1641 gw_1643 gw_107) (ik_306 hw hN) (by decide) (q := (RX11, TX11, 39)) rfl rfl rfl rfl (Nat.le_of_ble_eq_true rfl) dX11_associates_95 (fun b16 => ?_)
          refine jo_ifz_eq (pc := 98) dX11_associates_98 (tgt := 105) rfl ?_ ?_
          · refine jo_iconst (pc := 105) dX11_associates_105 (ic_i_0) ?_
            exact jo_ireturn (pc := 106) rfl rfl dX11_associates_106
          · refine jo_iconst (pc := 101) dX11_associates_101 (ic_i_1) ?_
            refine jo_goto (pc := 102) dX11_associates_102 (tgt := 106) rfl ?_
            exact jo_ireturn (pc := 106) rfl rfl dX11_associates_106
        · refine jo_iconst (pc := 36) dX11_associates_36 (ic_i_m1) ?_
          exact jo_ireturn (pc := 37) rfl rfl dX11_associates_37
theorem c_X11_associates {w : Wd} (hw : WOK w) (hN : wn w = NT) {σ : Mem} {x0 : Int32} {x1 : Int32} {x2 : Int32} : ∀ r σ', f_X11_associates σ x0 x1 x2 = some (r, σ') → MC w mu_X11_associates (vI r) [.ref (adr w 306), .int x0, .int x1, .int x2] σ σ' := mc_of ok_X11_associates rfl (Nat.le_of_ble_eq_true rfl) (t_X11_associates hw hN)
abbrev mu_X11_image : MD := (yX11_image, cX11_image, 3, some .boolean, 0)
theorem ok_X11_image : MOK mu_X11_image 1 := ⟨gw_1914, gw_171, (by decide +kernel : plainFor yX11_image = true), ⟨(by decide +kernel : yX11_image.cls ≠ "java/lang/invoke/MethodHandle"), (by decide +kernel : yX11_image.cls ≠ "java/lang/invoke/VarHandle"), (by decide +kernel : (parseMethodDescriptor yX11_image.desc).map (fun d => d.parameters.length) = some 1)⟩, Nat.le_of_ble_eq_true rfl⟩
noncomputable def j_X11_image_167 (σ4 : Mem) : Option (Bool × Mem) :=
  gI σ4 323 289 (fun (v5 : Int32) => pF σ4 306 27 v5 (fun (σ6 : Mem) => gI σ6 323 290 (fun (v7 : Int32) => pF σ6 306 4 v7 (fun (σ8 : Mem) => pF σ8 306 3 0 (fun (σ9 : Mem) => pF σ9 306 9 0 (fun (σ10 : Mem) => some (true, σ10)))))))
noncomputable def l_X11_image_139 (σ11 : Mem) (i12 : Int32) : Option ((Mem × Int32) ⊕ Mem) :=
  if 6 ≤ i12 then (some (Sum.inr σ11)) else (gI σ11 323 (283 + i12) (fun (v13 : Int32) => pI σ11 318 i12 v13 (fun (σ14 : Mem) => some (Sum.inl (σ14, i12 + 1)))))
noncomputable def j_X11_image_137 (σ3 : Mem) : Option (Bool × Mem) :=
  (loopO (fun (z12 : (Mem × Int32)) => l_X11_image_139 z12.1 z12.2) (σ3, 0) : Option Mem).bind (fun (z4 : Mem) => j_X11_image_167 z4)
noncomputable def l_X11_image_112 (σ15 : Mem) (i16 : Int32) : Option ((Mem × Int32) ⊕ Mem) :=
  if 283 ≤ i16 then (some (Sum.inr σ15)) else (gI σ15 323 i16 (fun (v17 : Int32) => pI σ15 307 i16 v17 (fun (σ18 : Mem) => some (Sum.inl (σ18, i16 + 1)))))
noncomputable def j_X11_image_84 (σ20 : Mem) : Option (Bool × Mem) :=
  gF σ20 306 27 (fun (v21 : Int32) => pI σ20 323 289 v21 (fun (σ22 : Mem) => gF σ22 306 4 (fun (v23 : Int32) => pI σ22 323 290 v23 (fun (σ24 : Mem) => some (true, σ24)))))
noncomputable def l_X11_image_56 (σ25 : Mem) (i26 : Int32) : Option ((Mem × Int32) ⊕ Mem) :=
  if 6 ≤ i26 then (some (Sum.inr σ25)) else (gI σ25 318 i26 (fun (v27 : Int32) => pI σ25 323 (283 + i26) v27 (fun (σ28 : Mem) => some (Sum.inl (σ28, i26 + 1)))))
noncomputable def j_X11_image_54 (σ19 : Mem) : Option (Bool × Mem) :=
  (loopO (fun (z26 : (Mem × Int32)) => l_X11_image_56 z26.1 z26.2) (σ19, 0) : Option Mem).bind (fun (z20 : Mem) => j_X11_image_84 z20)
noncomputable def l_X11_image_29 (σ29 : Mem) (i30 : Int32) : Option ((Mem × Int32) ⊕ Mem) :=
  if 283 ≤ i30 then (some (Sum.inr σ29)) else (gI σ29 307 i30 (fun (v31 : Int32) => pI σ29 323 i30 v31 (fun (σ32 : Mem) => some (Sum.inl (σ32, i30 + 1)))))
noncomputable def j_X11_image_18 (x0 : Bool) (σ1 : Mem) : Option (Bool × Mem) :=
  pF σ1 306 37 1 (fun (σ2 : Mem) => if x0 then (loopO (fun (z30 : (Mem × Int32)) => l_X11_image_29 z30.1 z30.2) (σ2, 0) : Option Mem).bind (fun (z19 : Mem) => j_X11_image_54 z19) else (loopO (fun (z16 : (Mem × Int32)) => l_X11_image_112 z16.1 z16.2) (σ2, 0) : Option Mem).bind (fun (z3 : Mem) => j_X11_image_137 z3))
noncomputable def f_X11_image (σ : Mem) (x0 : Bool) : Option (Bool × Mem) :=
  pF σ 306 0 0 (fun (σ1 : Mem) => (if x0 then some (Sum.inl ()) else gZ σ1 306 37 (fun (b33 : Bool) => if b33 then some (Sum.inl ()) else some (Sum.inr (false, σ1))) : Option (Unit ⊕ (Bool × Mem))).bind (Sum.elim (fun (z1 : Unit) => j_X11_image_18 x0 σ1) some))
theorem t_X11_image {w : Wd} (hw : WOK w) (hN : wn w = NT) {σ : Mem} {x0 : Bool} : JO w mu_X11_image vB σ [(0, .ref (adr w 306)), (1, .int (b2i x0))] [] 0 (f_X11_image σ x0) some := by
  unfold f_X11_image
  refine jo_aload_n (pc := 0) 0 rfl dX11_image_0 rfl ?_
  refine jo_iconst (pc := 1) dX11_image_1 (ic_i_0) ?_
  refine jo_putf (pc := 2) ok_11_0 okp_11_0 (ik_306 hw hN) gw_1293 dX11_image_2 (fun σ1 => ?_)
  refine jo_iload_n (pc := 5) 1 rfl dX11_image_5 rfl ?_
  refine jo_joinS (S := Unit) (fun (z1 : Unit) => σ1) (fun (z1 : Unit) => [(0, .ref (adr w 306)), (1, .int (b2i x0))]) (fun (z1 : Unit) => []) 18 ?_ (fun h18_1 => ?_)
  · intro _
    show JO w mu_X11_image vB σ1 [(0, .ref (adr w 306)), (1, .int (b2i x0))] [] 18 (j_X11_image_18 x0 σ1) _
    unfold j_X11_image_18
    refine jo_aload_n (pc := 18) 0 rfl dX11_image_18 rfl ?_
    refine jo_iconst (pc := 19) dX11_image_19 (ic_i_1) ?_
    refine jo_putz01 (pc := 20) (by decide) ok_11_37 okp_11_37 (ik_306 hw hN) gw_1330 dX11_image_20 (fun σ2 => ?_)
    refine jo_iload_n (pc := 23) 1 rfl dX11_image_23 rfl ?_
    refine jo_ifz_eq (pc := 24) dX11_image_24 (tgt := 110) rfl ?_ ?_
    · refine jo_iconst (pc := 110) dX11_image_110 (ic_i_0) ?_
      refine jo_istore_n (pc := 111) (lv' := [(2, .int 0), (0, .ref (adr w 306)), (1, .int (b2i x0))]) dX11_image_111 rfl (ltb rfl) rfl ?_
      refine jo_join1 (S := Mem) (fun (z3 : Mem) => z3) (fun (z3 : Mem) => [(0, .ref (adr w 306))]) (fun (z3 : Mem) => []) 137 ?_ (fun h137_3 => ?_)
      · intro σ3
        show JO w mu_X11_image vB σ3 [(0, .ref (adr w 306))] [] 137 (j_X11_image_137 σ3) _
        unfold j_X11_image_137
        refine jo_iconst (pc := 137) dX11_image_137 (ic_i_0) ?_
        refine jo_istore_n (pc := 138) (lv' := [(2, .int 0), (0, .ref (adr w 306))]) dX11_image_138 rfl (ltb rfl) rfl ?_
        refine jo_join1 (S := Mem) (fun (z4 : Mem) => z4) (fun (z4 : Mem) => [(0, .ref (adr w 306))]) (fun (z4 : Mem) => []) 167 ?_ (fun h167_4 => ?_)
        · intro σ4
          show JO w mu_X11_image vB σ4 [(0, .ref (adr w 306))] [] 167 (j_X11_image_167 σ4) _
          unfold j_X11_image_167
          refine jo_aload_n (pc := 167) 0 rfl dX11_image_167 rfl ?_
          refine jo_aload_n (pc := 168) 0 rfl dX11_image_168 rfl ?_
          refine jo_getrE (pc := 169) ok_11_38 (ik_306 hw hN) rf_306_38 gw_1331 dX11_image_169 ?_
          refine jo_sipush (pc := 172) dX11_image_172 (ic_s_289) ?_
          refine jo_iald (pc := 175) (ik_323 hw hN) dX11_image_175 (fun v5 => ?_)
          refine jo_putf (pc := 176) ok_11_27 okp_11_27 (ik_306 hw hN) gw_1320 dX11_image_176 (fun σ6 => ?_)
          refine jo_aload_n (pc := 179) 0 rfl dX11_image_179 rfl ?_
          refine jo_aload_n (pc := 180) 0 rfl dX11_image_180 rfl ?_
          refine jo_getrE (pc := 181) ok_11_38 (ik_306 hw hN) rf_306_38 gw_1331 dX11_image_181 ?_
          refine jo_sipush (pc := 184) dX11_image_184 (ic_s_290) ?_
          refine jo_iald (pc := 187) (ik_323 hw hN) dX11_image_187 (fun v7 => ?_)
          refine jo_putf (pc := 188) ok_11_4 okp_11_4 (ik_306 hw hN) gw_1297 dX11_image_188 (fun σ8 => ?_)
          refine jo_aload_n (pc := 191) 0 rfl dX11_image_191 rfl ?_
          refine jo_iconst (pc := 192) dX11_image_192 (ic_i_0) ?_
          refine jo_putf (pc := 193) ok_11_3 okp_11_3 (ik_306 hw hN) gw_1296 dX11_image_193 (fun σ9 => ?_)
          refine jo_aload_n (pc := 196) 0 rfl dX11_image_196 rfl ?_
          refine jo_iconst (pc := 197) dX11_image_197 (ic_i_0) ?_
          refine jo_putz01 (pc := 198) (by decide) ok_11_9 okp_11_9 (ik_306 hw hN) gw_1302 dX11_image_198 (fun σ10 => ?_)
          refine jo_iconst (pc := 201) dX11_image_201 (ic_i_1) ?_
          exact jo_breturn (pc := 202) (b := true) rfl rfl dX11_image_202
        · refine jo_lv (lv' := [(0, .ref (adr w 306)), (2, .int 0)]) [1, 0] rfl ?_
          refine jo_loop (X := Mem) (fun (z12 : (Mem × Int32)) => z12.1) (fun (z12 : (Mem × Int32)) => [(0, .ref (adr w 306)), (2, .int z12.2)]) (body := (fun (z12 : (Mem × Int32)) => l_X11_image_139 z12.1 z12.2)) (fun F139_12 hF139_12 s => ?_) (σ3, 0)
          obtain ⟨σ11, i12⟩ := s
          show JO w mu_X11_image vB σ11 [(0, .ref (adr w 306)), (2, .int i12)] [] 139 (l_X11_image_139 σ11 i12) _
          unfold l_X11_image_139
          refine jo_iload_n (pc := 139) 1 rfl dX11_image_139 rfl ?_
          refine jo_bipush (pc := 140) dX11_image_140 (ic_b_6) ?_
          refine jo_icmp_ge (pc := 142) dX11_image_142 (tgt := 167) rfl ?_ ?_
          · refine jo_lv (lv' := [(0, .ref (adr w 306))]) [0] rfl ?_
            exact jo_leaf (by rfl) (h167_4 σ11)
          · refine jo_aload_n (pc := 145) 0 rfl dX11_image_145 rfl ?_
            refine jo_getrE (pc := 146) ok_11_26 (ik_306 hw hN) rf_306_26 gw_1319 dX11_image_146 ?_
            refine jo_iload_n (pc := 149) 1 rfl dX11_image_149 rfl ?_
            refine jo_aload_n (pc := 150) 0 rfl dX11_image_150 rfl ?_
            refine jo_getrE (pc := 151) ok_11_38 (ik_306 hw hN) rf_306_38 gw_1331 dX11_image_151 ?_
            refine jo_sipush (pc := 154) dX11_image_154 (ic_s_283) ?_
            refine jo_iload_n (pc := 157) 1 rfl dX11_image_157 rfl ?_
            refine jo_iadd (pc := 158) dX11_image_158 ?_
            refine jo_iald (pc := 159) (ik_323 hw hN) dX11_image_159 (fun v13 => ?_)
            refine jo_iast (pc := 160) (ik_318 hw hN) dX11_image_160 (fun σ14 => ?_)
            refine jo_iinc (pc := 161) (lv' := [(2, .int (i12 + 1)), (0, .ref (adr w 306))]) 1 rfl dX11_image_161 (congrArg (fun z => i12 + z) (ic_i_1)) (ltb rfl) rfl ?_
            refine jo_goto (pc := 164) dX11_image_164 (tgt := 139) rfl ?_
            refine jo_lv (lv' := [(0, .ref (adr w 306)), (2, .int (i12 + 1))]) [1, 0] rfl ?_
            exact jo_leaf (by rfl) (hF139_12 (σ14, i12 + 1))
      · refine jo_lv (lv' := [(0, .ref (adr w 306)), (2, .int 0)]) [1, 0] rfl ?_
        refine jo_loop (X := Mem) (fun (z16 : (Mem × Int32)) => z16.1) (fun (z16 : (Mem × Int32)) => [(0, .ref (adr w 306)), (2, .int z16.2)]) (body := (fun (z16 : (Mem × Int32)) => l_X11_image_112 z16.1 z16.2)) (fun F112_16 hF112_16 s => ?_) (σ2, 0)
        obtain ⟨σ15, i16⟩ := s
        show JO w mu_X11_image vB σ15 [(0, .ref (adr w 306)), (2, .int i16)] [] 112 (l_X11_image_112 σ15 i16) _
        unfold l_X11_image_112
        refine jo_iload_n (pc := 112) 1 rfl dX11_image_112 rfl ?_
        refine jo_sipush (pc := 113) dX11_image_113 (ic_s_283) ?_
        refine jo_icmp_ge (pc := 116) dX11_image_116 (tgt := 137) rfl ?_ ?_
        · refine jo_lv (lv' := [(0, .ref (adr w 306))]) [0] rfl ?_
          exact jo_leaf (by rfl) (h137_3 σ15)
        · refine jo_aload_n (pc := 119) 0 rfl dX11_image_119 rfl ?_
          refine jo_getrE (pc := 120) ok_11_1 (ik_306 hw hN) rf_306_1 gw_1294 dX11_image_120 ?_
          refine jo_iload_n (pc := 123) 1 rfl dX11_image_123 rfl ?_
          refine jo_aload_n (pc := 124) 0 rfl dX11_image_124 rfl ?_
          refine jo_getrE (pc := 125) ok_11_38 (ik_306 hw hN) rf_306_38 gw_1331 dX11_image_125 ?_
          refine jo_iload_n (pc := 128) 1 rfl dX11_image_128 rfl ?_
          refine jo_iald (pc := 129) (ik_323 hw hN) dX11_image_129 (fun v17 => ?_)
          refine jo_iast (pc := 130) (ik_307 hw hN) dX11_image_130 (fun σ18 => ?_)
          refine jo_iinc (pc := 131) (lv' := [(2, .int (i16 + 1)), (0, .ref (adr w 306))]) 1 rfl dX11_image_131 (congrArg (fun z => i16 + z) (ic_i_1)) (ltb rfl) rfl ?_
          refine jo_goto (pc := 134) dX11_image_134 (tgt := 112) rfl ?_
          refine jo_lv (lv' := [(0, .ref (adr w 306)), (2, .int (i16 + 1))]) [1, 0] rfl ?_
          exact jo_leaf (by rfl) (hF112_16 (σ18, i16 + 1))
    · refine jo_iconst (pc := 27) dX11_image_27 (ic_i_0) ?_
      refine jo_istore_n (pc := 28) (lv' := [(2, .int 0), (0, .ref (adr w 306)), (1, .int (b2i x0))]) dX11_image_28 rfl (ltb rfl) rfl ?_
      refine jo_join1 (S := Mem) (fun (z19 : Mem) => z19) (fun (z19 : Mem) => [(0, .ref (adr w 306))]) (fun (z19 : Mem) => []) 54 ?_ (fun h54_19 => ?_)
      · intro σ19
        show JO w mu_X11_image vB σ19 [(0, .ref (adr w 306))] [] 54 (j_X11_image_54 σ19) _
        unfold j_X11_image_54
        refine jo_iconst (pc := 54) dX11_image_54 (ic_i_0) ?_
        refine jo_istore_n (pc := 55) (lv' := [(2, .int 0), (0, .ref (adr w 306))]) dX11_image_55 rfl (ltb rfl) rfl ?_
        refine jo_join1 (S := Mem) (fun (z20 : Mem) => z20) (fun (z20 : Mem) => [(0, .ref (adr w 306))]) (fun (z20 : Mem) => []) 84 ?_ (fun h84_20 => ?_)
        · intro σ20
          show JO w mu_X11_image vB σ20 [(0, .ref (adr w 306))] [] 84 (j_X11_image_84 σ20) _
          unfold j_X11_image_84
          refine jo_aload_n (pc := 84) 0 rfl dX11_image_84 rfl ?_
          refine jo_getrE (pc := 85) ok_11_38 (ik_306 hw hN) rf_306_38 gw_1331 dX11_image_85 ?_
          refine jo_sipush (pc := 88) dX11_image_88 (ic_s_289) ?_
          refine jo_aload_n (pc := 91) 0 rfl dX11_image_91 rfl ?_
          refine jo_getf (pc := 92) ok_11_27 (ik_306 hw hN) gw_1320 dX11_image_92 (fun v21 => ?_)
          refine jo_iast (pc := 95) (ik_323 hw hN) dX11_image_95 (fun σ22 => ?_)
          refine jo_aload_n (pc := 96) 0 rfl dX11_image_96 rfl ?_
          refine jo_getrE (pc := 97) ok_11_38 (ik_306 hw hN) rf_306_38 gw_1331 dX11_image_97 ?_
          refine jo_sipush (pc := 100) dX11_image_100 (ic_s_290) ?_
          refine jo_aload_n (pc := 103) 0 rfl dX11_image_103 rfl ?_
          refine jo_getf (pc := 104) ok_11_4 (ik_306 hw hN) gw_1297 dX11_image_104 (fun v23 => ?_)
          refine jo_iast (pc := 107) (ik_323 hw hN) dX11_image_107 (fun σ24 => ?_)
          refine jo_iconst (pc := 108) dX11_image_108 (ic_i_1) ?_
          exact jo_breturn (pc := 109) (b := true) rfl rfl dX11_image_109
        · refine jo_lv (lv' := [(0, .ref (adr w 306)), (2, .int 0)]) [1, 0] rfl ?_
          refine jo_loop (X := Mem) (fun (z26 : (Mem × Int32)) => z26.1) (fun (z26 : (Mem × Int32)) => [(0, .ref (adr w 306)), (2, .int z26.2)]) (body := (fun (z26 : (Mem × Int32)) => l_X11_image_56 z26.1 z26.2)) (fun F56_26 hF56_26 s => ?_) (σ19, 0)
          obtain ⟨σ25, i26⟩ := s
          show JO w mu_X11_image vB σ25 [(0, .ref (adr w 306)), (2, .int i26)] [] 56 (l_X11_image_56 σ25 i26) _
          unfold l_X11_image_56
          refine jo_iload_n (pc := 56) 1 rfl dX11_image_56 rfl ?_
          refine jo_bipush (pc := 57) dX11_image_57 (ic_b_6) ?_
          refine jo_icmp_ge (pc := 59) dX11_image_59 (tgt := 84) rfl ?_ ?_
          · refine jo_lv (lv' := [(0, .ref (adr w 306))]) [0] rfl ?_
            exact jo_leaf (by rfl) (h84_20 σ25)
          · refine jo_aload_n (pc := 62) 0 rfl dX11_image_62 rfl ?_
            refine jo_getrE (pc := 63) ok_11_38 (ik_306 hw hN) rf_306_38 gw_1331 dX11_image_63 ?_
            refine jo_sipush (pc := 66) dX11_image_66 (ic_s_283) ?_
            refine jo_iload_n (pc := 69) 1 rfl dX11_image_69 rfl ?_
            refine jo_iadd (pc := 70) dX11_image_70 ?_
            refine jo_aload_n (pc := 71) 0 rfl dX11_image_71 rfl ?_
            refine jo_getrE (pc := 72) ok_11_26 (ik_306 hw hN) rf_306_26 gw_1319 dX11_image_72 ?_
            refine jo_iload_n (pc := 75) 1 rfl dX11_image_75 rfl ?_
            refine jo_iald (pc := 76) (ik_318 hw hN) dX11_image_76 (fun v27 => ?_)
            refine jo_iast (pc := 77) (ik_323 hw hN) dX11_image_77 (fun σ28 => ?_)
            refine jo_iinc (pc := 78) (lv' := [(2, .int (i26 + 1)), (0, .ref (adr w 306))]) 1 rfl dX11_image_78 (congrArg (fun z => i26 + z) (ic_i_1)) (ltb rfl) rfl ?_
            refine jo_goto (pc := 81) dX11_image_81 (tgt := 56) rfl ?_
            refine jo_lv (lv' := [(0, .ref (adr w 306)), (2, .int (i26 + 1))]) [1, 0] rfl ?_
            exact jo_leaf (by rfl) (hF56_26 (σ28, i26 + 1))
      · refine jo_lv (lv' := [(0, .ref (adr w 306)), (2, .int 0)]) [1, 0] rfl ?_
        refine jo_loop (X := Mem) (fun (z30 : (Mem × Int32)) => z30.1) (fun (z30 : (Mem × Int32)) => [(0, .ref (adr w 306)), (2, .int z30.2)]) (body := (fun (z30 : (Mem × Int32)) => l_X11_image_29 z30.1 z30.2)) (fun F29_30 hF29_30 s => ?_) (σ2, 0)
        obtain ⟨σ29, i30⟩ := s
        show JO w mu_X11_image vB σ29 [(0, .ref (adr w 306)), (2, .int i30)] [] 29 (l_X11_image_29 σ29 i30) _
        unfold l_X11_image_29
        refine jo_iload_n (pc := 29) 1 rfl dX11_image_29 rfl ?_
        refine jo_sipush (pc := 30) dX11_image_30 (ic_s_283) ?_
        refine jo_icmp_ge (pc := 33) dX11_image_33 (tgt := 54) rfl ?_ ?_
        · refine jo_lv (lv' := [(0, .ref (adr w 306))]) [0] rfl ?_
          exact jo_leaf (by rfl) (h54_19 σ29)
        · refine jo_aload_n (pc := 36) 0 rfl dX11_image_36 rfl ?_
          refine jo_getrE (pc := 37) ok_11_38 (ik_306 hw hN) rf_306_38 gw_1331 dX11_image_37 ?_
          refine jo_iload_n (pc := 40) 1 rfl dX11_image_40 rfl ?_
          refine jo_aload_n (pc := 41) 0 rfl dX11_image_41 rfl ?_
          refine jo_getrE (pc := 42) ok_11_1 (ik_306 hw hN) rf_306_1 gw_1294 dX11_image_42 ?_
          refine jo_iload_n (pc := 45) 1 rfl dX11_image_45 rfl ?_
          refine jo_iald (pc := 46) (ik_307 hw hN) dX11_image_46 (fun v31 => ?_)
          refine jo_iast (pc := 47) (ik_323 hw hN) dX11_image_47 (fun σ32 => ?_)
          refine jo_iinc (pc := 48) (lv' := [(2, .int (i30 + 1)), (0, .ref (adr w 306))]) 1 rfl dX11_image_48 (congrArg (fun z => i30 + z) (ic_i_1)) (ltb rfl) rfl ?_
          refine jo_goto (pc := 51) dX11_image_51 (tgt := 29) rfl ?_
          refine jo_lv (lv' := [(0, .ref (adr w 306)), (2, .int (i30 + 1))]) [1, 0] rfl ?_
          exact jo_leaf (by rfl) (hF29_30 (σ32, i30 + 1))
  · refine jo_ifz_ne (pc := 6) dX11_image_6 (tgt := 18) rfl ?_ ?_
    · exact jo_leaf (by rfl) (h18_1 ())
    · refine jo_aload_n (pc := 9) 0 rfl dX11_image_9 rfl ?_
      refine jo_getz (pc := 10) ok_11_37 (ik_306 hw hN) gw_1330 dX11_image_10 (fun b33 => ?_)
      refine jo_ifz_ne (pc := 13) dX11_image_13 (tgt := 18) rfl ?_ ?_
      · exact jo_leaf (by rfl) (h18_1 ())
      · refine jo_iconst (pc := 16) dX11_image_16 (ic_i_0) ?_
        exact jo_breturn (pc := 17) (b := false) rfl rfl dX11_image_17
theorem c_X11_image {w : Wd} (hw : WOK w) (hN : wn w = NT) {σ : Mem} {x0 : Bool} : ∀ r σ', f_X11_image σ x0 = some (r, σ') → MC w mu_X11_image (vB r) [.ref (adr w 306), .int (b2i x0)] σ σ' := mc_of ok_X11_image rfl (Nat.le_of_ble_eq_true rfl) (t_X11_image hw hN)
abbrev mu_X11_tails : MD := (yX11_tails, cX11_tails, 3, some .int, 0)
theorem ok_X11_tails : MOK mu_X11_tails 0 := ⟨gw_1922, gw_171, (by decide +kernel : plainFor yX11_tails = true), ⟨(by decide +kernel : yX11_tails.cls ≠ "java/lang/invoke/MethodHandle"), (by decide +kernel : yX11_tails.cls ≠ "java/lang/invoke/VarHandle"), (by decide +kernel : (parseMethodDescriptor yX11_tails.desc).map (fun d => d.parameters.length) = some 0)⟩, Nat.le_of_ble_eq_true rfl⟩
noncomputable def j_X11_tails_25 (i2 : Int32) (i4 : Int32) : Option ((Int32 × Int32) ⊕ Int32) :=
  some (Sum.inl (i4, i2 + 1))
noncomputable def l_X11_tails_5 (σ : Mem) (i1 : Int32) (i2 : Int32) : Option ((Int32 × Int32) ⊕ Int32) :=
  if 223 ≤ i2 then (some (Sum.inr i1)) else (gI σ 307 i2 (fun (v3 : Int32) => (if v3 ≤ 0 then (some i1) else (bd (i1 + 1) (fun (v5 : Int32) => some v5)) : Option Int32).bind (fun (z4 : Int32) => j_X11_tails_25 i2 z4)))
noncomputable def f_X11_tails (σ : Mem) : Option Int32 :=
  loopO (fun (z2 : (Int32 × Int32)) => l_X11_tails_5 σ z2.1 z2.2) (0, 7)
theorem t_X11_tails {w : Wd} (hw : WOK w) (hN : wn w = NT) {σ : Mem} : JO w mu_X11_tails vI σ [(0, .ref (adr w 306))] [] 0 (f_X11_tails σ) (fun z => some (z, σ)) := by
  unfold f_X11_tails
  refine jo_iconst (pc := 0) dX11_tails_0 (ic_i_0) ?_
  refine jo_istore_n (pc := 1) (lv' := [(1, .int 0), (0, .ref (adr w 306))]) dX11_tails_1 rfl (ltb rfl) rfl ?_
  refine jo_bipush (pc := 2) dX11_tails_2 (ic_b_7) ?_
  refine jo_istore_n (pc := 4) (lv' := [(2, .int 7), (1, .int 0), (0, .ref (adr w 306))]) dX11_tails_4 rfl (ltb rfl) rfl ?_
  refine jo_lv (lv' := [(0, .ref (adr w 306)), (1, .int 0), (2, .int 7)]) [2, 1, 0] rfl ?_
  refine jo_loop (X := Int32) (fun (z2 : (Int32 × Int32)) => σ) (fun (z2 : (Int32 × Int32)) => [(0, .ref (adr w 306)), (1, .int z2.1), (2, .int z2.2)]) (body := (fun (z2 : (Int32 × Int32)) => l_X11_tails_5 σ z2.1 z2.2)) (fun F5_2 hF5_2 s => ?_) (0, 7)
  obtain ⟨i1, i2⟩ := s
  show JO w mu_X11_tails vI σ [(0, .ref (adr w 306)), (1, .int i1), (2, .int i2)] [] 5 (l_X11_tails_5 σ i1 i2) _
  unfold l_X11_tails_5
  refine jo_iload_n (pc := 5) 2 rfl dX11_tails_5 rfl ?_
  refine jo_sipush (pc := 6) dX11_tails_6 (ic_s_223) ?_
  refine jo_icmp_ge (pc := 9) dX11_tails_9 (tgt := 31) rfl ?_ ?_
  · refine jo_iload_n (pc := 31) 1 rfl dX11_tails_31 rfl ?_
    exact jo_ireturn (pc := 32) rfl rfl dX11_tails_32
  · refine jo_aload_n (pc := 12) 0 rfl dX11_tails_12 rfl ?_
    refine jo_getrE (pc := 13) ok_11_1 (ik_306 hw hN) rf_306_1 gw_1294 dX11_tails_13 ?_
    refine jo_iload_n (pc := 16) 2 rfl dX11_tails_16 rfl ?_
    refine jo_iald (pc := 17) (ik_307 hw hN) dX11_tails_17 (fun v3 => ?_)
    refine jo_join1 (S := Int32) (fun (z4 : Int32) => σ) (fun (z4 : Int32) => [(0, .ref (adr w 306)), (2, .int i2), (1, .int z4)]) (fun (z4 : Int32) => []) 25 ?_ (fun h25_4 => ?_)
    · intro i4
      show JO w mu_X11_tails vI σ [(0, .ref (adr w 306)), (2, .int i2), (1, .int i4)] [] 25 (j_X11_tails_25 i2 i4) _
      unfold j_X11_tails_25
      refine jo_iinc (pc := 25) (lv' := [(2, .int (i2 + 1)), (0, .ref (adr w 306)), (1, .int i4)]) 1 rfl dX11_tails_25 (congrArg (fun z => i2 + z) (ic_i_1)) (ltb rfl) rfl ?_
      refine jo_goto (pc := 28) dX11_tails_28 (tgt := 5) rfl ?_
      refine jo_lv (lv' := [(0, .ref (adr w 306)), (1, .int i4), (2, .int (i2 + 1))]) [1, 2, 0] rfl ?_
      exact jo_leaf (by rfl) (hF5_2 (i4, i2 + 1))
    · refine jo_if_le (pc := 18) dX11_tails_18 (tgt := 25) rfl ?_ ?_
      · refine jo_lv (lv' := [(0, .ref (adr w 306)), (2, .int i2), (1, .int i1)]) [0, 2, 1] rfl ?_
        exact jo_leaf (by rfl) (h25_4 i1)
      · refine jo_iload_n (pc := 21) 1 rfl dX11_tails_21 rfl ?_
        refine jo_iconst (pc := 22) dX11_tails_22 (ic_i_1) ?_
        refine jo_iadd (pc := 23) dX11_tails_23 ?_
        refine jo_bd ?_
        refine jo_istore_n (pc := 24) (lv' := [(1, .int (i1 + 1)), (0, .ref (adr w 306)), (2, .int i2)]) dX11_tails_24 rfl (ltb rfl) rfl ?_
        generalize (i1 + 1) = v5
        refine jo_lv (lv' := [(0, .ref (adr w 306)), (2, .int i2), (1, .int v5)]) [1, 2, 0] rfl ?_
        exact jo_leaf (by rfl) (h25_4 v5)
theorem c_X11_tails {w : Wd} (hw : WOK w) (hN : wn w = NT) {σ : Mem} : ∀ r, f_X11_tails σ = some r → MC w mu_X11_tails (vI r) [.ref (adr w 306)] σ σ := mc_ofP ok_X11_tails rfl (Nat.le_of_ble_eq_true rfl) (t_X11_tails hw hN)
abbrev mu_X11_termsOfAll : MD := (yX11_termsOfAll, cX11_termsOfAll, 3, some .int, 36)
theorem ok_X11_termsOfAll : MOK mu_X11_termsOfAll 0 := ⟨gw_1926, gw_171, (by decide +kernel : plainFor yX11_termsOfAll = true), ⟨(by decide +kernel : yX11_termsOfAll.cls ≠ "java/lang/invoke/MethodHandle"), (by decide +kernel : yX11_termsOfAll.cls ≠ "java/lang/invoke/VarHandle"), (by decide +kernel : (parseMethodDescriptor yX11_termsOfAll.desc).map (fun d => d.parameters.length) = some 0)⟩, Nat.le_of_ble_eq_true rfl⟩
noncomputable def l_X11_termsOfAll_8 (σ1 : Mem) (i2 : Int32) (i3 : Int32) : Option ((Int32 × Int32) ⊕ (Int32 × Mem)) :=
  if 6 ≤ i3 then (some (Sum.inr (i2, σ1))) else (gI σ1 311 i3 (fun (v4 : Int32) => bd (i2 + v4) (fun (v5 : Int32) => some (Sum.inl (v5, i3 + 1)))))
noncomputable def f_X11_termsOfAll (σ : Mem) : Option (Int32 × Mem) :=
  (f_X11_lays σ).bind (fun (σ1 : Mem) => loopO (fun (z3 : (Int32 × Int32)) => l_X11_termsOfAll_8 σ1 z3.1 z3.2) (0, 0))
theorem t_X11_termsOfAll {w : Wd} (hw : WOK w) (hN : wn w = NT) {σ : Mem} : JO w mu_X11_termsOfAll vI σ [(0, .ref (adr w 306))] [] 0 (f_X11_termsOfAll σ) some := by
  unfold f_X11_termsOfAll
  refine jo_aload_n (pc := 0) 0 rfl dX11_termsOfAll_0 rfl ?_
  refine jo_cV_V_i (pc := 1) (μ' := mu_X11_lays) (fx := f_X11_lays σ) (As := []) (c_X11_lays hw hN) (ok_X11_lays) (ltb rfl) (all3 gw_1479 gw_1481 gw_75) (ik_306 hw hN) (by decide) (q := (RX11, TX11, 39)) rfl rfl rfl rfl (Nat.le_of_ble_eq_true rfl) dX11_termsOfAll_1 (fun σ1 => ?_)
  refine jo_iconst (pc := 4) dX11_termsOfAll_4 (ic_i_0) ?_
  refine jo_istore_n (pc := 5) (lv' := [(1, .int 0), (0, .ref (adr w 306))]) dX11_termsOfAll_5 rfl (ltb rfl) rfl ?_
  refine jo_iconst (pc := 6) dX11_termsOfAll_6 (ic_i_0) ?_
  refine jo_istore_n (pc := 7) (lv' := [(2, .int 0), (1, .int 0), (0, .ref (adr w 306))]) dX11_termsOfAll_7 rfl (ltb rfl) rfl ?_
  refine jo_lv (lv' := [(0, .ref (adr w 306)), (1, .int 0), (2, .int 0)]) [2, 1, 0] rfl ?_
  refine jo_loop (X := (Int32 × Mem)) (fun (z3 : (Int32 × Int32)) => σ1) (fun (z3 : (Int32 × Int32)) => [(0, .ref (adr w 306)), (1, .int z3.1), (2, .int z3.2)]) (body := (fun (z3 : (Int32 × Int32)) => l_X11_termsOfAll_8 σ1 z3.1 z3.2)) (fun F8_3 hF8_3 s => ?_) (0, 0)
  obtain ⟨i2, i3⟩ := s
  show JO w mu_X11_termsOfAll vI σ1 [(0, .ref (adr w 306)), (1, .int i2), (2, .int i3)] [] 8 (l_X11_termsOfAll_8 σ1 i2 i3) _
  unfold l_X11_termsOfAll_8
  refine jo_iload_n (pc := 8) 2 rfl dX11_termsOfAll_8 rfl ?_
  refine jo_bipush (pc := 9) dX11_termsOfAll_9 (ic_b_6) ?_
  refine jo_icmp_ge (pc := 11) dX11_termsOfAll_11 (tgt := 29) rfl ?_ ?_
  · refine jo_iload_n (pc := 29) 1 rfl dX11_termsOfAll_29 rfl ?_
    exact jo_ireturn (pc := 30) rfl rfl dX11_termsOfAll_30
  · refine jo_iload_n (pc := 14) 1 rfl dX11_termsOfAll_14 rfl ?_
    refine jo_aload_n (pc := 15) 0 rfl dX11_termsOfAll_15 rfl ?_
    refine jo_getrE (pc := 16) ok_11_11 (ik_306 hw hN) rf_306_11 gw_1304 dX11_termsOfAll_16 ?_
    refine jo_iload_n (pc := 19) 2 rfl dX11_termsOfAll_19 rfl ?_
    refine jo_iald (pc := 20) (ik_311 hw hN) dX11_termsOfAll_20 (fun v4 => ?_)
    refine jo_iadd (pc := 21) dX11_termsOfAll_21 ?_
    refine jo_bd ?_
    refine jo_istore_n (pc := 22) (lv' := [(1, .int (i2 + v4)), (0, .ref (adr w 306)), (2, .int i3)]) dX11_termsOfAll_22 rfl (ltb rfl) rfl ?_
    generalize (i2 + v4) = v5
    refine jo_iinc (pc := 23) (lv' := [(2, .int (i3 + 1)), (1, .int v5), (0, .ref (adr w 306))]) 2 rfl dX11_termsOfAll_23 (congrArg (fun z => i3 + z) (ic_i_1)) (ltb rfl) rfl ?_
    refine jo_goto (pc := 26) dX11_termsOfAll_26 (tgt := 8) rfl ?_
    refine jo_lv (lv' := [(0, .ref (adr w 306)), (1, .int v5), (2, .int (i3 + 1))]) [2, 1, 0] rfl ?_
    exact jo_leaf (by rfl) (hF8_3 (v5, i3 + 1))
theorem c_X11_termsOfAll {w : Wd} (hw : WOK w) (hN : wn w = NT) {σ : Mem} : ∀ r σ', f_X11_termsOfAll σ = some (r, σ') → MC w mu_X11_termsOfAll (vI r) [.ref (adr w 306)] σ σ' := mc_of ok_X11_termsOfAll rfl (Nat.le_of_ble_eq_true rfl) (t_X11_termsOfAll hw hN)
abbrev mu_X11_notOnes : MD := (yX11_notOnes, cX11_notOnes, 3, some .int, 2)
theorem ok_X11_notOnes : MOK mu_X11_notOnes 0 := ⟨gw_1930, gw_171, (by decide +kernel : plainFor yX11_notOnes = true), ⟨(by decide +kernel : yX11_notOnes.cls ≠ "java/lang/invoke/MethodHandle"), (by decide +kernel : yX11_notOnes.cls ≠ "java/lang/invoke/VarHandle"), (by decide +kernel : (parseMethodDescriptor yX11_notOnes.desc).map (fun d => d.parameters.length) = some 0)⟩, Nat.le_of_ble_eq_true rfl⟩
noncomputable def j_X11_notOnes_30 (i3 : Int32) (σ4 : Mem) (i6 : Int32) : Option ((Mem × Int32 × Int32) ⊕ (Int32 × Mem)) :=
  some (Sum.inl (σ4, i6, i3 + 1))
noncomputable def l_X11_notOnes_4 (σ1 : Mem) (i2 : Int32) (i3 : Int32) : Option ((Mem × Int32 × Int32) ⊕ (Int32 × Mem)) :=
  if 10 ≤ i3 then (some (Sum.inr (i2, σ1))) else ((f_X11_laysRegister σ1 0 i3).bind (fun (σ4 : Mem) => (f_X11_isOne σ4 0).bind (fun (b5 : Bool) => (if b5 then some i2 else bd (i2 ||| (1 <<< (i3 &&& 31))) (fun (v7 : Int32) => some v7) : Option Int32).bind (fun (z6 : Int32) => j_X11_notOnes_30 i3 σ4 z6))))
noncomputable def f_X11_notOnes (σ : Mem) : Option (Int32 × Mem) :=
  loopO (fun (z3 : (Mem × Int32 × Int32)) => l_X11_notOnes_4 z3.1 z3.2.1 z3.2.2) (σ, 0, 0)
theorem t_X11_notOnes {w : Wd} (hw : WOK w) (hN : wn w = NT) {σ : Mem} : JO w mu_X11_notOnes vI σ [(0, .ref (adr w 306))] [] 0 (f_X11_notOnes σ) some := by
  unfold f_X11_notOnes
  refine jo_iconst (pc := 0) dX11_notOnes_0 (ic_i_0) ?_
  refine jo_istore_n (pc := 1) (lv' := [(1, .int 0), (0, .ref (adr w 306))]) dX11_notOnes_1 rfl (ltb rfl) rfl ?_
  refine jo_iconst (pc := 2) dX11_notOnes_2 (ic_i_0) ?_
  refine jo_istore_n (pc := 3) (lv' := [(2, .int 0), (1, .int 0), (0, .ref (adr w 306))]) dX11_notOnes_3 rfl (ltb rfl) rfl ?_
  refine jo_lv (lv' := [(0, .ref (adr w 306)), (1, .int 0), (2, .int 0)]) [2, 1, 0] rfl ?_
  refine jo_loop (X := (Int32 × Mem)) (fun (z3 : (Mem × Int32 × Int32)) => z3.1) (fun (z3 : (Mem × Int32 × Int32)) => [(0, .ref (adr w 306)), (1, .int z3.2.1), (2, .int z3.2.2)]) (body := (fun (z3 : (Mem × Int32 × Int32)) => l_X11_notOnes_4 z3.1 z3.2.1 z3.2.2)) (fun F4_3 hF4_3 s => ?_) (σ, 0, 0)
  obtain ⟨σ1, i2, i3⟩ := s
  show JO w mu_X11_notOnes vI σ1 [(0, .ref (adr w 306)), (1, .int i2), (2, .int i3)] [] 4 (l_X11_notOnes_4 σ1 i2 i3) _
  unfold l_X11_notOnes_4
  refine jo_iload_n (pc := 4) 2 rfl dX11_notOnes_4 rfl ?_
  refine jo_bipush (pc := 5) dX11_notOnes_5 (ic_b_10) ?_
  refine jo_icmp_ge (pc := 7) dX11_notOnes_7 (tgt := 36) rfl ?_ ?_
  · refine jo_iload_n (pc := 36) 1 rfl dX11_notOnes_36 rfl ?_
    exact jo_ireturn (pc := 37) rfl rfl dX11_notOnes_37
  · refine jo_aload_n (pc := 10) 0 rfl dX11_notOnes_10 rfl ?_
    refine jo_iconst (pc := 11) dX11_notOnes_11 (ic_i_0) ?_
    refine jo_iload_n (pc := 12) 2 rfl dX11_notOnes_12 rfl ?_
    refine jo_cV_V_i (pc := 13) (μ' := mu_X11_laysRegister) (fx := f_X11_laysRegister σ1 0 i3) (As := [.int 0, .int i3]) (c_X11_laysRegister hw hN) (ok_X11_laysRegister) (ltb rfl) (all3 gw_1559 gw_1561 gw_94) (ik_306 hw hN) (by decide) (q := (RX11, TX11, 39)) rfl rfl rfl rfl (Nat.le_of_ble_eq_true rfl) dX11_notOnes_13 (fun σ4 => ?_)
    refine jo_aload_n (pc := 16) 0 rfl dX11_notOnes_16 rfl ?_
    refine jo_iconst (pc := 17) dX11_notOnes_17 (ic_i_0) ?_
    refine jo_cV_Z_p (pc := 18) (μ' := mu_X11_isOne) (fx := f_X11_isOne σ4 0) (As := [.int 0]) (c_X11_isOne hw hN) (ok_X11_isOne) (ltb rfl) (all3 gw_1750 gw_1752 gw_125) (ik_306 hw hN) (by decide) (q := (RX11, TX11, 39)) rfl rfl rfl rfl (Nat.le_of_ble_eq_true rfl) dX11_notOnes_18 (fun b5 => ?_)
    refine jo_join1 (S := Int32) (fun (z6 : Int32) => σ4) (fun (z6 : Int32) => [(0, .ref (adr w 306)), (2, .int i3), (1, .int z6)]) (fun (z6 : Int32) => []) 30 ?_ (fun h30_6 => ?_)
    · intro i6
      show JO w mu_X11_notOnes vI σ4 [(0, .ref (adr w 306)), (2, .int i3), (1, .int i6)] [] 30 (j_X11_notOnes_30 i3 σ4 i6) _
      unfold j_X11_notOnes_30
      refine jo_iinc (pc := 30) (lv' := [(2, .int (i3 + 1)), (0, .ref (adr w 306)), (1, .int i6)]) 1 rfl dX11_notOnes_30 (congrArg (fun z => i3 + z) (ic_i_1)) (ltb rfl) rfl ?_
      refine jo_goto (pc := 33) dX11_notOnes_33 (tgt := 4) rfl ?_
      refine jo_lv (lv' := [(0, .ref (adr w 306)), (1, .int i6), (2, .int (i3 + 1))]) [1, 2, 0] rfl ?_
      exact jo_leaf (by rfl) (hF4_3 (σ4, i6, i3 + 1))
    · refine jo_ifz_ne (pc := 21) dX11_notOnes_21 (tgt := 30) rfl ?_ ?_
      · refine jo_lv (lv' := [(0, .ref (adr w 306)), (2, .int i3), (1, .int i2)]) [0, 2, 1] rfl ?_
        exact jo_leaf (by rfl) (h30_6 i2)
      · refine jo_iload_n (pc := 24) 1 rfl dX11_notOnes_24 rfl ?_
        refine jo_iconst (pc := 25) dX11_notOnes_25 (ic_i_1) ?_
        refine jo_iload_n (pc := 26) 2 rfl dX11_notOnes_26 rfl ?_
        refine jo_ishl (pc := 27) dX11_notOnes_27 ?_
        refine jo_ior (pc := 28) dX11_notOnes_28 ?_
        refine jo_bd ?_
        refine jo_istore_n (pc := 29) (lv' := [(1, .int (i2 ||| (1 <<< (i3 &&& 31)))), (0, .ref (adr w 306)), (2, .int i3)]) dX11_notOnes_29 rfl (ltb rfl) rfl ?_
        generalize (i2 ||| (1 <<< (i3 &&& 31))) = v7
        refine jo_lv (lv' := [(0, .ref (adr w 306)), (2, .int i3), (1, .int v7)]) [1, 2, 0] rfl ?_
        exact jo_leaf (by rfl) (h30_6 v7)
theorem c_X11_notOnes {w : Wd} (hw : WOK w) (hN : wn w = NT) {σ : Mem} : ∀ r σ', f_X11_notOnes σ = some (r, σ') → MC w mu_X11_notOnes (vI r) [.ref (adr w 306)] σ σ' := mc_of ok_X11_notOnes rfl (Nat.le_of_ble_eq_true rfl) (t_X11_notOnes hw hN)
abbrev mu_X11_centrals : MD := (yX11_centrals, cX11_centrals, 3, some .int, 37)
theorem ok_X11_centrals : MOK mu_X11_centrals 0 := ⟨gw_1934, gw_171, (by decide +kernel : plainFor yX11_centrals = true), ⟨(by decide +kernel : yX11_centrals.cls ≠ "java/lang/invoke/MethodHandle"), (by decide +kernel : yX11_centrals.cls ≠ "java/lang/invoke/VarHandle"), (by decide +kernel : (parseMethodDescriptor yX11_centrals.desc).map (fun d => d.parameters.length) = some 0)⟩, Nat.le_of_ble_eq_true rfl⟩
noncomputable def j_X11_centrals_33 (i3 : Int32) (σ8 : Mem) (i9 : Int32) : Option ((Mem × Int32 × Int32) ⊕ (Int32 × Mem)) :=
  some (Sum.inl (σ8, i9, i3 + 1))
noncomputable def l_X11_centrals_4 (σ1 : Mem) (i2 : Int32) (i3 : Int32) : Option ((Mem × Int32 × Int32) ⊕ (Int32 × Mem)) :=
  (f_X11_n σ1).bind (fun (v4 : Int32) => if v4 ≤ i3 then (some (Sum.inr (i2, σ1))) else (bq (f_X11_isConsistent σ1) (fun (b5 : Bool) (σ6 : Mem) => if b5 then bq (f_X11_isCentralLetter σ6 i3) (fun (b7 : Bool) (σ8 : Mem) => (if b7 then bd (i2 ||| (1 <<< (i3 &&& 31))) (fun (v10 : Int32) => some v10) else some i2 : Option Int32).bind (fun (z9 : Int32) => j_X11_centrals_33 i3 σ8 z9)) else some (Sum.inr (i2, σ6)))))
noncomputable def f_X11_centrals (σ : Mem) : Option (Int32 × Mem) :=
  loopO (fun (z3 : (Mem × Int32 × Int32)) => l_X11_centrals_4 z3.1 z3.2.1 z3.2.2) (σ, 0, 0)
theorem t_X11_centrals {w : Wd} (hw : WOK w) (hN : wn w = NT) {σ : Mem} : JO w mu_X11_centrals vI σ [(0, .ref (adr w 306))] [] 0 (f_X11_centrals σ) some := by
  unfold f_X11_centrals
  refine jo_iconst (pc := 0) dX11_centrals_0 (ic_i_0) ?_
  refine jo_istore_n (pc := 1) (lv' := [(1, .int 0), (0, .ref (adr w 306))]) dX11_centrals_1 rfl (ltb rfl) rfl ?_
  refine jo_iconst (pc := 2) dX11_centrals_2 (ic_i_0) ?_
  refine jo_istore_n (pc := 3) (lv' := [(2, .int 0), (1, .int 0), (0, .ref (adr w 306))]) dX11_centrals_3 rfl (ltb rfl) rfl ?_
  refine jo_lv (lv' := [(0, .ref (adr w 306)), (1, .int 0), (2, .int 0)]) [2, 1, 0] rfl ?_
  refine jo_loop (X := (Int32 × Mem)) (fun (z3 : (Mem × Int32 × Int32)) => z3.1) (fun (z3 : (Mem × Int32 × Int32)) => [(0, .ref (adr w 306)), (1, .int z3.2.1), (2, .int z3.2.2)]) (body := (fun (z3 : (Mem × Int32 × Int32)) => l_X11_centrals_4 z3.1 z3.2.1 z3.2.2)) (fun F4_3 hF4_3 s => ?_) (σ, 0, 0)
  obtain ⟨σ1, i2, i3⟩ := s
  show JO w mu_X11_centrals vI σ1 [(0, .ref (adr w 306)), (1, .int i2), (2, .int i3)] [] 4 (l_X11_centrals_4 σ1 i2 i3) _
  unfold l_X11_centrals_4
  refine jo_iload_n (pc := 4) 2 rfl dX11_centrals_4 rfl ?_
  refine jo_aload_n (pc := 5) 0 rfl dX11_centrals_5 rfl ?_
  refine jo_cV_I_p (pc := 6) (μ' := mu_X11_n) (fx := f_X11_n σ1) (As := []) (c_X11_n hw hN) (ok_X11_n) (ltb rfl) (all3 gw_1441 gw_1443 gw_68) (ik_306 hw hN) (by decide) (q := (RX11, TX11, 39)) rfl rfl rfl rfl (Nat.le_of_ble_eq_true rfl) dX11_centrals_6 (fun v4 => ?_)
  refine jo_icmp_ge (pc := 9) dX11_centrals_9 (tgt := 39) rfl ?_ ?_
  · refine jo_iload_n (pc := 39) 1 rfl dX11_centrals_39 rfl ?_
    exact jo_ireturn (pc := 40) rfl rfl dX11_centrals_40
  · refine jo_aload_n (pc := 12) 0 rfl dX11_centrals_12 rfl ?_
    refine jo_cV_Z_i (pc := 13) (μ' := mu_X11_isConsistent) (fx := f_X11_isConsistent σ1) (As := []) (c_X11_isConsistent hw hN) (ok_X11_isConsistent) (ltb rfl) (all3 gw_1475 gw_1477 gw_74) (ik_306 hw hN) (by decide) (q := (RX11, TX11, 39)) rfl rfl rfl rfl (Nat.le_of_ble_eq_true rfl) dX11_centrals_13 (fun b5 σ6 => ?_)
    refine jo_ifz_eq (pc := 16) dX11_centrals_16 (tgt := 39) rfl ?_ ?_
    · refine jo_iload_n (pc := 39) 1 rfl dX11_centrals_39 rfl ?_
      exact jo_ireturn (pc := 40) rfl rfl dX11_centrals_40
    · refine jo_aload_n (pc := 19) 0 rfl dX11_centrals_19 rfl ?_
      refine jo_iload_n (pc := 20) 2 rfl dX11_centrals_20 rfl ?_
      refine jo_cV_Z_i (pc := 21) (μ' := mu_X11_isCentralLetter) (fx := f_X11_isCentralLetter σ6 i3) (As := [.int i3]) (c_X11_isCentralLetter hw hN) (ok_X11_isCentralLetter) (ltb rfl) (all3 gw_1738 gw_1740 gw_122) (ik_306 hw hN) (by decide) (q := (RX11, TX11, 39)) rfl rfl rfl rfl (Nat.le_of_ble_eq_true rfl) dX11_centrals_21 (fun b7 σ8 => ?_)
      refine jo_join1 (S := Int32) (fun (z9 : Int32) => σ8) (fun (z9 : Int32) => [(0, .ref (adr w 306)), (2, .int i3), (1, .int z9)]) (fun (z9 : Int32) => []) 33 ?_ (fun h33_9 => ?_)
      · intro i9
        show JO w mu_X11_centrals vI σ8 [(0, .ref (adr w 306)), (2, .int i3), (1, .int i9)] [] 33 (j_X11_centrals_33 i3 σ8 i9) _
        unfold j_X11_centrals_33
        refine jo_iinc (pc := 33) (lv' := [(2, .int (i3 + 1)), (0, .ref (adr w 306)), (1, .int i9)]) 1 rfl dX11_centrals_33 (congrArg (fun z => i3 + z) (ic_i_1)) (ltb rfl) rfl ?_
        refine jo_goto (pc := 36) dX11_centrals_36 (tgt := 4) rfl ?_
        refine jo_lv (lv' := [(0, .ref (adr w 306)), (1, .int i9), (2, .int (i3 + 1))]) [1, 2, 0] rfl ?_
        exact jo_leaf (by rfl) (hF4_3 (σ8, i9, i3 + 1))
      · refine jo_ifz_eq (pc := 24) dX11_centrals_24 (tgt := 33) rfl ?_ ?_
        · refine jo_lv (lv' := [(0, .ref (adr w 306)), (2, .int i3), (1, .int i2)]) [0, 2, 1] rfl ?_
          exact jo_leaf (by rfl) (h33_9 i2)
        · refine jo_iload_n (pc := 27) 1 rfl dX11_centrals_27 rfl ?_
          refine jo_iconst (pc := 28) dX11_centrals_28 (ic_i_1) ?_
          refine jo_iload_n (pc := 29) 2 rfl dX11_centrals_29 rfl ?_
          refine jo_ishl (pc := 30) dX11_centrals_30 ?_
          refine jo_ior (pc := 31) dX11_centrals_31 ?_
          refine jo_bd ?_
          refine jo_istore_n (pc := 32) (lv' := [(1, .int (i2 ||| (1 <<< (i3 &&& 31)))), (0, .ref (adr w 306)), (2, .int i3)]) dX11_centrals_32 rfl (ltb rfl) rfl ?_
          generalize (i2 ||| (1 <<< (i3 &&& 31))) = v10
          refine jo_lv (lv' := [(0, .ref (adr w 306)), (2, .int i3), (1, .int v10)]) [1, 2, 0] rfl ?_
          exact jo_leaf (by rfl) (h33_9 v10)
theorem c_X11_centrals {w : Wd} (hw : WOK w) (hN : wn w = NT) {σ : Mem} : ∀ r σ', f_X11_centrals σ = some (r, σ') → MC w mu_X11_centrals (vI r) [.ref (adr w 306)] σ σ' := mc_of ok_X11_centrals rfl (Nat.le_of_ble_eq_true rfl) (t_X11_centrals hw hN)
abbrev mu_X11_look : MD := (yX11_look, cX11_look, 2, some .int, 38)
theorem ok_X11_look : MOK mu_X11_look 1 := ⟨gw_1918, gw_171, (by decide +kernel : plainFor yX11_look = true), ⟨(by decide +kernel : yX11_look.cls ≠ "java/lang/invoke/MethodHandle"), (by decide +kernel : yX11_look.cls ≠ "java/lang/invoke/VarHandle"), (by decide +kernel : (parseMethodDescriptor yX11_look.desc).map (fun d => d.parameters.length) = some 1)⟩, Nat.le_of_ble_eq_true rfl⟩
noncomputable def f_X11_look (σ : Mem) (x0 : Int32) : Option (Int32 × Mem) :=
  pF σ 306 0 0 (fun (σ1 : Mem) => if x0 = 0 then ((f_X11_n σ1).bind (fun (v15 : Int32) => some (v15, σ1))) else (if x0 = 1 then ((f_X11_level σ1).bind (fun (v14 : Int32) => some (v14, σ1))) else (if x0 = 2 then (bq (f_X11_isConsistent σ1) (fun (b12 : Bool) (σ13 : Mem) => if b12 then some (1, σ13) else some (0, σ13))) else (if x0 = 3 then ((f_X11_tails σ1).bind (fun (v11 : Int32) => some (v11, σ1))) else (if x0 = 4 then (bq (f_X11_termsOfAll σ1) (fun (v9 : Int32) (σ10 : Mem) => some (v9, σ10))) else (if x0 = 5 then (bq (f_X11_notOnes σ1) (fun (v7 : Int32) (σ8 : Mem) => some (v7, σ8))) else (if x0 = 6 then (gF σ1 306 3 (fun (v6 : Int32) => some (v6, σ1))) else (if x0 = 7 then (gF σ1 306 18 (fun (v5 : Int32) => some (v5, σ1))) else (if x0 = 8 then (gF σ1 306 4 (fun (v4 : Int32) => some (v4, σ1))) else (if x0 = 9 then (bq (f_X11_centrals σ1) (fun (v2 : Int32) (σ3 : Mem) => some (v2, σ3))) else (some ((-1), σ1))))))))))))
theorem t_X11_look {w : Wd} (hw : WOK w) (hN : wn w = NT) {σ : Mem} {x0 : Int32} : JO w mu_X11_look vI σ [(0, .ref (adr w 306)), (1, .int x0)] [] 0 (f_X11_look σ x0) some := by
  unfold f_X11_look
  refine jo_aload_n (pc := 0) 0 rfl dX11_look_0 rfl ?_
  refine jo_iconst (pc := 1) dX11_look_1 (ic_i_0) ?_
  refine jo_putf (pc := 2) ok_11_0 okp_11_0 (ik_306 hw hN) gw_1293 dX11_look_2 (fun σ1 => ?_)
  refine jo_iload_n (pc := 5) 1 rfl dX11_look_5 rfl ?_
  refine jo_if_ne (pc := 6) dX11_look_6 (tgt := 14) rfl ?_ ?_
  · refine jo_iload_n (pc := 14) 1 rfl dX11_look_14 rfl ?_
    refine jo_iconst (pc := 15) dX11_look_15 (ic_i_1) ?_
    refine jo_icmp_ne (pc := 16) dX11_look_16 (tgt := 24) rfl ?_ ?_
    · refine jo_iload_n (pc := 24) 1 rfl dX11_look_24 rfl ?_
      refine jo_iconst (pc := 25) dX11_look_25 (ic_i_2) ?_
      refine jo_icmp_ne (pc := 26) dX11_look_26 (tgt := 42) rfl ?_ ?_
      · refine jo_iload_n (pc := 42) 1 rfl dX11_look_42 rfl ?_
        refine jo_iconst (pc := 43) dX11_look_43 (ic_i_3) ?_
        refine jo_icmp_ne (pc := 44) dX11_look_44 (tgt := 52) rfl ?_ ?_
        · refine jo_iload_n (pc := 52) 1 rfl dX11_look_52 rfl ?_
          refine jo_iconst (pc := 53) dX11_look_53 (ic_i_4) ?_
          refine jo_icmp_ne (pc := 54) dX11_look_54 (tgt := 62) rfl ?_ ?_
          · refine jo_iload_n (pc := 62) 1 rfl dX11_look_62 rfl ?_
            refine jo_iconst (pc := 63) dX11_look_63 (ic_i_5) ?_
            refine jo_icmp_ne (pc := 64) dX11_look_64 (tgt := 72) rfl ?_ ?_
            · refine jo_iload_n (pc := 72) 1 rfl dX11_look_72 rfl ?_
              refine jo_bipush (pc := 73) dX11_look_73 (ic_b_6) ?_
              refine jo_icmp_ne (pc := 75) dX11_look_75 (tgt := 83) rfl ?_ ?_
              · refine jo_iload_n (pc := 83) 1 rfl dX11_look_83 rfl ?_
                refine jo_bipush (pc := 84) dX11_look_84 (ic_b_7) ?_
                refine jo_icmp_ne (pc := 86) dX11_look_86 (tgt := 94) rfl ?_ ?_
                · refine jo_iload_n (pc := 94) 1 rfl dX11_look_94 rfl ?_
                  refine jo_bipush (pc := 95) dX11_look_95 (ic_b_8) ?_
                  refine jo_icmp_ne (pc := 97) dX11_look_97 (tgt := 107) rfl ?_ ?_
                  · refine jo_iload_n (pc := 107) 1 rfl dX11_look_107 rfl ?_
                    refine jo_bipush (pc := 108) dX11_look_108 (ic_b_9) ?_
                    refine jo_icmp_ne (pc := 110) dX11_look_110 (tgt := 120) rfl ?_ ?_
                    · refine jo_iconst (pc := 120) dX11_look_120 (ic_i_m1) ?_
                      exact jo_ireturn (pc := 121) rfl rfl dX11_look_121
                    · refine jo_aload_n (pc := 113) 0 rfl dX11_look_113 rfl ?_
                      refine jo_cV_I_i (pc := 114) (μ' := mu_X11_centrals) (fx := f_X11_centrals σ1) (As := []) (c_X11_centrals hw hN) (ok_X11_centrals) (ltb rfl) (all3 gw_1931 gw_1933 gw_156) (ik_306 hw hN) (by decide) (q := (RX11, TX11, 39)) rfl rfl rfl rfl (Nat.le_of_ble_eq_true rfl) dX11_look_114 (fun v2 σ3 => ?_)
                      refine jo_goto (pc := 117) dX11_look_117 (tgt := 121) rfl ?_
                      exact jo_ireturn (pc := 121) rfl rfl dX11_look_121
                  · refine jo_aload_n (pc := 100) 0 rfl dX11_look_100 rfl ?_
                    refine jo_getf (pc := 101) ok_11_4 (ik_306 hw hN) gw_1297 dX11_look_101 (fun v4 => ?_)
                    refine jo_goto (pc := 104) dX11_look_104 (tgt := 121) rfl ?_
                    exact jo_ireturn (pc := 121) rfl rfl dX11_look_121
                · refine jo_aload_n (pc := 89) 0 rfl dX11_look_89 rfl ?_
                  refine jo_getf (pc := 90) ok_11_18 (ik_306 hw hN) gw_1311 dX11_look_90 (fun v5 => ?_)
                  exact jo_ireturn (pc := 93) rfl rfl dX11_look_93
              · refine jo_aload_n (pc := 78) 0 rfl dX11_look_78 rfl ?_
                refine jo_getf (pc := 79) ok_11_3 (ik_306 hw hN) gw_1296 dX11_look_79 (fun v6 => ?_)
                exact jo_ireturn (pc := 82) rfl rfl dX11_look_82
            · refine jo_aload_n (pc := 67) 0 rfl dX11_look_67 rfl ?_
              refine jo_cV_I_i (pc := 68) (μ' := mu_X11_notOnes) (fx := f_X11_notOnes σ1) (As := []) (c_X11_notOnes hw hN) (ok_X11_notOnes) (ltb rfl) (all3 gw_1927 gw_1929 gw_155) (ik_306 hw hN) (by decide) (q := (RX11, TX11, 39)) rfl rfl rfl rfl (Nat.le_of_ble_eq_true rfl) dX11_look_68 (fun v7 σ8 => ?_)
              exact jo_ireturn (pc := 71) rfl rfl dX11_look_71
          · refine jo_aload_n (pc := 57) 0 rfl dX11_look_57 rfl ?_
            refine jo_cV_I_i (pc := 58) (μ' := mu_X11_termsOfAll) (fx := f_X11_termsOfAll σ1) (As := []) (c_X11_termsOfAll hw hN) (ok_X11_termsOfAll) (ltb rfl) (all3 gw_1923 gw_1925 gw_154) (ik_306 hw hN) (by decide) (q := (RX11, TX11, 39)) rfl rfl rfl rfl (Nat.le_of_ble_eq_true rfl) dX11_look_58 (fun v9 σ10 => ?_)
            exact jo_ireturn (pc := 61) rfl rfl dX11_look_61
        · refine jo_aload_n (pc := 47) 0 rfl dX11_look_47 rfl ?_
          refine jo_cV_I_p (pc := 48) (μ' := mu_X11_tails) (fx := f_X11_tails σ1) (As := []) (c_X11_tails hw hN) (ok_X11_tails) (ltb rfl) (all3 gw_1919 gw_1921 gw_153) (ik_306 hw hN) (by decide) (q := (RX11, TX11, 39)) rfl rfl rfl rfl (Nat.le_of_ble_eq_true rfl) dX11_look_48 (fun v11 => ?_)
          exact jo_ireturn (pc := 51) rfl rfl dX11_look_51
      · refine jo_aload_n (pc := 29) 0 rfl dX11_look_29 rfl ?_
        refine jo_cV_Z_i (pc := 30) (μ' := mu_X11_isConsistent) (fx := f_X11_isConsistent σ1) (As := []) (c_X11_isConsistent hw hN) (ok_X11_isConsistent) (ltb rfl) (all3 gw_1475 gw_1477 gw_74) (ik_306 hw hN) (by decide) (q := (RX11, TX11, 39)) rfl rfl rfl rfl (Nat.le_of_ble_eq_true rfl) dX11_look_30 (fun b12 σ13 => ?_)
        refine jo_ifz_eq (pc := 33) dX11_look_33 (tgt := 40) rfl ?_ ?_
        · refine jo_iconst (pc := 40) dX11_look_40 (ic_i_0) ?_
          exact jo_ireturn (pc := 41) rfl rfl dX11_look_41
        · refine jo_iconst (pc := 36) dX11_look_36 (ic_i_1) ?_
          refine jo_goto (pc := 37) dX11_look_37 (tgt := 41) rfl ?_
          exact jo_ireturn (pc := 41) rfl rfl dX11_look_41
    · refine jo_aload_n (pc := 19) 0 rfl dX11_look_19 rfl ?_
      refine jo_cV_I_p (pc := 20) (μ' := mu_X11_level) (fx := f_X11_level σ1) (As := []) (c_X11_level hw hN) (ok_X11_level) (ltb rfl) (all3 gw_1637 gw_1639 gw_106) (ik_306 hw hN) (by decide) (q := (RX11, TX11, 39)) rfl rfl rfl rfl (Nat.le_of_ble_eq_true rfl) dX11_look_20 (fun v14 => ?_)
      exact jo_ireturn (pc := 23) rfl rfl dX11_look_23
  · refine jo_aload_n (pc := 9) 0 rfl dX11_look_9 rfl ?_
    refine jo_cV_I_p (pc := 10) (μ' := mu_X11_n) (fx := f_X11_n σ1) (As := []) (c_X11_n hw hN) (ok_X11_n) (ltb rfl) (all3 gw_1441 gw_1443 gw_68) (ik_306 hw hN) (by decide) (q := (RX11, TX11, 39)) rfl rfl rfl rfl (Nat.le_of_ble_eq_true rfl) dX11_look_10 (fun v15 => ?_)
    exact jo_ireturn (pc := 13) rfl rfl dX11_look_13
theorem c_X11_look {w : Wd} (hw : WOK w) (hN : wn w = NT) {σ : Mem} {x0 : Int32} : ∀ r σ', f_X11_look σ x0 = some (r, σ') → MC w mu_X11_look (vI r) [.ref (adr w 306), .int x0] σ σ' := mc_of ok_X11_look rfl (Nat.le_of_ble_eq_true rfl) (t_X11_look hw hN)
end
