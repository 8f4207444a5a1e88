abbrev mu_X11_weighs : MD := (yX11_weighs, cX11_weighs, 7, none, 0)
theorem ok_X11_weighs : MOK mu_X11_weighs 6 := ⟨gw_1461, gw_171, (by decide +kernel : plainFor yX11_weighs = true), ⟨(by decide +kernel : yX11_weighs.cls ≠ "java/lang/invoke/MethodHandle"), (by decide +kernel : yX11_weighs.cls ≠ "java/lang/invoke/VarHandle"), (by decide +kernel : (parseMethodDescriptor yX11_weighs.desc).map (fun d => d.parameters.length) = some 6)⟩, Nat.le_of_ble_eq_true rfl⟩
noncomputable def f_X11_weighs (σ : Mem) (x0 : Int32) (x1 : Int32) (x2 : Int32) (x3 : Int32) (x4 : Int32) (x5 : Int32) : Option Mem :=
  pI σ 307 1 x0 (fun (σ1 : Mem) => pI σ1 307 2 x1 (fun (σ2 : Mem) => pI σ2 307 3 x2 (fun (σ3 : Mem) => pI σ3 307 4 x3 (fun (σ4 : Mem) => pI σ4 307 5 x4 (fun (σ5 : Mem) => pI σ5 307 6 x5 (fun (σ6 : Mem) => some σ6))))))
theorem t_X11_weighs {w : Wd} (hw : WOK w) (hN : wn w = NT) {σ : Mem} {x0 : Int32} {x1 : Int32} {x2 : Int32} {x3 : Int32} {x4 : Int32} {x5 : Int32} : JO w mu_X11_weighs vV σ [(0, .ref (adr w 306)), (1, .int x0), (2, .int x1), (3, .int x2), (4, .int x3), (5, .int x4), (6, .int x5)] [] 0 (f_X11_weighs σ x0 x1 x2 x3 x4 x5) (fun z => some ((), z)) := by
  unfold f_X11_weighs
  refine jo_aload_n (pc := 0) 0 rfl dX11_weighs_0 rfl ?_
  refine jo_getrE (pc := 1) ok_11_1 (ik_306 hw hN) rf_306_1 gw_1294 dX11_weighs_1 ?_
  refine jo_iconst (pc := 4) dX11_weighs_4 (ic_i_1) ?_
  refine jo_iload_n (pc := 5) 1 rfl dX11_weighs_5 rfl ?_
  refine jo_iast (pc := 6) (ik_307 hw hN) dX11_weighs_6 (fun σ1 => ?_)
  refine jo_aload_n (pc := 7) 0 rfl dX11_weighs_7 rfl ?_
  refine jo_getrE (pc := 8) ok_11_1 (ik_306 hw hN) rf_306_1 gw_1294 dX11_weighs_8 ?_
  refine jo_iconst (pc := 11) dX11_weighs_11 (ic_i_2) ?_
  refine jo_iload_n (pc := 12) 2 rfl dX11_weighs_12 rfl ?_
  refine jo_iast (pc := 13) (ik_307 hw hN) dX11_weighs_13 (fun σ2 => ?_)
  refine jo_aload_n (pc := 14) 0 rfl dX11_weighs_14 rfl ?_
  refine jo_getrE (pc := 15) ok_11_1 (ik_306 hw hN) rf_306_1 gw_1294 dX11_weighs_15 ?_
  refine jo_iconst (pc := 18) dX11_weighs_18 (ic_i_3) ?_
  refine jo_iload_n (pc := 19) 3 rfl dX11_weighs_19 rfl ?_
  refine jo_iast (pc := 20) (ik_307 hw hN) dX11_weighs_20 (fun σ3 => ?_)
  refine jo_aload_n (pc := 21) 0 rfl dX11_weighs_21 rfl ?_
  refine jo_getrE (pc := 22) ok_11_1 (ik_306 hw hN) rf_306_1 gw_1294 dX11_weighs_22 ?_
  refine jo_iconst (pc := 25) dX11_weighs_25 (ic_i_4) ?_
  refine jo_iload (pc := 26) 4 rfl dX11_weighs_26 ?_
  refine jo_iast (pc := 28) (ik_307 hw hN) dX11_weighs_28 (fun σ4 => ?_)
  refine jo_aload_n (pc := 29) 0 rfl dX11_weighs_29 rfl ?_
  refine jo_getrE (pc := 30) ok_11_1 (ik_306 hw hN) rf_306_1 gw_1294 dX11_weighs_30 ?_
  refine jo_iconst (pc := 33) dX11_weighs_33 (ic_i_5) ?_
  refine jo_iload (pc := 34) 5 rfl dX11_weighs_34 ?_
  refine jo_iast (pc := 36) (ik_307 hw hN) dX11_weighs_36 (fun σ5 => ?_)
  refine jo_aload_n (pc := 37) 0 rfl dX11_weighs_37 rfl ?_
  refine jo_getrE (pc := 38) ok_11_1 (ik_306 hw hN) rf_306_1 gw_1294 dX11_weighs_38 ?_
  refine jo_bipush (pc := 41) dX11_weighs_41 (ic_b_6) ?_
  refine jo_iload (pc := 43) 6 rfl dX11_weighs_43 ?_
  refine jo_iast (pc := 45) (ik_307 hw hN) dX11_weighs_45 (fun σ6 => ?_)
  exact jo_return (pc := 46) rfl rfl dX11_weighs_46
theorem c_X11_weighs {w : Wd} (hw : WOK w) (hN : wn w = NT) {σ : Mem} {x0 : Int32} {x1 : Int32} {x2 : Int32} {x3 : Int32} {x4 : Int32} {x5 : Int32} : ∀ σ', f_X11_weighs σ x0 x1 x2 x3 x4 x5 = some σ' → MC w mu_X11_weighs none [.ref (adr w 306), .int x0, .int x1, .int x2, .int x3, .int x4, .int x5] σ σ' := mc_ofV ok_X11_weighs rfl (Nat.le_of_ble_eq_true rfl) (t_X11_weighs hw hN)
abbrev mu_X11_kind : MD := (yX11_kind, cX11_kind, 2, some .boolean, 2)
theorem ok_X11_kind : MOK mu_X11_kind 1 := ⟨gw_1457, gw_171, (by decide +kernel : plainFor yX11_kind = true), ⟨(by decide +kernel : yX11_kind.cls ≠ "java/lang/invoke/MethodHandle"), (by decide +kernel : yX11_kind.cls ≠ "java/lang/invoke/VarHandle"), (by decide +kernel : (parseMethodDescriptor yX11_kind.desc).map (fun d => d.parameters.length) = some 1)⟩, Nat.le_of_ble_eq_true rfl⟩
noncomputable def j_X11_kind_123 (x0 : Int32) (σ9 : Mem) : Option (Bool × Mem) :=
  if x0 = 2 then ((f_X11_putsTail σ9 2 0 3 1).bind (fun (σ10 : Mem) => (f_X11_putsTail σ10 2 1 4 1).bind (fun (σ11 : Mem) => (f_X11_putsTail σ11 3 1 5 1).bind (fun (σ12 : Mem) => (f_X11_putsTail σ12 4 0 5 1).bind (fun (σ13 : Mem) => some (true, σ13)))))) else (some (true, σ9))
noncomputable def j_X11_kind_94 (x0 : Int32) (σ8 : Mem) : Option (Bool × Mem) :=
  (if x0 = 1 then ((f_X11_putsTail σ8 1 0 2 1).bind (fun (σ14 : Mem) => (f_X11_putsTail σ14 2 0 3 1).bind (fun (σ15 : Mem) => (f_X11_putsTail σ15 2 1 4 1).bind (fun (σ16 : Mem) => some σ16)))) else (some σ8) : Option Mem).bind (fun (z9 : Mem) => j_X11_kind_123 x0 z9)
noncomputable def j_X11_kind_79 (x0 : Int32) (σ7 : Mem) : Option (Bool × Mem) :=
  (if x0 = 3 then ((f_X11_weighs σ7 1 1 1 1 1 1).bind (fun (σ17 : Mem) => some σ17)) else (some σ7) : Option Mem).bind (fun (z8 : Mem) => j_X11_kind_94 x0 z8)
noncomputable def j_X11_kind_64 (x0 : Int32) (σ6 : Mem) : Option (Bool × Mem) :=
  (if x0 = 2 then ((f_X11_weighs σ6 1 1 1 2 2 3).bind (fun (σ18 : Mem) => some σ18)) else (some σ6) : Option Mem).bind (fun (z7 : Mem) => j_X11_kind_79 x0 z7)
noncomputable def j_X11_kind_46 (x0 : Int32) (σ3 : Mem) (i4 : Int32) : Option (Bool × Mem) :=
  (f_X11_clears σ3 i4).bind (fun (σ5 : Mem) => (if x0 = 1 then ((f_X11_weighs σ5 1 1 2 3 3 0).bind (fun (σ19 : Mem) => some σ19)) else (some σ5) : Option Mem).bind (fun (z6 : Mem) => j_X11_kind_64 x0 z6))
noncomputable def f_X11_kind (σ : Mem) (x0 : Int32) : Option (Bool × Mem) :=
  pF σ 306 0 0 (fun (σ1 : Mem) => (f_X11_isIn σ1 (Int32.toInt64 x0) 0 3).bind (fun (b2 : Bool) => if b2 then (f_X11_keepsAct σ1).bind (fun (σ3 : Mem) => if x0 = 0 then ((f_X11_plain σ3).bind (fun (σ20 : Mem) => some (true, σ20))) else ((if x0 = 1 then (some 5) else (some 6) : Option Int32).bind (fun (z4 : Int32) => j_X11_kind_46 x0 σ3 z4))) else some (false, σ1)))
theorem t_X11_kind {w : Wd} (hw : WOK w) (hN : wn w = NT) {σ : Mem} {x0 : Int32} : JO w mu_X11_kind vB σ [(0, .ref (adr w 306)), (1, .int x0)] [] 0 (f_X11_kind σ x0) some := by
  unfold f_X11_kind
  refine jo_aload_n (pc := 0) 0 rfl dX11_kind_0 rfl ?_
  refine jo_iconst (pc := 1) dX11_kind_1 (ic_i_0) ?_
  refine jo_putf (pc := 2) ok_11_0 okp_11_0 (ik_306 hw hN) gw_1293 dX11_kind_2 (fun σ1 => ?_)
  refine jo_aload_n (pc := 5) 0 rfl dX11_kind_5 rfl ?_
  refine jo_iload_n (pc := 6) 1 rfl dX11_kind_6 rfl ?_
  refine jo_i2l (pc := 7) dX11_kind_7 ?_
  refine jo_lconst (pc := 8) dX11_kind_8 (ic_l_0) ?_
  refine jo_ldc2 (pc := 9) dX11_kind_9 gw_1445 ?_
  refine jo_cV_Z_p (pc := 12) (μ' := mu_X11_isIn) (fx := f_X11_isIn σ1 (Int32.toInt64 x0) 0 3) (As := [.long (Int32.toInt64 x0), .long 0, .long 3]) (c_X11_isIn hw hN) (ok_X11_isIn) (ltb rfl) (all3 gw_1420 gw_1422 gw_64) (ik_306 hw hN) (by decide) (q := (RX11, TX11, 39)) rfl rfl rfl rfl (Nat.le_of_ble_eq_true rfl) dX11_kind_12 (fun b2 => ?_)
  refine jo_ifz_ne (pc := 15) dX11_kind_15 (tgt := 20) rfl ?_ ?_
  · refine jo_aload_n (pc := 20) 0 rfl dX11_kind_20 rfl ?_
    refine jo_cV_V_i (pc := 21) (μ' := mu_X11_keepsAct) (fx := f_X11_keepsAct σ1) (As := []) (c_X11_keepsAct hw hN) (ok_X11_keepsAct) (ltb rfl) (all3 gw_1429 gw_1431 gw_66) (ik_306 hw hN) (by decide) (q := (RX11, TX11, 39)) rfl rfl rfl rfl (Nat.le_of_ble_eq_true rfl) dX11_kind_21 (fun σ3 => ?_)
    refine jo_iload_n (pc := 24) 1 rfl dX11_kind_24 rfl ?_
    refine jo_if_ne (pc := 25) dX11_kind_25 (tgt := 34) rfl ?_ ?_
    · refine jo_aload_n (pc := 34) 0 rfl dX11_kind_34 rfl ?_
      refine jo_iload_n (pc := 35) 1 rfl dX11_kind_35 rfl ?_
      refine jo_iconst (pc := 36) dX11_kind_36 (ic_i_1) ?_
      refine jo_join1 (S := Int32) (fun (z4 : Int32) => σ3) (fun (z4 : Int32) => [(0, .ref (adr w 306)), (1, .int x0)]) (fun (z4 : Int32) => [.int z4, .ref (adr w 306)]) 46 ?_ (fun h46_4 => ?_)
      · intro i4
        show JO w mu_X11_kind vB σ3 [(0, .ref (adr w 306)), (1, .int x0)] [.int i4, .ref (adr w 306)] 46 (j_X11_kind_46 x0 σ3 i4) _
        unfold j_X11_kind_46
        refine jo_cV_V_i (pc := 46) (μ' := mu_X11_clears) (fx := f_X11_clears σ3 i4) (As := [.int i4]) (c_X11_clears hw hN) (ok_X11_clears) (ltb rfl) (all3 gw_1285 gw_1287 gw_62) (ik_306 hw hN) (by decide) (q := (RX11, TX11, 39)) rfl rfl rfl rfl (Nat.le_of_ble_eq_true rfl) dX11_kind_46 (fun σ5 => ?_)
        refine jo_iload_n (pc := 49) 1 rfl dX11_kind_49 rfl ?_
        refine jo_iconst (pc := 50) dX11_kind_50 (ic_i_1) ?_
        refine jo_join1 (S := Mem) (fun (z6 : Mem) => z6) (fun (z6 : Mem) => [(0, .ref (adr w 306)), (1, .int x0)]) (fun (z6 : Mem) => []) 64 ?_ (fun h64_6 => ?_)
        · intro σ6
          show JO w mu_X11_kind vB σ6 [(0, .ref (adr w 306)), (1, .int x0)] [] 64 (j_X11_kind_64 x0 σ6) _
          unfold j_X11_kind_64
          refine jo_iload_n (pc := 64) 1 rfl dX11_kind_64 rfl ?_
          refine jo_iconst (pc := 65) dX11_kind_65 (ic_i_2) ?_
          refine jo_join1 (S := Mem) (fun (z7 : Mem) => z7) (fun (z7 : Mem) => [(0, .ref (adr w 306)), (1, .int x0)]) (fun (z7 : Mem) => []) 79 ?_ (fun h79_7 => ?_)
          · intro σ7
            show JO w mu_X11_kind vB σ7 [(0, .ref (adr w 306)), (1, .int x0)] [] 79 (j_X11_kind_79 x0 σ7) _
            unfold j_X11_kind_79
            refine jo_iload_n (pc := 79) 1 rfl dX11_kind_79 rfl ?_
            refine jo_iconst (pc := 80) dX11_kind_80 (ic_i_3) ?_
            refine jo_join1 (S := Mem) (fun (z8 : Mem) => z8) (fun (z8 : Mem) => [(0, .ref (adr w 306)), (1, .int x0)]) (fun (z8 : Mem) => []) 94 ?_ (fun h94_8 => ?_)
            · intro σ8
              show JO w mu_X11_kind vB σ8 [(0, .ref (adr w 306)), (1, .int x0)] [] 94 (j_X11_kind_94 x0 σ8) _
              unfold j_X11_kind_94
              refine jo_iload_n (pc := 94) 1 rfl dX11_kind_94 rfl ?_
              refine jo_iconst (pc := 95) dX11_kind_95 (ic_i_1) ?_
              refine jo_join1 (S := Mem) (fun (z9 : Mem) => z9) (fun (z9 : Mem) => [(0, .ref (adr w 306)), (1, .int x0)]) (fun (z9 : Mem) => []) 123 ?_ (fun h123_9 => ?_)
              · intro σ9
                show JO w mu_X11_kind vB σ9 [(0, .ref (adr w 306)), (1, .int x0)] [] 123 (j_X11_kind_123 x0 σ9) _
                unfold j_X11_kind_123
                refine jo_iload_n (pc := 123) 1 rfl dX11_kind_123 rfl ?_
                refine jo_iconst (pc := 124) dX11_kind_124 (ic_i_2) ?_
                refine jo_icmp_ne (pc := 125) dX11_kind_125 (tgt := 160) rfl ?_ ?_
                · refine jo_iconst (pc := 160) dX11_kind_160 (ic_i_1) ?_
                  exact jo_breturn (pc := 161) (b := true) rfl rfl dX11_kind_161
                · refine jo_aload_n (pc := 128) 0 rfl dX11_kind_128 rfl ?_
                  refine jo_iconst (pc := 129) dX11_kind_129 (ic_i_2) ?_
                  refine jo_iconst (pc := 130) dX11_kind_130 (ic_i_0) ?_
                  refine jo_iconst (pc := 131) dX11_kind_131 (ic_i_3) ?_
                  refine jo_iconst (pc := 132) dX11_kind_132 (ic_i_1) ?_
                  refine jo_cV_V_i (pc := 133) (μ' := mu_X11_putsTail) (fx := f_X11_putsTail σ9 2 0 3 1) (As := [.int 2, .int 0, .int 3, .int 1]) (c_X11_putsTail hw hN) (ok_X11_putsTail) (ltb rfl) (all3 gw_1289 gw_1291 gw_63) (ik_306 hw hN) (by decide) (q := (RX11, TX11, 39)) rfl rfl rfl rfl (Nat.le_of_ble_eq_true rfl) dX11_kind_133 (fun σ10 => ?_)
                  refine jo_aload_n (pc := 136) 0 rfl dX11_kind_136 rfl ?_
                  refine jo_iconst (pc := 137) dX11_kind_137 (ic_i_2) ?_
                  refine jo_iconst (pc := 138) dX11_kind_138 (ic_i_1) ?_
                  refine jo_iconst (pc := 139) dX11_kind_139 (ic_i_4) ?_
                  refine jo_iconst (pc := 140) dX11_kind_140 (ic_i_1) ?_
                  refine jo_cV_V_i (pc := 141) (μ' := mu_X11_putsTail) (fx := f_X11_putsTail σ10 2 1 4 1) (As := [.int 2, .int 1, .int 4, .int 1]) (c_X11_putsTail hw hN) (ok_X11_putsTail) (ltb rfl) (all3 gw_1289 gw_1291 gw_63) (ik_306 hw hN) (by decide) (q := (RX11, TX11, 39)) rfl rfl rfl rfl (Nat.le_of_ble_eq_true rfl) dX11_kind_141 (fun σ11 => ?_)
                  refine jo_aload_n (pc := 144) 0 rfl dX11_kind_144 rfl ?_
                  refine jo_iconst (pc := 145) dX11_kind_145 (ic_i_3) ?_
                  refine jo_iconst (pc := 146) dX11_kind_146 (ic_i_1) ?_
                  refine jo_iconst (pc := 147) dX11_kind_147 (ic_i_5) ?_
                  refine jo_iconst (pc := 148) dX11_kind_148 (ic_i_1) ?_
                  refine jo_cV_V_i (pc := 149) (μ' := mu_X11_putsTail) (fx := f_X11_putsTail σ11 3 1 5 1) (As := [.int 3, .int 1, .int 5, .int 1]) (c_X11_putsTail hw hN) (ok_X11_putsTail) (ltb rfl) (all3 gw_1289 gw_1291 gw_63) (ik_306 hw hN) (by decide) (q := (RX11, TX11, 39)) rfl rfl rfl rfl (Nat.le_of_ble_eq_true rfl) dX11_kind_149 (fun σ12 => ?_)
                  refine jo_aload_n (pc := 152) 0 rfl dX11_kind_152 rfl ?_
                  refine jo_iconst (pc := 153) dX11_kind_153 (ic_i_4) ?_
                  refine jo_iconst (pc := 154) dX11_kind_154 (ic_i_0) ?_
                  refine jo_iconst (pc := 155) dX11_kind_155 (ic_i_5) ?_
                  refine jo_iconst (pc := 156) dX11_kind_156 (ic_i_1) ?_
                  refine jo_cV_V_i (pc := 157) (μ' := mu_X11_putsTail) (fx := f_X11_putsTail σ12 4 0 5 1) (As := [.int 4, .int 0, .int 5, .int 1]) (c_X11_putsTail hw hN) (ok_X11_putsTail) (ltb rfl) (all3 gw_1289 gw_1291 gw_63) (ik_306 hw hN) (by decide) (q := (RX11, TX11, 39)) rfl rfl rfl rfl (Nat.le_of_ble_eq_true rfl) dX11_kind_157 (fun σ13 => ?_)
                  refine jo_iconst (pc := 160) dX11_kind_160 (ic_i_1) ?_
                  exact jo_breturn (pc := 161) (b := true) rfl rfl dX11_kind_161
              · refine jo_icmp_ne (pc := 96) dX11_kind_96 (tgt := 123) rfl ?_ ?_
                · exact jo_leaf (by rfl) (h123_9 σ8)
                · refine jo_aload_n (pc := 99) 0 rfl dX11_kind_99 rfl ?_
                  refine jo_iconst (pc := 100) dX11_kind_100 (ic_i_1) ?_
                  refine jo_iconst (pc := 101) dX11_kind_101 (ic_i_0) ?_
                  refine jo_iconst (pc := 102) dX11_kind_102 (ic_i_2) ?_
                  refine jo_iconst (pc := 103) dX11_kind_103 (ic_i_1) ?_
                  refine jo_cV_V_i (pc := 104) (μ' := mu_X11_putsTail) (fx := f_X11_putsTail σ8 1 0 2 1) (As := [.int 1, .int 0, .int 2, .int 1]) (c_X11_putsTail hw hN) (ok_X11_putsTail) (ltb rfl) (all3 gw_1289 gw_1291 gw_63) (ik_306 hw hN) (by decide) (q := (RX11, TX11, 39)) rfl rfl rfl rfl (Nat.le_of_ble_eq_true rfl) dX11_kind_104 (fun σ14 => ?_)
                  refine jo_aload_n (pc := 107) 0 rfl dX11_kind_107 rfl ?_
                  refine jo_iconst (pc := 108) dX11_kind_108 (ic_i_2) ?_
                  refine jo_iconst (pc := 109) dX11_kind_109 (ic_i_0) ?_
                  refine jo_iconst (pc := 110) dX11_kind_110 (ic_i_3) ?_
                  refine jo_iconst (pc := 111) dX11_kind_111 (ic_i_1) ?_
                  refine jo_cV_V_i (pc := 112) (μ' := mu_X11_putsTail) (fx := f_X11_putsTail σ14 2 0 3 1) (As := [.int 2, .int 0, .int 3, .int 1]) (c_X11_putsTail hw hN) (ok_X11_putsTail) (ltb rfl) (all3 gw_1289 gw_1291 gw_63) (ik_306 hw hN) (by decide) (q := (RX11, TX11, 39)) rfl rfl rfl rfl (Nat.le_of_ble_eq_true rfl) dX11_kind_112 (fun σ15 => ?_)
                  refine jo_aload_n (pc := 115) 0 rfl dX11_kind_115 rfl ?_
                  refine jo_iconst (pc := 116) dX11_kind_116 (ic_i_2) ?_
                  refine jo_iconst (pc := 117) dX11_kind_117 (ic_i_1) ?_
                  refine jo_iconst (pc := 118) dX11_kind_118 (ic_i_4) ?_
                  refine jo_iconst (pc := 119) dX11_kind_119 (ic_i_1) ?_
                  refine jo_cV_V_i (pc := 120) (μ' := mu_X11_putsTail) (fx := f_X11_putsTail σ15 2 1 4 1) (As := [.int 2, .int 1, .int 4, .int 1]) (c_X11_putsTail hw hN) (ok_X11_putsTail) (ltb rfl) (all3 gw_1289 gw_1291 gw_63) (ik_306 hw hN) (by decide) (q := (RX11, TX11, 39)) rfl rfl rfl rfl (Nat.le_of_ble_eq_true rfl) dX11_kind_120 (fun σ16 => ?_)
                  exact jo_leaf (by rfl) (h123_9 σ16)
            · refine jo_icmp_ne (pc := 81) dX11_kind_81 (tgt := 94) rfl ?_ ?_
              · exact jo_leaf (by rfl) (h94_8 σ7)
              · refine jo_aload_n (pc := 84) 0 rfl dX11_kind_84 rfl ?_
                refine jo_iconst (pc := 85) dX11_kind_85 (ic_i_1) ?_
                refine jo_iconst (pc := 86) dX11_kind_86 (ic_i_1) ?_
                refine jo_iconst (pc := 87) dX11_kind_87 (ic_i_1) ?_
                refine jo_iconst (pc := 88) dX11_kind_88 (ic_i_1) ?_
                refine jo_iconst (pc := 89) dX11_kind_89 (ic_i_1) ?_
                refine jo_iconst (pc := 90) dX11_kind_90 (ic_i_1) ?_
                refine jo_cV_V_i (pc := 91) (μ' := mu_X11_weighs) (fx := f_X11_weighs σ7 1 1 1 1 1 1) (As := [.int 1, .int 1, .int 1, .int 1, .int 1, .int 1]) (c_X11_weighs hw hN) (ok_X11_weighs) (ltb rfl) (all3 gw_1458 gw_1460 gw_71) (ik_306 hw hN) (by decide) (q := (RX11, TX11, 39)) rfl rfl rfl rfl (Nat.le_of_ble_eq_true rfl) dX11_kind_91 (fun σ17 => ?_)
                exact jo_leaf (by rfl) (h94_8 σ17)
          · refine jo_icmp_ne (pc := 66) dX11_kind_66 (tgt := 79) rfl ?_ ?_
            · exact jo_leaf (by rfl) (h79_7 σ6)
            · refine jo_aload_n (pc := 69) 0 rfl dX11_kind_69 rfl ?_
              refine jo_iconst (pc := 70) dX11_kind_70 (ic_i_1) ?_
              refine jo_iconst (pc := 71) dX11_kind_71 (ic_i_1) ?_
              refine jo_iconst (pc := 72) dX11_kind_72 (ic_i_1) ?_
              refine jo_iconst (pc := 73) dX11_kind_73 (ic_i_2) ?_
              refine jo_iconst (pc := 74) dX11_kind_74 (ic_i_2) ?_
              refine jo_iconst (pc := 75) dX11_kind_75 (ic_i_3) ?_
              refine jo_cV_V_i (pc := 76) (μ' := mu_X11_weighs) (fx := f_X11_weighs σ6 1 1 1 2 2 3) (As := [.int 1, .int 1, .int 1, .int 2, .int 2, .int 3]) (c_X11_weighs hw hN) (ok_X11_weighs) (ltb rfl) (all3 gw_1458 gw_1460 gw_71) (ik_306 hw hN) (by decide) (q := (RX11, TX11, 39)) rfl rfl rfl rfl (Nat.le_of_ble_eq_true rfl) dX11_kind_76 (fun σ18 => ?_)
              exact jo_leaf (by rfl) (h79_7 σ18)
        · refine jo_icmp_ne (pc := 51) dX11_kind_51 (tgt := 64) rfl ?_ ?_
          · exact jo_leaf (by rfl) (h64_6 σ5)
          · refine jo_aload_n (pc := 54) 0 rfl dX11_kind_54 rfl ?_
            refine jo_iconst (pc := 55) dX11_kind_55 (ic_i_1) ?_
            refine jo_iconst (pc := 56) dX11_kind_56 (ic_i_1) ?_
            refine jo_iconst (pc := 57) dX11_kind_57 (ic_i_2) ?_
            refine jo_iconst (pc := 58) dX11_kind_58 (ic_i_3) ?_
            refine jo_iconst (pc := 59) dX11_kind_59 (ic_i_3) ?_
            refine jo_iconst (pc := 60) dX11_kind_60 (ic_i_0) ?_
            refine jo_cV_V_i (pc := 61) (μ' := mu_X11_weighs) (fx := f_X11_weighs σ5 1 1 2 3 3 0) (As := [.int 1, .int 1, .int 2, .int 3, .int 3, .int 0]) (c_X11_weighs hw hN) (ok_X11_weighs) (ltb rfl) (all3 gw_1458 gw_1460 gw_71) (ik_306 hw hN) (by decide) (q := (RX11, TX11, 39)) rfl rfl rfl rfl (Nat.le_of_ble_eq_true rfl) dX11_kind_61 (fun σ19 => ?_)
            exact jo_leaf (by rfl) (h64_6 σ19)
      · refine jo_icmp_ne (pc := 37) dX11_kind_37 (tgt := 44) rfl ?_ ?_
        · refine jo_bipush (pc := 44) dX11_kind_44 (ic_b_6) ?_
          exact jo_leaf (by rfl) (h46_4 6)
        · refine jo_iconst (pc := 40) dX11_kind_40 (ic_i_5) ?_
          refine jo_goto (pc := 41) dX11_kind_41 (tgt := 46) rfl ?_
          exact jo_leaf (by rfl) (h46_4 5)
    · refine jo_aload_n (pc := 28) 0 rfl dX11_kind_28 rfl ?_
      refine jo_cV_V_i (pc := 29) (μ' := mu_X11_plain) (fx := f_X11_plain σ3) (As := []) (c_X11_plain hw hN) (ok_X11_plain) (ltb rfl) (all3 gw_1281 gw_1283 gw_61) (ik_306 hw hN) (by decide) (q := (RX11, TX11, 39)) rfl rfl rfl rfl (Nat.le_of_ble_eq_true rfl) dX11_kind_29 (fun σ20 => ?_)
      refine jo_iconst (pc := 32) dX11_kind_32 (ic_i_1) ?_
      exact jo_breturn (pc := 33) (b := true) rfl rfl dX11_kind_33
  · refine jo_iconst (pc := 18) dX11_kind_18 (ic_i_0) ?_
    exact jo_breturn (pc := 19) (b := false) rfl rfl dX11_kind_19
theorem c_X11_kind {w : Wd} (hw : WOK w) (hN : wn w = NT) {σ : Mem} {x0 : Int32} : ∀ r σ', f_X11_kind σ x0 = some (r, σ') → MC w mu_X11_kind (vB r) [.ref (adr w 306), .int x0] σ σ' := mc_of ok_X11_kind rfl (Nat.le_of_ble_eq_true rfl) (t_X11_kind hw hN)
abbrev mu_X11_writes : MD := (yX11_writes, cX11_writes, 2, none, 0)
theorem ok_X11_writes : MOK mu_X11_writes 1 := ⟨gw_1490, gw_171, (by decide +kernel : plainFor yX11_writes = true), ⟨(by decide +kernel : yX11_writes.cls ≠ "java/lang/invoke/MethodHandle"), (by decide +kernel : yX11_writes.cls ≠ "java/lang/invoke/VarHandle"), (by decide +kernel : (parseMethodDescriptor yX11_writes.desc).map (fun d => d.parameters.length) = some 1)⟩, Nat.le_of_ble_eq_true rfl⟩
noncomputable def f_X11_writes (σ : Mem) (x0 : Int32) : Option Mem :=
  gF σ 306 6 (fun (v1 : Int32) => pI σ 309 v1 x0 (fun (σ2 : Mem) => gF σ2 306 6 (fun (v3 : Int32) => pF σ2 306 6 (v3 + 1) (fun (σ4 : Mem) => some σ4))))
theorem t_X11_writes {w : Wd} (hw : WOK w) (hN : wn w = NT) {σ : Mem} {x0 : Int32} : JO w mu_X11_writes vV σ [(0, .ref (adr w 306)), (1, .int x0)] [] 0 (f_X11_writes σ x0) (fun z => some ((), z)) := by
  unfold f_X11_writes
  refine jo_aload_n (pc := 0) 0 rfl dX11_writes_0 rfl ?_
  refine jo_getrE (pc := 1) ok_11_5 (ik_306 hw hN) rf_306_5 gw_1298 dX11_writes_1 ?_
  refine jo_aload_n (pc := 4) 0 rfl dX11_writes_4 rfl ?_
  refine jo_getf (pc := 5) ok_11_6 (ik_306 hw hN) gw_1299 dX11_writes_5 (fun v1 => ?_)
  refine jo_iload_n (pc := 8) 1 rfl dX11_writes_8 rfl ?_
  refine jo_iast (pc := 9) (ik_309 hw hN) dX11_writes_9 (fun σ2 => ?_)
  refine jo_aload_n (pc := 10) 0 rfl dX11_writes_10 rfl ?_
  refine jo_aload_n (pc := 11) 0 rfl dX11_writes_11 rfl ?_
  refine jo_getf (pc := 12) ok_11_6 (ik_306 hw hN) gw_1299 dX11_writes_12 (fun v3 => ?_)
  refine jo_iconst (pc := 15) dX11_writes_15 (ic_i_1) ?_
  refine jo_iadd (pc := 16) dX11_writes_16 ?_
  refine jo_putf (pc := 17) ok_11_6 okp_11_6 (ik_306 hw hN) gw_1299 dX11_writes_17 (fun σ4 => ?_)
  exact jo_return (pc := 20) rfl rfl dX11_writes_20
theorem c_X11_writes {w : Wd} (hw : WOK w) (hN : wn w = NT) {σ : Mem} {x0 : Int32} : ∀ σ', f_X11_writes σ x0 = some σ' → MC w mu_X11_writes none [.ref (adr w 306), .int x0] σ σ' := mc_ofV ok_X11_writes rfl (Nat.le_of_ble_eq_true rfl) (t_X11_writes hw hN)
abbrev mu_X11_exchanges : MD := (yX11_exchanges, cX11_exchanges, 8, none, 1)
theorem ok_X11_exchanges : MOK mu_X11_exchanges 1 := ⟨gw_1494, gw_171, (by decide +kernel : plainFor yX11_exchanges = true), ⟨(by decide +kernel : yX11_exchanges.cls ≠ "java/lang/invoke/MethodHandle"), (by decide +kernel : yX11_exchanges.cls ≠ "java/lang/invoke/VarHandle"), (by decide +kernel : (parseMethodDescriptor yX11_exchanges.desc).map (fun d => d.parameters.length) = some 1)⟩, Nat.le_of_ble_eq_true rfl⟩
noncomputable def j_X11_exchanges_179 (σ14 : Mem) : Option Mem :=
  gF σ14 306 7 (fun (v15 : Int32) => pF σ14 306 7 (v15 + 1) (fun (σ16 : Mem) => some σ16))
noncomputable def j_X11_exchanges_173 (i19 : Int32) (σ22 : Mem) (i23 : Int32) : Option ((Mem × Int32 × Int32) ⊕ Mem) :=
  some (Sum.inl (σ22, i23, i19 + 1))
noncomputable def l_X11_exchanges_147 (i19 : Int32) (σ24 : Mem) (i25 : Int32) (i26 : Int32) : Option ((Mem × Int32 × Int32) ⊕ (Mem × Int32)) :=
  if i26 ≤ 0 then (some (Sum.inr (σ24, i25))) else (pI σ24 309 i25 i19 (fun (σ27 : Mem) => bd (i25 + 1) (fun (v28 : Int32) => some (Sum.inl (σ27, v28, i26 + (-1))))))
noncomputable def l_X11_exchanges_128 (v1 : Int32) (v2 : Int32) (σ17 : Mem) (i18 : Int32) (i19 : Int32) : Option ((Mem × Int32 × Int32) ⊕ Mem) :=
  (f_X11_n σ17).bind (fun (v20 : Int32) => if v20 ≤ i19 then (some (Sum.inr σ17)) else ((f_X11_tail σ17 v1 v2 i19).bind (fun (v21 : Int32) => (loopO (fun (z26 : (Mem × Int32 × Int32)) => l_X11_exchanges_147 i19 z26.1 z26.2.1 z26.2.2) (σ17, i18, v21) : Option (Mem × Int32)).bind (fun (z23 : (Mem × Int32)) => j_X11_exchanges_173 i19 z23.1 z23.2))))
noncomputable def j_X11_exchanges_91 (x0 : Int32) (v1 : Int32) (v2 : Int32) (i4 : Int32) (σ7 : Mem) : Option Mem :=
  gF σ7 306 6 (fun (v8 : Int32) => pF σ7 306 6 (v8 + i4) (fun (σ9 : Mem) => pI σ9 309 x0 v2 (fun (σ10 : Mem) => pI σ10 309 (x0 + 1) v1 (fun (σ11 : Mem) => bd (x0 + 2) (fun (v12 : Int32) => bd (v1 + 1) (fun (v13 : Int32) => (loopO (fun (z19 : (Mem × Int32 × Int32)) => l_X11_exchanges_128 v1 v2 z19.1 z19.2.1 z19.2.2) (σ11, v12, v13) : Option Mem).bind (fun (z14 : Mem) => j_X11_exchanges_179 z14)))))))
noncomputable def l_X11_exchanges_60 (x0 : Int32) (i4 : Int32) (σ29 : Mem) (i30 : Int32) : Option ((Mem × Int32) ⊕ Mem) :=
  if i30 ≤ (x0 + 1) then (some (Sum.inr σ29)) else (gI σ29 309 i30 (fun (v31 : Int32) => pI σ29 309 (i30 + i4) v31 (fun (σ32 : Mem) => some (Sum.inl (σ32, i30 + (-1))))))
noncomputable def j_X11_exchanges_52 (σ : Mem) (x0 : Int32) (v1 : Int32) (v2 : Int32) (i4 : Int32) : Option Mem :=
  gF σ 306 6 (fun (v5 : Int32) => bd (v5 - 1) (fun (v6 : Int32) => (loopO (fun (z30 : (Mem × Int32)) => l_X11_exchanges_60 x0 i4 z30.1 z30.2) (σ, v6) : Option Mem).bind (fun (z7 : Mem) => j_X11_exchanges_91 x0 v1 v2 i4 z7)))
noncomputable def l_X11_exchanges_24 (σ : Mem) (v1 : Int32) (v2 : Int32) (i33 : Int32) (i34 : Int32) : Option ((Int32 × Int32) ⊕ Int32) :=
  (f_X11_n σ).bind (fun (v35 : Int32) => if v35 ≤ i34 then (some (Sum.inr i33)) else ((f_X11_tail σ v1 v2 i34).bind (fun (v36 : Int32) => bd (i33 + v36) (fun (v37 : Int32) => some (Sum.inl (v37, i34 + 1))))))
noncomputable def f_X11_exchanges (σ : Mem) (x0 : Int32) : Option Mem :=
  gI σ 309 x0 (fun (v1 : Int32) => gI σ 309 (x0 + 1) (fun (v2 : Int32) => bd (v1 + 1) (fun (v3 : Int32) => (loopO (fun (z34 : (Int32 × Int32)) => l_X11_exchanges_24 σ v1 v2 z34.1 z34.2) (0, v3) : Option Int32).bind (fun (z4 : Int32) => j_X11_exchanges_52 σ x0 v1 v2 z4))))
theorem t_X11_exchanges {w : Wd} (hw : WOK w) (hN : wn w = NT) {σ : Mem} {x0 : Int32} : JO w mu_X11_exchanges vV σ [(0, .ref (adr w 306)), (1, .int x0)] [] 0 (f_X11_exchanges σ x0) (fun z => some ((), z)) := by
  unfold f_X11_exchanges
  refine jo_aload_n (pc := 0) 0 rfl dX11_exchanges_0 rfl ?_
  refine jo_getrE (pc := 1) ok_11_5 (ik_306 hw hN) rf_306_5 gw_1298 dX11_exchanges_1 ?_
  refine jo_iload_n (pc := 4) 1 rfl dX11_exchanges_4 rfl ?_
  refine jo_iald (pc := 5) (ik_309 hw hN) dX11_exchanges_5 (fun v1 => ?_)
  refine jo_istore_n (pc := 6) (lv' := [(2, .int v1), (0, .ref (adr w 306)), (1, .int x0)]) dX11_exchanges_6 rfl (ltb rfl) rfl ?_
  refine jo_aload_n (pc := 7) 1 rfl dX11_exchanges_7 rfl ?_
  refine jo_getrE (pc := 8) ok_11_5 (ik_306 hw hN) rf_306_5 gw_1298 dX11_exchanges_8 ?_
  refine jo_iload_n (pc := 11) 2 rfl dX11_exchanges_11 rfl ?_
  refine jo_iconst (pc := 12) dX11_exchanges_12 (ic_i_1) ?_
  refine jo_iadd (pc := 13) dX11_exchanges_13 ?_
  refine jo_iald (pc := 14) (ik_309 hw hN) dX11_exchanges_14 (fun v2 => ?_)
  refine jo_istore_n (pc := 15) (lv' := [(3, .int v2), (2, .int v1), (0, .ref (adr w 306)), (1, .int x0)]) dX11_exchanges_15 rfl (ltb rfl) rfl ?_
  refine jo_iconst (pc := 16) dX11_exchanges_16 (ic_i_0) ?_
  refine jo_istore (pc := 17) (lv' := [(4, .int 0), (3, .int v2), (2, .int v1), (0, .ref (adr w 306)), (1, .int x0)]) dX11_exchanges_17 (ltb rfl) rfl ?_
  refine jo_iload_n (pc := 19) 2 rfl dX11_exchanges_19 rfl ?_
  refine jo_iconst (pc := 20) dX11_exchanges_20 (ic_i_1) ?_
  refine jo_iadd (pc := 21) dX11_exchanges_21 ?_
  refine jo_bd ?_
  refine jo_istore (pc := 22) (lv' := [(5, .int (v1 + 1)), (4, .int 0), (3, .int v2), (2, .int v1), (0, .ref (adr w 306)), (1, .int x0)]) dX11_exchanges_22 (ltb rfl) rfl ?_
  generalize (v1 + 1) = v3
  refine jo_join1 (S := Int32) (fun (z4 : Int32) => σ) (fun (z4 : Int32) => [(3, .int v2), (2, .int v1), (0, .ref (adr w 306)), (1, .int x0), (4, .int z4)]) (fun (z4 : Int32) => []) 52 ?_ (fun h52_4 => ?_)
  · intro i4
    show JO w mu_X11_exchanges vV σ [(3, .int v2), (2, .int v1), (0, .ref (adr w 306)), (1, .int x0), (4, .int i4)] [] 52 (j_X11_exchanges_52 σ x0 v1 v2 i4) _
    unfold j_X11_exchanges_52
    refine jo_aload_n (pc := 52) 2 rfl dX11_exchanges_52 rfl ?_
    refine jo_getf (pc := 53) ok_11_6 (ik_306 hw hN) gw_1299 dX11_exchanges_53 (fun v5 => ?_)
    refine jo_iconst (pc := 56) dX11_exchanges_56 (ic_i_1) ?_
    refine jo_isub (pc := 57) dX11_exchanges_57 ?_
    refine jo_bd ?_
    refine jo_istore (pc := 58) (lv' := [(5, .int (v5 - 1)), (3, .int v2), (2, .int v1), (0, .ref (adr w 306)), (1, .int x0), (4, .int i4)]) dX11_exchanges_58 (ltb rfl) rfl ?_
    generalize (v5 - 1) = v6
    refine jo_join1 (S := Mem) (fun (z7 : Mem) => z7) (fun (z7 : Mem) => [(3, .int v2), (2, .int v1), (0, .ref (adr w 306)), (1, .int x0), (4, .int i4)]) (fun (z7 : Mem) => []) 91 ?_ (fun h91_7 => ?_)
    · intro σ7
      show JO w mu_X11_exchanges vV σ7 [(3, .int v2), (2, .int v1), (0, .ref (adr w 306)), (1, .int x0), (4, .int i4)] [] 91 (j_X11_exchanges_91 x0 v1 v2 i4 σ7) _
      unfold j_X11_exchanges_91
      refine jo_aload_n (pc := 91) 2 rfl dX11_exchanges_91 rfl ?_
      refine jo_aload_n (pc := 92) 2 rfl dX11_exchanges_92 rfl ?_
      refine jo_getf (pc := 93) ok_11_6 (ik_306 hw hN) gw_1299 dX11_exchanges_93 (fun v8 => ?_)
      refine jo_iload (pc := 96) 4 rfl dX11_exchanges_96 ?_
      refine jo_iadd (pc := 98) dX11_exchanges_98 ?_
      refine jo_putf (pc := 99) ok_11_6 okp_11_6 (ik_306 hw hN) gw_1299 dX11_exchanges_99 (fun σ9 => ?_)
      refine jo_aload_n (pc := 102) 2 rfl dX11_exchanges_102 rfl ?_
      refine jo_getrE (pc := 103) ok_11_5 (ik_306 hw hN) rf_306_5 gw_1298 dX11_exchanges_103 ?_
      refine jo_iload_n (pc := 106) 3 rfl dX11_exchanges_106 rfl ?_
      refine jo_iload_n (pc := 107) 0 rfl dX11_exchanges_107 rfl ?_
      refine jo_iast (pc := 108) (ik_309 hw hN) dX11_exchanges_108 (fun σ10 => ?_)
      refine jo_aload_n (pc := 109) 2 rfl dX11_exchanges_109 rfl ?_
      refine jo_getrE (pc := 110) ok_11_5 (ik_306 hw hN) rf_306_5 gw_1298 dX11_exchanges_110 ?_
      refine jo_iload_n (pc := 113) 3 rfl dX11_exchanges_113 rfl ?_
      refine jo_iconst (pc := 114) dX11_exchanges_114 (ic_i_1) ?_
      refine jo_iadd (pc := 115) dX11_exchanges_115 ?_
      refine jo_iload_n (pc := 116) 1 rfl dX11_exchanges_116 rfl ?_
      refine jo_iast (pc := 117) (ik_309 hw hN) dX11_exchanges_117 (fun σ11 => ?_)
      refine jo_iload_n (pc := 118) 3 rfl dX11_exchanges_118 rfl ?_
      refine jo_iconst (pc := 119) dX11_exchanges_119 (ic_i_2) ?_
      refine jo_iadd (pc := 120) dX11_exchanges_120 ?_
      refine jo_bd ?_
      refine jo_istore (pc := 121) (lv' := [(5, .int (x0 + 2)), (3, .int v2), (2, .int v1), (0, .ref (adr w 306)), (1, .int x0), (4, .int i4)]) dX11_exchanges_121 (ltb rfl) rfl ?_
      generalize (x0 + 2) = v12
      refine jo_iload_n (pc := 123) 2 rfl dX11_exchanges_123 rfl ?_
      refine jo_iconst (pc := 124) dX11_exchanges_124 (ic_i_1) ?_
      refine jo_iadd (pc := 125) dX11_exchanges_125 ?_
      refine jo_bd ?_
      refine jo_istore (pc := 126) (lv' := [(6, .int (v1 + 1)), (5, .int v12), (3, .int v2), (2, .int v1), (0, .ref (adr w 306)), (1, .int x0), (4, .int i4)]) dX11_exchanges_126 (ltb rfl) rfl ?_
      generalize (v1 + 1) = v13
      refine jo_join1 (S := Mem) (fun (z14 : Mem) => z14) (fun (z14 : Mem) => [(0, .ref (adr w 306))]) (fun (z14 : Mem) => []) 179 ?_ (fun h179_14 => ?_)
      · intro σ14
        show JO w mu_X11_exchanges vV σ14 [(0, .ref (adr w 306))] [] 179 (j_X11_exchanges_179 σ14) _
        unfold j_X11_exchanges_179
        refine jo_aload_n (pc := 179) 0 rfl dX11_exchanges_179 rfl ?_
        refine jo_aload_n (pc := 180) 0 rfl dX11_exchanges_180 rfl ?_
        refine jo_getf (pc := 181) ok_11_7 (ik_306 hw hN) gw_1300 dX11_exchanges_181 (fun v15 => ?_)
        refine jo_iconst (pc := 184) dX11_exchanges_184 (ic_i_1) ?_
        refine jo_iadd (pc := 185) dX11_exchanges_185 ?_
        refine jo_putf (pc := 186) ok_11_7 okp_11_7 (ik_306 hw hN) gw_1300 dX11_exchanges_186 (fun σ16 => ?_)
        exact jo_return (pc := 189) rfl rfl dX11_exchanges_189
      · refine jo_lv (lv' := [(3, .int v2), (2, .int v1), (0, .ref (adr w 306)), (5, .int v12), (6, .int v13)]) [2, 3, 4, 1, 0] rfl ?_
        refine jo_loop (X := Mem) (fun (z19 : (Mem × Int32 × Int32)) => z19.1) (fun (z19 : (Mem × Int32 × Int32)) => [(3, .int v2), (2, .int v1), (0, .ref (adr w 306)), (5, .int z19.2.1), (6, .int z19.2.2)]) (body := (fun (z19 : (Mem × Int32 × Int32)) => l_X11_exchanges_128 v1 v2 z19.1 z19.2.1 z19.2.2)) (fun F128_19 hF128_19 s => ?_) (σ11, v12, v13)
        obtain ⟨σ17, i18, i19⟩ := s
        show JO w mu_X11_exchanges vV σ17 [(3, .int v2), (2, .int v1), (0, .ref (adr w 306)), (5, .int i18), (6, .int i19)] [] 128 (l_X11_exchanges_128 v1 v2 σ17 i18 i19) _
        unfold l_X11_exchanges_128
        refine jo_iload (pc := 128) 4 rfl dX11_exchanges_128 ?_
        refine jo_aload_n (pc := 130) 2 rfl dX11_exchanges_130 rfl ?_
        refine jo_cV_I_p (pc := 131) (μ' := mu_X11_n) (fx := f_X11_n σ17) (As := []) (c_X11_n hw hN) (ok_X11_n) (ltb rfl) (all3 gw_1441 gw_1443 gw_68) (ik_306 hw hN) (by decide) (q := (RX11, TX11, 39)) rfl rfl rfl rfl (Nat.le_of_ble_eq_true rfl) dX11_exchanges_131 (fun v20 => ?_)
        refine jo_icmp_ge (pc := 134) dX11_exchanges_134 (tgt := 179) rfl ?_ ?_
        · refine jo_lv (lv' := [(0, .ref (adr w 306))]) [2] rfl ?_
          exact jo_leaf (by rfl) (h179_14 σ17)
        · refine jo_aload_n (pc := 137) 2 rfl dX11_exchanges_137 rfl ?_
          refine jo_iload_n (pc := 138) 1 rfl dX11_exchanges_138 rfl ?_
          refine jo_iload_n (pc := 139) 0 rfl dX11_exchanges_139 rfl ?_
          refine jo_iload (pc := 140) 4 rfl dX11_exchanges_140 ?_
          refine jo_cV_I_p (pc := 142) (μ' := mu_X11_tail) (fx := f_X11_tail σ17 v1 v2 i19) (As := [.int v1, .int v2, .int i19]) (c_X11_tail hw hN) (ok_X11_tail) (ltb rfl) (all3 gw_1495 gw_1497 gw_79) (ik_306 hw hN) (by decide) (q := (RX11, TX11, 39)) rfl rfl rfl rfl (Nat.le_of_ble_eq_true rfl) dX11_exchanges_142 (fun v21 => ?_)
          refine jo_istore (pc := 145) (lv' := [(7, .int v21), (3, .int v2), (2, .int v1), (0, .ref (adr w 306)), (5, .int i18), (6, .int i19)]) dX11_exchanges_145 (ltb rfl) rfl ?_
          refine jo_join1 (S := (Mem × Int32)) (fun (z23 : (Mem × Int32)) => z23.1) (fun (z23 : (Mem × Int32)) => [(3, .int v2), (2, .int v1), (0, .ref (adr w 306)), (6, .int i19), (5, .int z23.2)]) (fun (z23 : (Mem × Int32)) => []) 173 ?_ (fun h173_23 => ?_)
          · intro s
            obtain ⟨σ22, i23⟩ := s
            show JO w mu_X11_exchanges vV σ22 [(3, .int v2), (2, .int v1), (0, .ref (adr w 306)), (6, .int i19), (5, .int i23)] [] 173 (j_X11_exchanges_173 i19 σ22 i23) _
            unfold j_X11_exchanges_173
            refine jo_iinc (pc := 173) (lv' := [(6, .int (i19 + 1)), (3, .int v2), (2, .int v1), (0, .ref (adr w 306)), (5, .int i23)]) 3 rfl dX11_exchanges_173 (congrArg (fun z => i19 + z) (ic_i_1)) (ltb rfl) rfl ?_
            refine jo_goto (pc := 176) dX11_exchanges_176 (tgt := 128) rfl ?_
            refine jo_lv (lv' := [(3, .int v2), (2, .int v1), (0, .ref (adr w 306)), (5, .int i23), (6, .int (i19 + 1))]) [1, 2, 3, 4, 0] rfl ?_
            exact jo_leaf (by rfl) (hF128_19 (σ22, i23, i19 + 1))
          · refine jo_lv (lv' := [(3, .int v2), (2, .int v1), (0, .ref (adr w 306)), (6, .int i19), (5, .int i18), (7, .int v21)]) [1, 2, 3, 5, 4, 0] rfl ?_
            refine jo_loop (X := (Mem × Int32)) (fun (z26 : (Mem × Int32 × Int32)) => z26.1) (fun (z26 : (Mem × Int32 × Int32)) => [(3, .int v2), (2, .int v1), (0, .ref (adr w 306)), (6, .int i19), (5, .int z26.2.1), (7, .int z26.2.2)]) (body := (fun (z26 : (Mem × Int32 × Int32)) => l_X11_exchanges_147 i19 z26.1 z26.2.1 z26.2.2)) (fun F147_26 hF147_26 s => ?_) (σ17, i18, v21)
            obtain ⟨σ24, i25, i26⟩ := s
            show JO w mu_X11_exchanges vV σ24 [(3, .int v2), (2, .int v1), (0, .ref (adr w 306)), (6, .int i19), (5, .int i25), (7, .int i26)] [] 147 (l_X11_exchanges_147 i19 σ24 i25 i26) _
            unfold l_X11_exchanges_147
            refine jo_iload (pc := 147) 5 rfl dX11_exchanges_147 ?_
            refine jo_if_le (pc := 149) dX11_exchanges_149 (tgt := 173) rfl ?_ ?_
            · refine jo_lv (lv' := [(3, .int v2), (2, .int v1), (0, .ref (adr w 306)), (6, .int i19), (5, .int i25)]) [0, 1, 2, 3, 4] rfl ?_
              exact jo_leaf (by rfl) (h173_23 (σ24, i25))
            · refine jo_aload_n (pc := 152) 2 rfl dX11_exchanges_152 rfl ?_
              refine jo_getrE (pc := 153) ok_11_5 (ik_306 hw hN) rf_306_5 gw_1298 dX11_exchanges_153 ?_
              refine jo_iload (pc := 156) 4 rfl dX11_exchanges_156 ?_
              refine jo_iload (pc := 158) 3 rfl dX11_exchanges_158 ?_
              refine jo_iast (pc := 160) (ik_309 hw hN) dX11_exchanges_160 (fun σ27 => ?_)
              refine jo_iload (pc := 161) 4 rfl dX11_exchanges_161 ?_
              refine jo_iconst (pc := 163) dX11_exchanges_163 (ic_i_1) ?_
              refine jo_iadd (pc := 164) dX11_exchanges_164 ?_
              refine jo_bd ?_
              refine jo_istore (pc := 165) (lv' := [(5, .int (i25 + 1)), (3, .int v2), (2, .int v1), (0, .ref (adr w 306)), (6, .int i19), (7, .int i26)]) dX11_exchanges_165 (ltb rfl) rfl ?_
              generalize (i25 + 1) = v28
              refine jo_iinc (pc := 167) (lv' := [(7, .int (i26 + (-1))), (5, .int v28), (3, .int v2), (2, .int v1), (0, .ref (adr w 306)), (6, .int i19)]) 5 rfl dX11_exchanges_167 (congrArg (fun z => i26 + z) (ic_i_m1)) (ltb rfl) rfl ?_
              refine jo_goto (pc := 170) dX11_exchanges_170 (tgt := 147) rfl ?_
              refine jo_lv (lv' := [(3, .int v2), (2, .int v1), (0, .ref (adr w 306)), (6, .int i19), (5, .int v28), (7, .int (i26 + (-1)))]) [2, 3, 4, 5, 1, 0] rfl ?_
              exact jo_leaf (by rfl) (hF147_26 (σ27, v28, i26 + (-1)))
    · refine jo_lv (lv' := [(3, .int v2), (2, .int v1), (0, .ref (adr w 306)), (1, .int x0), (4, .int i4), (5, .int v6)]) [1, 2, 3, 4, 5, 0] rfl ?_
      refine jo_loop (X := Mem) (fun (z30 : (Mem × Int32)) => z30.1) (fun (z30 : (Mem × Int32)) => [(3, .int v2), (2, .int v1), (0, .ref (adr w 306)), (1, .int x0), (4, .int i4), (5, .int z30.2)]) (body := (fun (z30 : (Mem × Int32)) => l_X11_exchanges_60 x0 i4 z30.1 z30.2)) (fun F60_30 hF60_30 s => ?_) (σ, v6)
      obtain ⟨σ29, i30⟩ := s
      show JO w mu_X11_exchanges vV σ29 [(3, .int v2), (2, .int v1), (0, .ref (adr w 306)), (1, .int x0), (4, .int i4), (5, .int i30)] [] 60 (l_X11_exchanges_60 x0 i4 σ29 i30) _
      unfold l_X11_exchanges_60
      refine jo_iload (pc := 60) 5 rfl dX11_exchanges_60 ?_
      refine jo_iload_n (pc := 62) 3 rfl dX11_exchanges_62 rfl ?_
      refine jo_iconst (pc := 63) dX11_exchanges_63 (ic_i_1) ?_
      refine jo_iadd (pc := 64) dX11_exchanges_64 ?_
      refine jo_icmp_le (pc := 65) dX11_exchanges_65 (tgt := 91) rfl ?_ ?_
      · refine jo_lv (lv' := [(3, .int v2), (2, .int v1), (0, .ref (adr w 306)), (1, .int x0), (4, .int i4)]) [0, 1, 2, 3, 4] rfl ?_
        exact jo_leaf (by rfl) (h91_7 σ29)
      · refine jo_aload_n (pc := 68) 2 rfl dX11_exchanges_68 rfl ?_
        refine jo_getrE (pc := 69) ok_11_5 (ik_306 hw hN) rf_306_5 gw_1298 dX11_exchanges_69 ?_
        refine jo_iload (pc := 72) 5 rfl dX11_exchanges_72 ?_
        refine jo_iload (pc := 74) 4 rfl dX11_exchanges_74 ?_
        refine jo_iadd (pc := 76) dX11_exchanges_76 ?_
        refine jo_aload_n (pc := 77) 2 rfl dX11_exchanges_77 rfl ?_
        refine jo_getrE (pc := 78) ok_11_5 (ik_306 hw hN) rf_306_5 gw_1298 dX11_exchanges_78 ?_
        refine jo_iload (pc := 81) 5 rfl dX11_exchanges_81 ?_
        refine jo_iald (pc := 83) (ik_309 hw hN) dX11_exchanges_83 (fun v31 => ?_)
        refine jo_iast (pc := 84) (ik_309 hw hN) dX11_exchanges_84 (fun σ32 => ?_)
        refine jo_iinc (pc := 85) (lv' := [(5, .int (i30 + (-1))), (3, .int v2), (2, .int v1), (0, .ref (adr w 306)), (1, .int x0), (4, .int i4)]) 5 rfl dX11_exchanges_85 (congrArg (fun z => i30 + z) (ic_i_m1)) (ltb rfl) rfl ?_
        refine jo_goto (pc := 88) dX11_exchanges_88 (tgt := 60) rfl ?_
        refine jo_lv (lv' := [(3, .int v2), (2, .int v1), (0, .ref (adr w 306)), (1, .int x0), (4, .int i4), (5, .int (i30 + (-1)))]) [1, 2, 3, 4, 5, 0] rfl ?_
        exact jo_leaf (by rfl) (hF60_30 (σ32, i30 + (-1)))
  · refine jo_lv (lv' := [(3, .int v2), (2, .int v1), (0, .ref (adr w 306)), (1, .int x0), (4, .int 0), (5, .int v3)]) [2, 3, 4, 5, 1, 0] rfl ?_
    refine jo_loop (X := Int32) (fun (z34 : (Int32 × Int32)) => σ) (fun (z34 : (Int32 × Int32)) => [(3, .int v2), (2, .int v1), (0, .ref (adr w 306)), (1, .int x0), (4, .int z34.1), (5, .int z34.2)]) (body := (fun (z34 : (Int32 × Int32)) => l_X11_exchanges_24 σ v1 v2 z34.1 z34.2)) (fun F24_34 hF24_34 s => ?_) (0, v3)
    obtain ⟨i33, i34⟩ := s
    show JO w mu_X11_exchanges vV σ [(3, .int v2), (2, .int v1), (0, .ref (adr w 306)), (1, .int x0), (4, .int i33), (5, .int i34)] [] 24 (l_X11_exchanges_24 σ v1 v2 i33 i34) _
    unfold l_X11_exchanges_24
    refine jo_iload (pc := 24) 5 rfl dX11_exchanges_24 ?_
    refine jo_aload_n (pc := 26) 2 rfl dX11_exchanges_26 rfl ?_
    refine jo_cV_I_p (pc := 27) (μ' := mu_X11_n) (fx := f_X11_n σ) (As := []) (c_X11_n hw hN) (ok_X11_n) (ltb rfl) (all3 gw_1441 gw_1443 gw_68) (ik_306 hw hN) (by decide) (q := (RX11, TX11, 39)) rfl rfl rfl rfl (Nat.le_of_ble_eq_true rfl) dX11_exchanges_27 (fun v35 => ?_)
    refine jo_icmp_ge (pc := 30) dX11_exchanges_30 (tgt := 52) rfl ?_ ?_
    · refine jo_lv (lv' := [(3, .int v2), (2, .int v1), (0, .ref (adr w 306)), (1, .int x0), (4, .int i33)]) [0, 1, 2, 3, 4] rfl ?_
      exact jo_leaf (by rfl) (h52_4 i33)
    · refine jo_iload (pc := 33) 4 rfl dX11_exchanges_33 ?_
      refine jo_aload_n (pc := 35) 2 rfl dX11_exchanges_35 rfl ?_
      refine jo_iload_n (pc := 36) 1 rfl dX11_exchanges_36 rfl ?_
      refine jo_iload_n (pc := 37) 0 rfl dX11_exchanges_37 rfl ?_
      refine jo_iload (pc := 38) 5 rfl dX11_exchanges_38 ?_
      refine jo_cV_I_p (pc := 40) (μ' := mu_X11_tail) (fx := f_X11_tail σ v1 v2 i34) (As := [.int v1, .int v2, .int i34]) (c_X11_tail hw hN) (ok_X11_tail) (ltb rfl) (all3 gw_1495 gw_1497 gw_79) (ik_306 hw hN) (by decide) (q := (RX11, TX11, 39)) rfl rfl rfl rfl (Nat.le_of_ble_eq_true rfl) dX11_exchanges_40 (fun v36 => ?_)
      refine jo_iadd (pc := 43) dX11_exchanges_43 ?_
      refine jo_bd ?_
      refine jo_istore (pc := 44) (lv' := [(4, .int (i33 + v36)), (3, .int v2), (2, .int v1), (0, .ref (adr w 306)), (1, .int x0), (5, .int i34)]) dX11_exchanges_44 (ltb rfl) rfl ?_
      generalize (i33 + v36) = v37
      refine jo_iinc (pc := 46) (lv' := [(5, .int (i34 + 1)), (4, .int v37), (3, .int v2), (2, .int v1), (0, .ref (adr w 306)), (1, .int x0)]) 5 rfl dX11_exchanges_46 (congrArg (fun z => i34 + z) (ic_i_1)) (ltb rfl) rfl ?_
      refine jo_goto (pc := 49) dX11_exchanges_49 (tgt := 24) rfl ?_
      refine jo_lv (lv' := [(3, .int v2), (2, .int v1), (0, .ref (adr w 306)), (1, .int x0), (4, .int v37), (5, .int (i34 + 1))]) [2, 3, 4, 5, 1, 0] rfl ?_
      exact jo_leaf (by rfl) (hF24_34 (v37, i34 + 1))
theorem c_X11_exchanges {w : Wd} (hw : WOK w) (hN : wn w = NT) {σ : Mem} {x0 : Int32} : ∀ σ', f_X11_exchanges σ x0 = some σ' → MC w mu_X11_exchanges none [.ref (adr w 306), .int x0] σ σ' := mc_ofV ok_X11_exchanges rfl (Nat.le_of_ble_eq_true rfl) (t_X11_exchanges hw hN)
abbrev mu_X11_collects : MD := (yX11_collects, cX11_collects, 2, some .boolean, 2)
theorem ok_X11_collects : MOK mu_X11_collects 0 := ⟨gw_1502, gw_171, (by decide +kernel : plainFor yX11_collects = true), ⟨(by decide +kernel : yX11_collects.cls ≠ "java/lang/invoke/MethodHandle"), (by decide +kernel : yX11_collects.cls ≠ "java/lang/invoke/VarHandle"), (by decide +kernel : (parseMethodDescriptor yX11_collects.desc).map (fun d => d.parameters.length) = some 0)⟩, Nat.le_of_ble_eq_true rfl⟩
noncomputable def j_X11_collects_64 (σ7 : Mem) (i8 : Int32) : Option ((Mem × Int32) ⊕ (Bool × Mem)) :=
  some (Sum.inl (σ7, i8))
noncomputable def l_X11_collects_2 (σ1 : Mem) (i2 : Int32) : Option ((Mem × Int32) ⊕ (Bool × Mem)) :=
  gF σ1 306 6 (fun (v3 : Int32) => if v3 ≤ (i2 + 1) then (some (Sum.inr (true, σ1))) else (gI σ1 309 i2 (fun (v4 : Int32) => gI σ1 309 (i2 + 1) (fun (v5 : Int32) => if v5 < v4 then (gF σ1 306 7 (fun (v6 : Int32) => if v6 = 1000 then (some (Sum.inr (false, σ1))) else ((f_X11_exchanges σ1 i2).bind (fun (σ7 : Mem) => (if i2 ≤ 0 then (some 0) else (some (i2 - 1)) : Option Int32).bind (fun (z8 : Int32) => j_X11_collects_64 σ7 z8))))) else (bd (i2 + 1) (fun (v9 : Int32) => some (Sum.inl (σ1, v9))))))))
noncomputable def f_X11_collects (σ : Mem) : Option (Bool × Mem) :=
  loopO (fun (z2 : (Mem × Int32)) => l_X11_collects_2 z2.1 z2.2) (σ, 0)
theorem t_X11_collects {w : Wd} (hw : WOK w) (hN : wn w = NT) {σ : Mem} : JO w mu_X11_collects vB σ [(0, .ref (adr w 306))] [] 0 (f_X11_collects σ) some := by
  unfold f_X11_collects
  refine jo_iconst (pc := 0) dX11_collects_0 (ic_i_0) ?_
  refine jo_istore_n (pc := 1) (lv' := [(1, .int 0), (0, .ref (adr w 306))]) dX11_collects_1 rfl (ltb rfl) rfl ?_
  refine jo_lv (lv' := [(0, .ref (adr w 306)), (1, .int 0)]) [1, 0] rfl ?_
  refine jo_loop (X := (Bool × Mem)) (fun (z2 : (Mem × Int32)) => z2.1) (fun (z2 : (Mem × Int32)) => [(0, .ref (adr w 306)), (1, .int z2.2)]) (body := (fun (z2 : (Mem × Int32)) => l_X11_collects_2 z2.1 z2.2)) (fun F2_2 hF2_2 s => ?_) (σ, 0)
  obtain ⟨σ1, i2⟩ := s
  show JO w mu_X11_collects vB σ1 [(0, .ref (adr w 306)), (1, .int i2)] [] 2 (l_X11_collects_2 σ1 i2) _
  unfold l_X11_collects_2
  refine jo_iload_n (pc := 2) 1 rfl dX11_collects_2 rfl ?_
  refine jo_iconst (pc := 3) dX11_collects_3 (ic_i_1) ?_
  refine jo_iadd (pc := 4) dX11_collects_4 ?_
  refine jo_aload_n (pc := 5) 0 rfl dX11_collects_5 rfl ?_
  refine jo_getf (pc := 6) ok_11_6 (ik_306 hw hN) gw_1299 dX11_collects_6 (fun v3 => ?_)
  refine jo_icmp_ge (pc := 9) dX11_collects_9 (tgt := 68) rfl ?_ ?_
  · refine jo_iconst (pc := 68) dX11_collects_68 (ic_i_1) ?_
    exact jo_breturn (pc := 69) (b := true) rfl rfl dX11_collects_69
  · refine jo_aload_n (pc := 12) 0 rfl dX11_collects_12 rfl ?_
    refine jo_getrE (pc := 13) ok_11_5 (ik_306 hw hN) rf_306_5 gw_1298 dX11_collects_13 ?_
    refine jo_iload_n (pc := 16) 1 rfl dX11_collects_16 rfl ?_
    refine jo_iald (pc := 17) (ik_309 hw hN) dX11_collects_17 (fun v4 => ?_)
    refine jo_aload_n (pc := 18) 0 rfl dX11_collects_18 rfl ?_
    refine jo_getrE (pc := 19) ok_11_5 (ik_306 hw hN) rf_306_5 gw_1298 dX11_collects_19 ?_
    refine jo_iload_n (pc := 22) 1 rfl dX11_collects_22 rfl ?_
    refine jo_iconst (pc := 23) dX11_collects_23 (ic_i_1) ?_
    refine jo_iadd (pc := 24) dX11_collects_24 ?_
    refine jo_iald (pc := 25) (ik_309 hw hN) dX11_collects_25 (fun v5 => ?_)
    refine jo_icmp_gt (pc := 26) dX11_collects_26 (tgt := 36) rfl ?_ ?_
    · refine jo_aload_n (pc := 36) 0 rfl dX11_collects_36 rfl ?_
      refine jo_getf (pc := 37) ok_11_7 (ik_306 hw hN) gw_1300 dX11_collects_37 (fun v6 => ?_)
      refine jo_sipush (pc := 40) dX11_collects_40 (ic_s_1000) ?_
      refine jo_icmp_ne (pc := 43) dX11_collects_43 (tgt := 48) rfl ?_ ?_
      · refine jo_aload_n (pc := 48) 0 rfl dX11_collects_48 rfl ?_
        refine jo_iload_n (pc := 49) 1 rfl dX11_collects_49 rfl ?_
        refine jo_cV_V_i (pc := 50) (μ' := mu_X11_exchanges) (fx := f_X11_exchanges σ1 i2) (As := [.int i2]) (c_X11_exchanges hw hN) (ok_X11_exchanges) (ltb rfl) (all3 gw_1491 gw_1493 gw_78) (ik_306 hw hN) (by decide) (q := (RX11, TX11, 39)) rfl rfl rfl rfl (Nat.le_of_ble_eq_true rfl) dX11_collects_50 (fun σ7 => ?_)
        refine jo_iload_n (pc := 53) 1 rfl dX11_collects_53 rfl ?_
        refine jo_join1 (S := Int32) (fun (z8 : Int32) => σ7) (fun (z8 : Int32) => [(0, .ref (adr w 306))]) (fun (z8 : Int32) => [.int z8]) 64 ?_ (fun h64_8 => ?_)
        · intro i8
          show JO w mu_X11_collects vB σ7 [(0, .ref (adr w 306))] [.int i8] 64 (j_X11_collects_64 σ7 i8) _
          unfold j_X11_collects_64
          refine jo_istore_n (pc := 64) (lv' := [(1, .int i8), (0, .ref (adr w 306))]) dX11_collects_64 rfl (ltb rfl) rfl ?_
          refine jo_goto (pc := 65) dX11_collects_65 (tgt := 2) rfl ?_
          refine jo_lv (lv' := [(0, .ref (adr w 306)), (1, .int i8)]) [1, 0] rfl ?_
          exact jo_leaf (by rfl) (hF2_2 (σ7, i8))
        · refine jo_if_le (pc := 54) dX11_collects_54 (tgt := 63) rfl ?_ ?_
          · refine jo_iconst (pc := 63) dX11_collects_63 (ic_i_0) ?_
            refine jo_lv (lv' := [(0, .ref (adr w 306))]) [0] rfl ?_
            exact jo_leaf (by rfl) (h64_8 0)
          · refine jo_iload_n (pc := 57) 1 rfl dX11_collects_57 rfl ?_
            refine jo_iconst (pc := 58) dX11_collects_58 (ic_i_1) ?_
            refine jo_isub (pc := 59) dX11_collects_59 ?_
            refine jo_goto (pc := 60) dX11_collects_60 (tgt := 64) rfl ?_
            refine jo_lv (lv' := [(0, .ref (adr w 306))]) [0] rfl ?_
            exact jo_leaf (by rfl) (h64_8 (i2 - 1))
      · refine jo_iconst (pc := 46) dX11_collects_46 (ic_i_0) ?_
        exact jo_breturn (pc := 47) (b := false) rfl rfl dX11_collects_47
    · refine jo_iload_n (pc := 29) 1 rfl dX11_collects_29 rfl ?_
      refine jo_iconst (pc := 30) dX11_collects_30 (ic_i_1) ?_
      refine jo_iadd (pc := 31) dX11_collects_31 ?_
      refine jo_bd ?_
      refine jo_istore_n (pc := 32) (lv' := [(1, .int (i2 + 1)), (0, .ref (adr w 306))]) dX11_collects_32 rfl (ltb rfl) rfl ?_
      generalize (i2 + 1) = v9
      refine jo_goto (pc := 33) dX11_collects_33 (tgt := 2) rfl ?_
      refine jo_lv (lv' := [(0, .ref (adr w 306)), (1, .int v9)]) [1, 0] rfl ?_
      exact jo_leaf (by rfl) (hF2_2 (σ1, v9))
theorem c_X11_collects {w : Wd} (hw : WOK w) (hN : wn w = NT) {σ : Mem} : ∀ r σ', f_X11_collects σ = some (r, σ') → MC w mu_X11_collects (vB r) [.ref (adr w 306)] σ σ' := mc_of ok_X11_collects rfl (Nat.le_of_ble_eq_true rfl) (t_X11_collects hw hN)
abbrev mu_X11_letters : MD := (yX11_letters, cX11_letters, 4, some .int, 0)
theorem ok_X11_letters : MOK mu_X11_letters 1 := ⟨gw_1506, gw_171, (by decide +kernel : plainFor yX11_letters = true), ⟨(by decide +kernel : yX11_letters.cls ≠ "java/lang/invoke/MethodHandle"), (by decide +kernel : yX11_letters.cls ≠ "java/lang/invoke/VarHandle"), (by decide +kernel : (parseMethodDescriptor yX11_letters.desc).map (fun d => d.parameters.length) = some 1)⟩, Nat.le_of_ble_eq_true rfl⟩
noncomputable def j_X11_letters_26 (i2 : Int32) (i5 : Int32) : Option ((Int32 × Int32) ⊕ Int32) :=
  some (Sum.inl (i5, i2 + 1))
noncomputable def l_X11_letters_4 (σ : Mem) (x0 : Int32) (i1 : Int32) (i2 : Int32) : Option ((Int32 × Int32) ⊕ Int32) :=
  gF σ 306 6 (fun (v3 : Int32) => if v3 ≤ i2 then (some (Sum.inr i1)) else (gI σ 309 i2 (fun (v4 : Int32) => (if v4 = x0 then (bd (i1 + 1) (fun (v6 : Int32) => some v6)) else (some i1) : Option Int32).bind (fun (z5 : Int32) => j_X11_letters_26 i2 z5))))
noncomputable def f_X11_letters (σ : Mem) (x0 : Int32) : Option Int32 :=
  loopO (fun (z2 : (Int32 × Int32)) => l_X11_letters_4 σ x0 z2.1 z2.2) (0, 0)
theorem t_X11_letters {w : Wd} (hw : WOK w) (hN : wn w = NT) {σ : Mem} {x0 : Int32} : JO w mu_X11_letters vI σ [(0, .ref (adr w 306)), (1, .int x0)] [] 0 (f_X11_letters σ x0) (fun z => some (z, σ)) := by
  unfold f_X11_letters
  refine jo_iconst (pc := 0) dX11_letters_0 (ic_i_0) ?_
  refine jo_istore_n (pc := 1) (lv' := [(2, .int 0), (0, .ref (adr w 306)), (1, .int x0)]) dX11_letters_1 rfl (ltb rfl) rfl ?_
  refine jo_iconst (pc := 2) dX11_letters_2 (ic_i_0) ?_
  refine jo_istore_n (pc := 3) (lv' := [(3, .int 0), (2, .int 0), (0, .ref (adr w 306)), (1, .int x0)]) dX11_letters_3 rfl (ltb rfl) rfl ?_
  refine jo_lv (lv' := [(0, .ref (adr w 306)), (1, .int x0), (2, .int 0), (3, .int 0)]) [2, 3, 1, 0] rfl ?_
  refine jo_loop (X := Int32) (fun (z2 : (Int32 × Int32)) => σ) (fun (z2 : (Int32 × Int32)) => [(0, .ref (adr w 306)), (1, .int x0), (2, .int z2.1), (3, .int z2.2)]) (body := (fun (z2 : (Int32 × Int32)) => l_X11_letters_4 σ x0 z2.1 z2.2)) (fun F4_2 hF4_2 s => ?_) (0, 0)
  obtain ⟨i1, i2⟩ := s
  show JO w mu_X11_letters vI σ [(0, .ref (adr w 306)), (1, .int x0), (2, .int i1), (3, .int i2)] [] 4 (l_X11_letters_4 σ x0 i1 i2) _
  unfold l_X11_letters_4
  refine jo_iload_n (pc := 4) 3 rfl dX11_letters_4 rfl ?_
  refine jo_aload_n (pc := 5) 0 rfl dX11_letters_5 rfl ?_
  refine jo_getf (pc := 6) ok_11_6 (ik_306 hw hN) gw_1299 dX11_letters_6 (fun v3 => ?_)
  refine jo_icmp_ge (pc := 9) dX11_letters_9 (tgt := 32) rfl ?_ ?_
  · refine jo_iload_n (pc := 32) 2 rfl dX11_letters_32 rfl ?_
    exact jo_ireturn (pc := 33) rfl rfl dX11_letters_33
  · refine jo_aload_n (pc := 12) 0 rfl dX11_letters_12 rfl ?_
    refine jo_getrE (pc := 13) ok_11_5 (ik_306 hw hN) rf_306_5 gw_1298 dX11_letters_13 ?_
    refine jo_iload_n (pc := 16) 3 rfl dX11_letters_16 rfl ?_
    refine jo_iald (pc := 17) (ik_309 hw hN) dX11_letters_17 (fun v4 => ?_)
    refine jo_iload_n (pc := 18) 1 rfl dX11_letters_18 rfl ?_
    refine jo_join1 (S := Int32) (fun (z5 : Int32) => σ) (fun (z5 : Int32) => [(0, .ref (adr w 306)), (1, .int x0), (3, .int i2), (2, .int z5)]) (fun (z5 : Int32) => []) 26 ?_ (fun h26_5 => ?_)
    · intro i5
      show JO w mu_X11_letters vI σ [(0, .ref (adr w 306)), (1, .int x0), (3, .int i2), (2, .int i5)] [] 26 (j_X11_letters_26 i2 i5) _
      unfold j_X11_letters_26
      refine jo_iinc (pc := 26) (lv' := [(3, .int (i2 + 1)), (0, .ref (adr w 306)), (1, .int x0), (2, .int i5)]) 2 rfl dX11_letters_26 (congrArg (fun z => i2 + z) (ic_i_1)) (ltb rfl) rfl ?_
      refine jo_goto (pc := 29) dX11_letters_29 (tgt := 4) rfl ?_
      refine jo_lv (lv' := [(0, .ref (adr w 306)), (1, .int x0), (2, .int i5), (3, .int (i2 + 1))]) [1, 2, 3, 0] rfl ?_
      exact jo_leaf (by rfl) (hF4_2 (i5, i2 + 1))
    · refine jo_icmp_ne (pc := 19) dX11_letters_19 (tgt := 26) rfl ?_ ?_
      · refine jo_lv (lv' := [(0, .ref (adr w 306)), (1, .int x0), (3, .int i2), (2, .int i1)]) [0, 1, 3, 2] rfl ?_
        exact jo_leaf (by rfl) (h26_5 i1)
      · refine jo_iload_n (pc := 22) 2 rfl dX11_letters_22 rfl ?_
        refine jo_iconst (pc := 23) dX11_letters_23 (ic_i_1) ?_
        refine jo_iadd (pc := 24) dX11_letters_24 ?_
        refine jo_bd ?_
        refine jo_istore_n (pc := 25) (lv' := [(2, .int (i1 + 1)), (0, .ref (adr w 306)), (1, .int x0), (3, .int i2)]) dX11_letters_25 rfl (ltb rfl) rfl ?_
        generalize (i1 + 1) = v6
        refine jo_lv (lv' := [(0, .ref (adr w 306)), (1, .int x0), (3, .int i2), (2, .int v6)]) [1, 2, 3, 0] rfl ?_
        exact jo_leaf (by rfl) (h26_5 v6)
theorem c_X11_letters {w : Wd} (hw : WOK w) (hN : wn w = NT) {σ : Mem} {x0 : Int32} : ∀ r, f_X11_letters σ x0 = some r → MC w mu_X11_letters (vI r) [.ref (adr w 306), .int x0] σ σ := mc_ofP ok_X11_letters rfl (Nat.le_of_ble_eq_true rfl) (t_X11_letters hw hN)
abbrev mu_X11_isAlikeBy : MD := (yX11_isAlikeBy, cX11_isAlikeBy, 7, some .boolean, 3)
theorem ok_X11_isAlikeBy : MOK mu_X11_isAlikeBy 3 := ⟨gw_1486, gw_171, (by decide +kernel : plainFor yX11_isAlikeBy = true), ⟨(by decide +kernel : yX11_isAlikeBy.cls ≠ "java/lang/invoke/MethodHandle"), (by decide +kernel : yX11_isAlikeBy.cls ≠ "java/lang/invoke/VarHandle"), (by decide +kernel : (parseMethodDescriptor yX11_isAlikeBy.desc).map (fun d => d.parameters.length) = some 3)⟩, Nat.le_of_ble_eq_true rfl⟩
noncomputable def j_X11_isAlikeBy_108 (i2 : Int32) (σ11 : Mem) : Option ((Mem × Int32) ⊕ (Bool × Mem)) :=
  some (Sum.inl (σ11, i2 + 1))
noncomputable def j_X11_isAlikeBy_102 (i13 : Int32) (σ15 : Mem) : Option ((Mem × Int32) ⊕ (Mem ⊕ ((Mem × Int32) ⊕ (Bool × Mem)))) :=
  some (Sum.inl (σ15, i13 + 1))
noncomputable def l_X11_isAlikeBy_49 (i2 : Int32) (b9 : Bool) (σ12 : Mem) (i13 : Int32) : Option ((Mem × Int32) ⊕ (Mem ⊕ ((Mem × Int32) ⊕ (Bool × Mem)))) :=
  (f_X11_n σ12).bind (fun (v14 : Int32) => if v14 ≤ i13 then (some (Sum.inr (Sum.inl σ12))) else (if b9 then (if i2 = 0 then ((f_X11_letters σ12 i13).bind (fun (v18 : Int32) => pI σ12 310 i13 v18 (fun (σ19 : Mem) => some (Sum.inl σ19)))) else (gI σ12 310 i13 (fun (v16 : Int32) => (f_X11_letters σ12 i13).bind (fun (v17 : Int32) => if v16 = v17 then (some (Sum.inl σ12)) else (some (Sum.inr (Sum.inr (Sum.inr (Sum.inr (false, σ12))))))))) : Option (Mem ⊕ ((Mem × Int32) ⊕ (Mem ⊕ ((Mem × Int32) ⊕ (Bool × Mem)))))).bind (Sum.elim (fun (z15 : Mem) => j_X11_isAlikeBy_102 i13 z15) some) else some (Sum.inr (Sum.inl σ12))))
noncomputable def l_X11_isAlikeBy_3 (x0 : Int32) (x1 : Int32) (x2 : Int32) (σ1 : Mem) (i2 : Int32) : Option ((Mem × Int32) ⊕ (Bool × Mem)) :=
  if 2 ≤ i2 then (some (Sum.inr (true, σ1))) else (pF σ1 306 6 0 (fun (σ3 : Mem) => pF σ3 306 7 0 (fun (σ4 : Mem) => (f_X11_writes σ4 x0).bind (fun (σ5 : Mem) => (f_X11_writes σ5 x1).bind (fun (σ6 : Mem) => (f_X11_writes σ6 x2).bind (fun (σ7 : Mem) => (f_X11_exchanges σ7 i2).bind (fun (σ8 : Mem) => bq (f_X11_collects σ8) (fun (b9 : Bool) (σ10 : Mem) => (loopO (fun (z13 : (Mem × Int32)) => l_X11_isAlikeBy_49 i2 b9 z13.1 z13.2) (σ10, 0) : Option (Mem ⊕ ((Mem × Int32) ⊕ (Bool × Mem)))).bind (Sum.elim (fun (z11 : Mem) => j_X11_isAlikeBy_108 i2 z11) some)))))))))
noncomputable def f_X11_isAlikeBy (σ : Mem) (x0 : Int32) (x1 : Int32) (x2 : Int32) : Option (Bool × Mem) :=
  loopO (fun (z2 : (Mem × Int32)) => l_X11_isAlikeBy_3 x0 x1 x2 z2.1 z2.2) (σ, 0)
theorem t_X11_isAlikeBy {w : Wd} (hw : WOK w) (hN : wn w = NT) {σ : Mem} {x0 : Int32} {x1 : Int32} {x2 : Int32} : JO w mu_X11_isAlikeBy vB σ [(0, .ref (adr w 306)), (1, .int x0), (2, .int x1), (3, .int x2)] [] 0 (f_X11_isAlikeBy σ x0 x1 x2) some := by
  unfold f_X11_isAlikeBy
  refine jo_iconst (pc := 0) dX11_isAlikeBy_0 (ic_i_0) ?_
  refine jo_istore (pc := 1) (lv' := [(4, .int 0), (0, .ref (adr w 306)), (1, .int x0), (2, .int x1), (3, .int x2)]) dX11_isAlikeBy_1 (ltb rfl) rfl ?_
  refine jo_lv (lv' := [(0, .ref (adr w 306)), (1, .int x0), (2, .int x1), (3, .int x2), (4, .int 0)]) [1, 2, 3, 4, 0] rfl ?_
  refine jo_loop (X := (Bool × Mem)) (fun (z2 : (Mem × Int32)) => z2.1) (fun (z2 : (Mem × Int32)) => [(0, .ref (adr w 306)), (1, .int x0), (2, .int x1), (3, .int x2), (4, .int z2.2)]) (body := (fun (z2 : (Mem × Int32)) => l_X11_isAlikeBy_3 x0 x1 x2 z2.1 z2.2)) (fun F3_2 hF3_2 s => ?_) (σ, 0)
  obtain ⟨σ1, i2⟩ := s
  show JO w mu_X11_isAlikeBy vB σ1 [(0, .ref (adr w 306)), (1, .int x0), (2, .int x1), (3, .int x2), (4, .int i2)] [] 3 (l_X11_isAlikeBy_3 x0 x1 x2 σ1 i2) _
  unfold l_X11_isAlikeBy_3
  refine jo_iload (pc := 3) 4 rfl dX11_isAlikeBy_3 ?_
  refine jo_iconst (pc := 5) dX11_isAlikeBy_5 (ic_i_2) ?_
  refine jo_icmp_ge (pc := 6) dX11_isAlikeBy_6 (tgt := 114) rfl ?_ ?_
  · refine jo_iconst (pc := 114) dX11_isAlikeBy_114 (ic_i_1) ?_
    exact jo_breturn (pc := 115) (b := true) rfl rfl dX11_isAlikeBy_115
  · refine jo_aload_n (pc := 9) 0 rfl dX11_isAlikeBy_9 rfl ?_
    refine jo_iconst (pc := 10) dX11_isAlikeBy_10 (ic_i_0) ?_
    refine jo_putf (pc := 11) ok_11_6 okp_11_6 (ik_306 hw hN) gw_1299 dX11_isAlikeBy_11 (fun σ3 => ?_)
    refine jo_aload_n (pc := 14) 0 rfl dX11_isAlikeBy_14 rfl ?_
    refine jo_iconst (pc := 15) dX11_isAlikeBy_15 (ic_i_0) ?_
    refine jo_putf (pc := 16) ok_11_7 okp_11_7 (ik_306 hw hN) gw_1300 dX11_isAlikeBy_16 (fun σ4 => ?_)
    refine jo_aload_n (pc := 19) 0 rfl dX11_isAlikeBy_19 rfl ?_
    refine jo_iload_n (pc := 20) 1 rfl dX11_isAlikeBy_20 rfl ?_
    refine jo_cV_V_i (pc := 21) (μ' := mu_X11_writes) (fx := f_X11_writes σ4 x0) (As := [.int x0]) (c_X11_writes hw hN) (ok_X11_writes) (ltb rfl) (all3 gw_1487 gw_1489 gw_77) (ik_306 hw hN) (by decide) (q := (RX11, TX11, 39)) rfl rfl rfl rfl (Nat.le_of_ble_eq_true rfl) dX11_isAlikeBy_21 (fun σ5 => ?_)
    refine jo_aload_n (pc := 24) 0 rfl dX11_isAlikeBy_24 rfl ?_
    refine jo_iload_n (pc := 25) 2 rfl dX11_isAlikeBy_25 rfl ?_
    refine jo_cV_V_i (pc := 26) (μ' := mu_X11_writes) (fx := f_X11_writes σ5 x1) (As := [.int x1]) (c_X11_writes hw hN) (ok_X11_writes) (ltb rfl) (all3 gw_1487 gw_1489 gw_77) (ik_306 hw hN) (by decide) (q := (RX11, TX11, 39)) rfl rfl rfl rfl (Nat.le_of_ble_eq_true rfl) dX11_isAlikeBy_26 (fun σ6 => ?_)
    refine jo_aload_n (pc := 29) 0 rfl dX11_isAlikeBy_29 rfl ?_
    refine jo_iload_n (pc := 30) 3 rfl dX11_isAlikeBy_30 rfl ?_
    refine jo_cV_V_i (pc := 31) (μ' := mu_X11_writes) (fx := f_X11_writes σ6 x2) (As := [.int x2]) (c_X11_writes hw hN) (ok_X11_writes) (ltb rfl) (all3 gw_1487 gw_1489 gw_77) (ik_306 hw hN) (by decide) (q := (RX11, TX11, 39)) rfl rfl rfl rfl (Nat.le_of_ble_eq_true rfl) dX11_isAlikeBy_31 (fun σ7 => ?_)
    refine jo_aload_n (pc := 34) 0 rfl dX11_isAlikeBy_34 rfl ?_
    refine jo_iload (pc := 35) 4 rfl dX11_isAlikeBy_35 ?_
    refine jo_cV_V_i (pc := 37) (μ' := mu_X11_exchanges) (fx := f_X11_exchanges σ7 i2) (As := [.int i2]) (c_X11_exchanges hw hN) (ok_X11_exchanges) (ltb rfl) (all3 gw_1491 gw_1493 gw_78) (ik_306 hw hN) (by decide) (q := (RX11, TX11, 39)) rfl rfl rfl rfl (Nat.le_of_ble_eq_true rfl) dX11_isAlikeBy_37 (fun σ8 => ?_)
    refine jo_aload_n (pc := 40) 0 rfl dX11_isAlikeBy_40 rfl ?_
    refine jo_cV_Z_i (pc := 41) (μ' := mu_X11_collects) (fx := f_X11_collects σ8) (As := []) (c_X11_collects hw hN) (ok_X11_collects) (ltb rfl) (all3 gw_1499 gw_1501 gw_80) (ik_306 hw hN) (by decide) (q := (RX11, TX11, 39)) rfl rfl rfl rfl (Nat.le_of_ble_eq_true rfl) dX11_isAlikeBy_41 (fun b9 σ10 => ?_)
    refine jo_istore (pc := 44) (lv' := [(5, .int (b2i b9)), (0, .ref (adr w 306)), (1, .int x0), (2, .int x1), (3, .int x2), (4, .int i2)]) dX11_isAlikeBy_44 (ltb rfl) rfl ?_
    refine jo_iconst (pc := 46) dX11_isAlikeBy_46 (ic_i_0) ?_
    refine jo_istore (pc := 47) (lv' := [(6, .int 0), (5, .int (b2i b9)), (0, .ref (adr w 306)), (1, .int x0), (2, .int x1), (3, .int x2), (4, .int i2)]) dX11_isAlikeBy_47 (ltb rfl) rfl ?_
    refine jo_joinS (S := Mem) (fun (z11 : Mem) => z11) (fun (z11 : Mem) => [(0, .ref (adr w 306)), (1, .int x0), (2, .int x1), (3, .int x2), (4, .int i2)]) (fun (z11 : Mem) => []) 108 ?_ (fun h108_11 => ?_)
    · intro σ11
      show JO w mu_X11_isAlikeBy vB σ11 [(0, .ref (adr w 306)), (1, .int x0), (2, .int x1), (3, .int x2), (4, .int i2)] [] 108 (j_X11_isAlikeBy_108 i2 σ11) _
      unfold j_X11_isAlikeBy_108
      refine jo_iinc (pc := 108) (lv' := [(4, .int (i2 + 1)), (0, .ref (adr w 306)), (1, .int x0), (2, .int x1), (3, .int x2)]) 4 rfl dX11_isAlikeBy_108 (congrArg (fun z => i2 + z) (ic_i_1)) (ltb rfl) rfl ?_
      refine jo_goto (pc := 111) dX11_isAlikeBy_111 (tgt := 3) rfl ?_
      refine jo_lv (lv' := [(0, .ref (adr w 306)), (1, .int x0), (2, .int x1), (3, .int x2), (4, .int (i2 + 1))]) [1, 2, 3, 4, 0] rfl ?_
      exact jo_leaf (by rfl) (hF3_2 (σ11, i2 + 1))
    · refine jo_lv (lv' := [(5, .int (b2i b9)), (0, .ref (adr w 306)), (1, .int x0), (2, .int x1), (3, .int x2), (4, .int i2), (6, .int 0)]) [1, 2, 3, 4, 5, 6, 0] rfl ?_
      refine jo_loop (X := Mem ⊕ ((Mem × Int32) ⊕ (Bool × Mem))) (fun (z13 : (Mem × Int32)) => z13.1) (fun (z13 : (Mem × Int32)) => [(5, .int (b2i b9)), (0, .ref (adr w 306)), (1, .int x0), (2, .int x1), (3, .int x2), (4, .int i2), (6, .int z13.2)]) (body := (fun (z13 : (Mem × Int32)) => l_X11_isAlikeBy_49 i2 b9 z13.1 z13.2)) (fun F49_13 hF49_13 s => ?_) (σ10, 0)
      obtain ⟨σ12, i13⟩ := s
      show JO w mu_X11_isAlikeBy vB σ12 [(5, .int (b2i b9)), (0, .ref (adr w 306)), (1, .int x0), (2, .int x1), (3, .int x2), (4, .int i2), (6, .int i13)] [] 49 (l_X11_isAlikeBy_49 i2 b9 σ12 i13) _
      unfold l_X11_isAlikeBy_49
      refine jo_iload (pc := 49) 6 rfl dX11_isAlikeBy_49 ?_
      refine jo_aload_n (pc := 51) 1 rfl dX11_isAlikeBy_51 rfl ?_
      refine jo_cV_I_p (pc := 52) (μ' := mu_X11_n) (fx := f_X11_n σ12) (As := []) (c_X11_n hw hN) (ok_X11_n) (ltb rfl) (all3 gw_1441 gw_1443 gw_68) (ik_306 hw hN) (by decide) (q := (RX11, TX11, 39)) rfl rfl rfl rfl (Nat.le_of_ble_eq_true rfl) dX11_isAlikeBy_52 (fun v14 => ?_)
      refine jo_icmp_ge (pc := 55) dX11_isAlikeBy_55 (tgt := 108) rfl ?_ ?_
      · refine jo_lv (lv' := [(0, .ref (adr w 306)), (1, .int x0), (2, .int x1), (3, .int x2), (4, .int i2)]) [1, 2, 3, 4, 5] rfl ?_
        exact jo_leaf (by rfl) (h108_11 σ12)
      · refine jo_iload (pc := 58) 0 rfl dX11_isAlikeBy_58 ?_
        refine jo_ifz_eq (pc := 60) dX11_isAlikeBy_60 (tgt := 108) rfl ?_ ?_
        · refine jo_lv (lv' := [(0, .ref (adr w 306)), (1, .int x0), (2, .int x1), (3, .int x2), (4, .int i2)]) [1, 2, 3, 4, 5] rfl ?_
          exact jo_leaf (by rfl) (h108_11 σ12)
        · refine jo_iload (pc := 63) 5 rfl dX11_isAlikeBy_63 ?_
          refine jo_joinS (S := Mem) (fun (z15 : Mem) => z15) (fun (z15 : Mem) => [(5, .int (b2i b9)), (0, .ref (adr w 306)), (1, .int x0), (2, .int x1), (3, .int x2), (4, .int i2), (6, .int i13)]) (fun (z15 : Mem) => []) 102 ?_ (fun h102_15 => ?_)
          · intro σ15
            show JO w mu_X11_isAlikeBy vB σ15 [(5, .int (b2i b9)), (0, .ref (adr w 306)), (1, .int x0), (2, .int x1), (3, .int x2), (4, .int i2), (6, .int i13)] [] 102 (j_X11_isAlikeBy_102 i13 σ15) _
            unfold j_X11_isAlikeBy_102
            refine jo_iinc (pc := 102) (lv' := [(6, .int (i13 + 1)), (5, .int (b2i b9)), (0, .ref (adr w 306)), (1, .int x0), (2, .int x1), (3, .int x2), (4, .int i2)]) 6 rfl dX11_isAlikeBy_102 (congrArg (fun z => i13 + z) (ic_i_1)) (ltb rfl) rfl ?_
            refine jo_goto (pc := 105) dX11_isAlikeBy_105 (tgt := 49) rfl ?_
            refine jo_lv (lv' := [(5, .int (b2i b9)), (0, .ref (adr w 306)), (1, .int x0), (2, .int x1), (3, .int x2), (4, .int i2), (6, .int (i13 + 1))]) [1, 2, 3, 4, 5, 6, 0] rfl ?_
            exact jo_leaf (by rfl) (hF49_13 (σ15, i13 + 1))
          · refine jo_if_ne (pc := 65) dX11_isAlikeBy_65 (tgt := 84) rfl ?_ ?_
            · refine jo_aload_n (pc := 84) 1 rfl dX11_isAlikeBy_84 rfl ?_
              refine jo_getrE (pc := 85) ok_11_8 (ik_306 hw hN) rf_306_8 gw_1301 dX11_isAlikeBy_85 ?_
              refine jo_iload (pc := 88) 6 rfl dX11_isAlikeBy_88 ?_
              refine jo_iald (pc := 90) (ik_310 hw hN) dX11_isAlikeBy_90 (fun v16 => ?_)
              refine jo_aload_n (pc := 91) 1 rfl dX11_isAlikeBy_91 rfl ?_
              refine jo_iload (pc := 92) 6 rfl dX11_isAlikeBy_92 ?_
              refine jo_cV_I_p (pc := 94) (μ' := mu_X11_letters) (fx := f_X11_letters σ12 i13) (As := [.int i13]) (c_X11_letters hw hN) (ok_X11_letters) (ltb rfl) (all3 gw_1503 gw_1505 gw_81) (ik_306 hw hN) (by decide) (q := (RX11, TX11, 39)) rfl rfl rfl rfl (Nat.le_of_ble_eq_true rfl) dX11_isAlikeBy_94 (fun v17 => ?_)
              refine jo_icmp_eq (pc := 97) dX11_isAlikeBy_97 (tgt := 102) rfl ?_ ?_
              · exact jo_leaf (by rfl) (h102_15 σ12)
              · refine jo_iconst (pc := 100) dX11_isAlikeBy_100 (ic_i_0) ?_
                exact jo_breturn (pc := 101) (b := false) rfl rfl dX11_isAlikeBy_101
            · refine jo_aload_n (pc := 68) 1 rfl dX11_isAlikeBy_68 rfl ?_
              refine jo_getrE (pc := 69) ok_11_8 (ik_306 hw hN) rf_306_8 gw_1301 dX11_isAlikeBy_69 ?_
              refine jo_iload (pc := 72) 6 rfl dX11_isAlikeBy_72 ?_
              refine jo_aload_n (pc := 74) 1 rfl dX11_isAlikeBy_74 rfl ?_
              refine jo_iload (pc := 75) 6 rfl dX11_isAlikeBy_75 ?_
              refine jo_cV_I_p (pc := 77) (μ' := mu_X11_letters) (fx := f_X11_letters σ12 i13) (As := [.int i13]) (c_X11_letters hw hN) (ok_X11_letters) (ltb rfl) (all3 gw_1503 gw_1505 gw_81) (ik_306 hw hN) (by decide) (q := (RX11, TX11, 39)) rfl rfl rfl rfl (Nat.le_of_ble_eq_true rfl) dX11_isAlikeBy_77 (fun v18 => ?_)
              refine jo_iast (pc := 80) (ik_310 hw hN) dX11_isAlikeBy_80 (fun σ19 => ?_)
              refine jo_goto (pc := 81) dX11_isAlikeBy_81 (tgt := 102) rfl ?_
              exact jo_leaf (by rfl) (h102_15 σ19)
theorem c_X11_isAlikeBy {w : Wd} (hw : WOK w) (hN : wn w = NT) {σ : Mem} {x0 : Int32} {x1 : Int32} {x2 : Int32} : ∀ r σ', f_X11_isAlikeBy σ x0 x1 x2 = some (r, σ') → MC w mu_X11_isAlikeBy (vB r) [.ref (adr w 306), .int x0, .int x1, .int x2] σ σ' := mc_of ok_X11_isAlikeBy rfl (Nat.le_of_ble_eq_true rfl) (t_X11_isAlikeBy hw hN)
abbrev mu_X11_puts : MD := (yX11_puts, cX11_puts, 5, none, 0)
theorem ok_X11_puts : MOK mu_X11_puts 3 := ⟨gw_1522, gw_171, (by decide +kernel : plainFor yX11_puts = true), ⟨(by decide +kernel : yX11_puts.cls ≠ "java/lang/invoke/MethodHandle"), (by decide +kernel : yX11_puts.cls ≠ "java/lang/invoke/VarHandle"), (by decide +kernel : (parseMethodDescriptor yX11_puts.desc).map (fun d => d.parameters.length) = some 3)⟩, Nat.le_of_ble_eq_true rfl⟩
noncomputable def f_X11_puts (σ : Mem) (x0 : Int32) (x1 : Int32) (x2 : Int64) : Option Mem :=
  pL σ 313 ((6 * x0) + x1) x2 (fun (σ1 : Mem) => some σ1)
theorem t_X11_puts {w : Wd} (hw : WOK w) (hN : wn w = NT) {σ : Mem} {x0 : Int32} {x1 : Int32} {x2 : Int64} : JO w mu_X11_puts vV σ [(0, .ref (adr w 306)), (1, .int x0), (2, .int x1), (3, .long x2)] [] 0 (f_X11_puts σ x0 x1 x2) (fun z => some ((), z)) := by
  unfold f_X11_puts
  refine jo_aload_n (pc := 0) 0 rfl dX11_puts_0 rfl ?_
  refine jo_getrE (pc := 1) ok_11_13 (ik_306 hw hN) rf_306_13 gw_1306 dX11_puts_1 ?_
  refine jo_bipush (pc := 4) dX11_puts_4 (ic_b_6) ?_
  refine jo_iload_n (pc := 6) 1 rfl dX11_puts_6 rfl ?_
  refine jo_imul (pc := 7) dX11_puts_7 ?_
  refine jo_iload_n (pc := 8) 2 rfl dX11_puts_8 rfl ?_
  refine jo_iadd (pc := 9) dX11_puts_9 ?_
  refine jo_lload_n (pc := 10) 3 rfl dX11_puts_10 rfl ?_
  refine jo_last (pc := 11) (ik_313 hw hN) dX11_puts_11 (fun σ1 => ?_)
  exact jo_return (pc := 12) rfl rfl dX11_puts_12
theorem c_X11_puts {w : Wd} (hw : WOK w) (hN : wn w = NT) {σ : Mem} {x0 : Int32} {x1 : Int32} {x2 : Int64} : ∀ σ', f_X11_puts σ x0 x1 x2 = some σ' → MC w mu_X11_puts none [.ref (adr w 306), .int x0, .int x1, .long x2] σ σ' := mc_ofV ok_X11_puts rfl (Nat.le_of_ble_eq_true rfl) (t_X11_puts hw hN)
abbrev mu_X11_of : MD := (yX11_of, cX11_of, 3, some .long, 0)
theorem ok_X11_of : MOK mu_X11_of 2 := ⟨gw_1530, gw_171, (by decide +kernel : plainFor yX11_of = true), ⟨(by decide +kernel : yX11_of.cls ≠ "java/lang/invoke/MethodHandle"), (by decide +kernel : yX11_of.cls ≠ "java/lang/invoke/VarHandle"), (by decide +kernel : (parseMethodDescriptor yX11_of.desc).map (fun d => d.parameters.length) = some 2)⟩, Nat.le_of_ble_eq_true rfl⟩
noncomputable def f_X11_of (σ : Mem) (x0 : Int32) (x1 : Int32) : Option Int64 :=
  gL σ 313 ((6 * x0) + x1) (fun (v1 : Int64) => some v1)
theorem t_X11_of {w : Wd} (hw : WOK w) (hN : wn w = NT) {σ : Mem} {x0 : Int32} {x1 : Int32} : JO w mu_X11_of vL σ [(0, .ref (adr w 306)), (1, .int x0), (2, .int x1)] [] 0 (f_X11_of σ x0 x1) (fun z => some (z, σ)) := by
  unfold f_X11_of
  refine jo_aload_n (pc := 0) 0 rfl dX11_of_0 rfl ?_
  refine jo_getrE (pc := 1) ok_11_13 (ik_306 hw hN) rf_306_13 gw_1306 dX11_of_1 ?_
  refine jo_bipush (pc := 4) dX11_of_4 (ic_b_6) ?_
  refine jo_iload_n (pc := 6) 1 rfl dX11_of_6 rfl ?_
  refine jo_imul (pc := 7) dX11_of_7 ?_
  refine jo_iload_n (pc := 8) 2 rfl dX11_of_8 rfl ?_
  refine jo_iadd (pc := 9) dX11_of_9 ?_
  refine jo_lald (pc := 10) (ik_313 hw hN) dX11_of_10 (fun v1 => ?_)
  exact jo_lreturn (pc := 11) rfl rfl dX11_of_11
theorem c_X11_of {w : Wd} (hw : WOK w) (hN : wn w = NT) {σ : Mem} {x0 : Int32} {x1 : Int32} : ∀ r, f_X11_of σ x0 x1 = some r → MC w mu_X11_of (vL r) [.ref (adr w 306), .int x0, .int x1] σ σ := mc_ofP ok_X11_of rfl (Nat.le_of_ble_eq_true rfl) (t_X11_of hw hN)
abbrev mu_X11_passesTwo : MD := (yX11_passesTwo, cX11_passesTwo, 7, none, 1)
theorem ok_X11_passesTwo : MOK mu_X11_passesTwo 4 := ⟨gw_1538, gw_171, (by decide +kernel : plainFor yX11_passesTwo = true), ⟨(by decide +kernel : yX11_passesTwo.cls ≠ "java/lang/invoke/MethodHandle"), (by decide +kernel : yX11_passesTwo.cls ≠ "java/lang/invoke/VarHandle"), (by decide +kernel : (parseMethodDescriptor yX11_passesTwo.desc).map (fun d => d.parameters.length) = some 4)⟩, Nat.le_of_ble_eq_true rfl⟩
noncomputable def l_X11_passesTwo_5 (x0 : Int32) (x1 : Int32) (x2 : Int32) (x3 : Int64) (σ2 : Mem) (i3 : Int32) : Option ((Mem × Int32) ⊕ Mem) :=
  (f_X11_n σ2).bind (fun (v4 : Int32) => if v4 ≤ i3 then (some (Sum.inr σ2)) else ((f_X11_of σ2 x0 i3).bind (fun (v5 : Int64) => (f_X11_tail σ2 x1 x2 i3).bind (fun (v6 : Int32) => (f_X11_puts σ2 x0 i3 (v5 + ((Int32.toInt64 v6) * x3))).bind (fun (σ7 : Mem) => some (Sum.inl (σ7, i3 + 1)))))))
noncomputable def f_X11_passesTwo (σ : Mem) (x0 : Int32) (x1 : Int32) (x2 : Int32) (x3 : Int64) : Option Mem :=
  bd (x1 + 1) (fun (v1 : Int32) => loopO (fun (z3 : (Mem × Int32)) => l_X11_passesTwo_5 x0 x1 x2 x3 z3.1 z3.2) (σ, v1))
theorem t_X11_passesTwo {w : Wd} (hw : WOK w) (hN : wn w = NT) {σ : Mem} {x0 : Int32} {x1 : Int32} {x2 : Int32} {x3 : Int64} : JO w mu_X11_passesTwo vV σ [(0, .ref (adr w 306)), (1, .int x0), (2, .int x1), (3, .int x2), (4, .long x3)] [] 0 (f_X11_passesTwo σ x0 x1 x2 x3) (fun z => some ((), z)) := by
  unfold f_X11_passesTwo
  refine jo_iload_n (pc := 0) 2 rfl dX11_passesTwo_0 rfl ?_
  refine jo_iconst (pc := 1) dX11_passesTwo_1 (ic_i_1) ?_
  refine jo_iadd (pc := 2) dX11_passesTwo_2 ?_
  refine jo_bd ?_
  refine jo_istore (pc := 3) (lv' := [(6, .int (x1 + 1)), (0, .ref (adr w 306)), (1, .int x0), (2, .int x1), (3, .int x2), (4, .long x3)]) dX11_passesTwo_3 (ltb rfl) rfl ?_
  generalize (x1 + 1) = v1
  refine jo_lv (lv' := [(0, .ref (adr w 306)), (1, .int x0), (2, .int x1), (3, .int x2), (4, .long x3), (6, .int v1)]) [1, 2, 3, 4, 5, 0] rfl ?_
  refine jo_loop (X := Mem) (fun (z3 : (Mem × Int32)) => z3.1) (fun (z3 : (Mem × Int32)) => [(0, .ref (adr w 306)), (1, .int x0), (2, .int x1), (3, .int x2), (4, .long x3), (6, .int z3.2)]) (body := (fun (z3 : (Mem × Int32)) => l_X11_passesTwo_5 x0 x1 x2 x3 z3.1 z3.2)) (fun F5_3 hF5_3 s => ?_) (σ, v1)
  obtain ⟨σ2, i3⟩ := s
  show JO w mu_X11_passesTwo vV σ2 [(0, .ref (adr w 306)), (1, .int x0), (2, .int x1), (3, .int x2), (4, .long x3), (6, .int i3)] [] 5 (l_X11_passesTwo_5 x0 x1 x2 x3 σ2 i3) _
  unfold l_X11_passesTwo_5
  refine jo_iload (pc := 5) 5 rfl dX11_passesTwo_5 ?_
  refine jo_aload_n (pc := 7) 0 rfl dX11_passesTwo_7 rfl ?_
  refine jo_cV_I_p (pc := 8) (μ' := mu_X11_n) (fx := f_X11_n σ2) (As := []) (c_X11_n hw hN) (ok_X11_n) (ltb rfl) (all3 gw_1441 gw_1443 gw_68) (ik_306 hw hN) (by decide) (q := (RX11, TX11, 39)) rfl rfl rfl rfl (Nat.le_of_ble_eq_true rfl) dX11_passesTwo_8 (fun v4 => ?_)
  refine jo_icmp_ge (pc := 11) dX11_passesTwo_11 (tgt := 47) rfl ?_ ?_
  · exact jo_return (pc := 47) rfl rfl dX11_passesTwo_47
  · refine jo_aload_n (pc := 14) 0 rfl dX11_passesTwo_14 rfl ?_
    refine jo_iload_n (pc := 15) 1 rfl dX11_passesTwo_15 rfl ?_
    refine jo_iload (pc := 16) 5 rfl dX11_passesTwo_16 ?_
    refine jo_aload_n (pc := 18) 0 rfl dX11_passesTwo_18 rfl ?_
    refine jo_iload_n (pc := 19) 1 rfl dX11_passesTwo_19 rfl ?_
    refine jo_iload (pc := 20) 5 rfl dX11_passesTwo_20 ?_
    refine jo_cV_J_p (pc := 22) (μ' := mu_X11_of) (fx := f_X11_of σ2 x0 i3) (As := [.int x0, .int i3]) (c_X11_of hw hN) (ok_X11_of) (ltb rfl) (all3 gw_1527 gw_1529 gw_87) (ik_306 hw hN) (by decide) (q := (RX11, TX11, 39)) rfl rfl rfl rfl (Nat.le_of_ble_eq_true rfl) dX11_passesTwo_22 (fun v5 => ?_)
    refine jo_aload_n (pc := 25) 0 rfl dX11_passesTwo_25 rfl ?_
    refine jo_iload_n (pc := 26) 2 rfl dX11_passesTwo_26 rfl ?_
    refine jo_iload_n (pc := 27) 3 rfl dX11_passesTwo_27 rfl ?_
    refine jo_iload (pc := 28) 5 rfl dX11_passesTwo_28 ?_
    refine jo_cV_I_p (pc := 30) (μ' := mu_X11_tail) (fx := f_X11_tail σ2 x1 x2 i3) (As := [.int x1, .int x2, .int i3]) (c_X11_tail hw hN) (ok_X11_tail) (ltb rfl) (all3 gw_1495 gw_1497 gw_79) (ik_306 hw hN) (by decide) (q := (RX11, TX11, 39)) rfl rfl rfl rfl (Nat.le_of_ble_eq_true rfl) dX11_passesTwo_30 (fun v6 => ?_)
    refine jo_i2l (pc := 33) dX11_passesTwo_33 ?_
    refine jo_lload (pc := 34) 4 rfl dX11_passesTwo_34 ?_
    refine jo_lmul (pc := 36) dX11_passesTwo_36 ?_
    refine jo_ladd (pc := 37) dX11_passesTwo_37 ?_
    refine jo_cV_V_i (pc := 38) (μ' := mu_X11_puts) (fx := f_X11_puts σ2 x0 i3 (v5 + ((Int32.toInt64 v6) * x3))) (As := [.int x0, .int i3, .long (v5 + ((Int32.toInt64 v6) * x3))]) (c_X11_puts hw hN) (ok_X11_puts) (ltb rfl) (all3 gw_1519 gw_1521 gw_85) (ik_306 hw hN) (by decide) (q := (RX11, TX11, 39)) rfl rfl rfl rfl (Nat.le_of_ble_eq_true rfl) dX11_passesTwo_38 (fun σ7 => ?_)
    refine jo_iinc (pc := 41) (lv' := [(6, .int (i3 + 1)), (0, .ref (adr w 306)), (1, .int x0), (2, .int x1), (3, .int x2), (4, .long x3)]) 5 rfl dX11_passesTwo_41 (congrArg (fun z => i3 + z) (ic_i_1)) (ltb rfl) rfl ?_
    refine jo_goto (pc := 44) dX11_passesTwo_44 (tgt := 5) rfl ?_
    refine jo_lv (lv' := [(0, .ref (adr w 306)), (1, .int x0), (2, .int x1), (3, .int x2), (4, .long x3), (6, .int (i3 + 1))]) [1, 2, 3, 4, 5, 0] rfl ?_
    exact jo_leaf (by rfl) (hF5_3 (σ7, i3 + 1))
theorem c_X11_passesTwo {w : Wd} (hw : WOK w) (hN : wn w = NT) {σ : Mem} {x0 : Int32} {x1 : Int32} {x2 : Int32} {x3 : Int64} : ∀ σ', f_X11_passesTwo σ x0 x1 x2 x3 = some σ' → MC w mu_X11_passesTwo none [.ref (adr w 306), .int x0, .int x1, .int x2, .long x3] σ σ' := mc_ofV ok_X11_passesTwo rfl (Nat.le_of_ble_eq_true rfl) (t_X11_passesTwo hw hN)
abbrev mu_X11_two : MD := (yX11_two, cX11_two, 3, some .long, 0)
theorem ok_X11_two : MOK mu_X11_two 1 := ⟨gw_1546, gw_171, (by decide +kernel : plainFor yX11_two = true), ⟨(by decide +kernel : yX11_two.cls ≠ "java/lang/invoke/MethodHandle"), (by decide +kernel : yX11_two.cls ≠ "java/lang/invoke/VarHandle"), (by decide +kernel : (parseMethodDescriptor yX11_two.desc).map (fun d => d.parameters.length) = some 1)⟩, Nat.le_of_ble_eq_true rfl⟩
noncomputable def f_X11_two (σ : Mem) (x0 : Int64) : Option Int64 :=
  nzL 2 (some ((x0 * (x0 - 1)) / 2))
theorem t_X11_two {w : Wd} (hw : WOK w) (hN : wn w = NT) {σ : Mem} {x0 : Int64} : JO w mu_X11_two vL σ [(0, .ref (adr w 306)), (1, .long x0)] [] 0 (f_X11_two σ x0) (fun z => some (z, σ)) := by
  unfold f_X11_two
  refine jo_lload_n (pc := 0) 1 rfl dX11_two_0 rfl ?_
  refine jo_lload_n (pc := 1) 1 rfl dX11_two_1 rfl ?_
  refine jo_lconst (pc := 2) dX11_two_2 (ic_l_1) ?_
  refine jo_lsub (pc := 3) dX11_two_3 ?_
  refine jo_lmul (pc := 4) dX11_two_4 ?_
  refine jo_ldc2 (pc := 5) dX11_two_5 gw_1547 ?_
  refine jo_ldiv (pc := 8) dX11_two_8 ?_
  exact jo_lreturn (pc := 9) rfl rfl dX11_two_9
theorem c_X11_two {w : Wd} (hw : WOK w) (hN : wn w = NT) {σ : Mem} {x0 : Int64} : ∀ r, f_X11_two σ x0 = some r → MC w mu_X11_two (vL r) [.ref (adr w 306), .long x0] σ σ := mc_ofP ok_X11_two rfl (Nat.le_of_ble_eq_true rfl) (t_X11_two hw hN)
abbrev mu_X11_passesOne : MD := (yX11_passesOne, cX11_passesOne, 12, none, 1)
theorem ok_X11_passesOne : MOK mu_X11_passesOne 4 := ⟨gw_1542, gw_171, (by decide +kernel : plainFor yX11_passesOne = true), ⟨(by decide +kernel : yX11_passesOne.cls ≠ "java/lang/invoke/MethodHandle"), (by decide +kernel : yX11_passesOne.cls ≠ "java/lang/invoke/VarHandle"), (by decide +kernel : (parseMethodDescriptor yX11_passesOne.desc).map (fun d => d.parameters.length) = some 4)⟩, Nat.le_of_ble_eq_true rfl⟩
noncomputable def j_X11_passesOne_232 (i4 : Int32) (σ7 : Mem) : Option ((Mem × Int32) ⊕ Mem) :=
  some (Sum.inl (σ7, i4 + 1))
noncomputable def j_X11_passesOne_226 (i13 : Int32) (σ22 : Mem) : Option ((Mem × Int32) ⊕ Mem) :=
  some (Sum.inl (σ22, i13 + 1))
noncomputable def l_X11_passesOne_157 (x0 : Int32) (x3 : Int64) (v1 : Int64) (i4 : Int32) (v6 : Int32) (i13 : Int32) (σ23 : Mem) (i24 : Int32) : Option ((Mem × Int32) ⊕ Mem) :=
  (f_X11_n σ23).bind (fun (v25 : Int32) => if v25 ≤ i24 then (some (Sum.inr σ23)) else ((f_X11_weight σ23 i24).bind (fun (v26 : Int32) => if v26 = 1 then (gL σ23 314 i13 (fun (v27 : Int64) => (f_X11_tail σ23 i4 i24 i13).bind (fun (v28 : Int32) => (f_X11_of σ23 x0 i24).bind (fun (v29 : Int64) => pL σ23 314 i13 (v27 + (((((Int32.toInt64 v6) * v1) * x3) * (Int32.toInt64 v28)) * v29)) (fun (σ30 : Mem) => some (Sum.inl (σ30, i24 + 1))))))) else (some (Sum.inr σ23)))))
noncomputable def l_X11_passesOne_83 (x0 : Int32) (x1 : Int32) (x2 : Int32) (x3 : Int64) (v1 : Int64) (i4 : Int32) (v6 : Int32) (σ12 : Mem) (i13 : Int32) : Option ((Mem × Int32) ⊕ Mem) :=
  (f_X11_n σ12).bind (fun (v14 : Int32) => if v14 ≤ i13 then (some (Sum.inr σ12)) else (gL σ12 314 i13 (fun (v15 : Int64) => (f_X11_tail σ12 i4 x2 i13).bind (fun (v16 : Int32) => (f_X11_two σ12 x3).bind (fun (v17 : Int64) => (f_X11_tail σ12 i4 x1 i13).bind (fun (v18 : Int32) => (f_X11_two σ12 v1).bind (fun (v19 : Int64) => pL σ12 314 i13 (v15 + ((Int32.toInt64 v6) * ((((Int32.toInt64 v16) * v1) * v17) + (((Int32.toInt64 v18) * x3) * v19)))) (fun (σ20 : Mem) => bd (x1 + 1) (fun (v21 : Int32) => (loopO (fun (z24 : (Mem × Int32)) => l_X11_passesOne_157 x0 x3 v1 i4 v6 i13 z24.1 z24.2) (σ20, v21) : Option Mem).bind (fun (z22 : Mem) => j_X11_passesOne_226 i13 z22))))))))))
noncomputable def l_X11_passesOne_13 (x0 : Int32) (x1 : Int32) (x2 : Int32) (x3 : Int64) (v1 : Int64) (σ3 : Mem) (i4 : Int32) : Option ((Mem × Int32) ⊕ Mem) :=
  (f_X11_n σ3).bind (fun (v5 : Int32) => if v5 ≤ i4 then (some (Sum.inr σ3)) else ((f_X11_tail σ3 x1 x2 i4).bind (fun (v6 : Int32) => (if v6 = 0 then (some σ3) else (gL σ3 314 i4 (fun (v8 : Int64) => pL σ3 314 i4 (v8 + (((Int32.toInt64 v6) * v1) * x3)) (fun (σ9 : Mem) => (f_X11_weight σ9 i4).bind (fun (v10 : Int32) => if v10 ≤ 2 then (bd (i4 + 1) (fun (v11 : Int32) => loopO (fun (z13 : (Mem × Int32)) => l_X11_passesOne_83 x0 x1 x2 x3 v1 i4 v6 z13.1 z13.2) (σ9, v11))) else (some σ9))))) : Option Mem).bind (fun (z7 : Mem) => j_X11_passesOne_232 i4 z7))))
noncomputable def f_X11_passesOne (σ : Mem) (x0 : Int32) (x1 : Int32) (x2 : Int32) (x3 : Int64) : Option Mem :=
  (f_X11_of σ x0 x1).bind (fun (v1 : Int64) => bd (x1 + 1) (fun (v2 : Int32) => loopO (fun (z4 : (Mem × Int32)) => l_X11_passesOne_13 x0 x1 x2 x3 v1 z4.1 z4.2) (σ, v2)))
theorem t_X11_passesOne {w : Wd} (hw : WOK w) (hN : wn w = NT) {σ : Mem} {x0 : Int32} {x1 : Int32} {x2 : Int32} {x3 : Int64} : JO w mu_X11_passesOne vV σ [(0, .ref (adr w 306)), (1, .int x0), (2, .int x1), (3, .int x2), (4, .long x3)] [] 0 (f_X11_passesOne σ x0 x1 x2 x3) (fun z => some ((), z)) := by
  unfold f_X11_passesOne
  refine jo_aload_n (pc := 0) 0 rfl dX11_passesOne_0 rfl ?_
  refine jo_iload_n (pc := 1) 1 rfl dX11_passesOne_1 rfl ?_
  refine jo_iload_n (pc := 2) 2 rfl dX11_passesOne_2 rfl ?_
  refine jo_cV_J_p (pc := 3) (μ' := mu_X11_of) (fx := f_X11_of σ x0 x1) (As := [.int x0, .int x1]) (c_X11_of hw hN) (ok_X11_of) (ltb rfl) (all3 gw_1527 gw_1529 gw_87) (ik_306 hw hN) (by decide) (q := (RX11, TX11, 39)) rfl rfl rfl rfl (Nat.le_of_ble_eq_true rfl) dX11_passesOne_3 (fun v1 => ?_)
  refine jo_lstore (pc := 6) (lv' := [(6, .long v1), (0, .ref (adr w 306)), (1, .int x0), (2, .int x1), (3, .int x2), (4, .long x3)]) dX11_passesOne_6 (ltb rfl) rfl ?_
  refine jo_iload_n (pc := 8) 3 rfl dX11_passesOne_8 rfl ?_
  refine jo_iconst (pc := 9) dX11_passesOne_9 (ic_i_1) ?_
  refine jo_iadd (pc := 10) dX11_passesOne_10 ?_
  refine jo_bd ?_
  refine jo_istore (pc := 11) (lv' := [(8, .int (x1 + 1)), (6, .long v1), (0, .ref (adr w 306)), (1, .int x0), (2, .int x1), (3, .int x2), (4, .long x3)]) dX11_passesOne_11 (ltb rfl) rfl ?_
  generalize (x1 + 1) = v2
  refine jo_lv (lv' := [(6, .long v1), (0, .ref (adr w 306)), (1, .int x0), (2, .int x1), (3, .int x2), (4, .long x3), (8, .int v2)]) [1, 2, 3, 4, 5, 6, 0] rfl ?_
  refine jo_loop (X := Mem) (fun (z4 : (Mem × Int32)) => z4.1) (fun (z4 : (Mem × Int32)) => [(6, .long v1), (0, .ref (adr w 306)), (1, .int x0), (2, .int x1), (3, .int x2), (4, .long x3), (8, .int z4.2)]) (body := (fun (z4 : (Mem × Int32)) => l_X11_passesOne_13 x0 x1 x2 x3 v1 z4.1 z4.2)) (fun F13_4 hF13_4 s => ?_) (σ, v2)
  obtain ⟨σ3, i4⟩ := s
  show JO w mu_X11_passesOne vV σ3 [(6, .long v1), (0, .ref (adr w 306)), (1, .int x0), (2, .int x1), (3, .int x2), (4, .long x3), (8, .int i4)] [] 13 (l_X11_passesOne_13 x0 x1 x2 x3 v1 σ3 i4) _
  unfold l_X11_passesOne_13
  refine jo_iload (pc := 13) 6 rfl dX11_passesOne_13 ?_
  refine jo_aload_n (pc := 15) 1 rfl dX11_passesOne_15 rfl ?_
  refine jo_cV_I_p (pc := 16) (μ' := mu_X11_n) (fx := f_X11_n σ3) (As := []) (c_X11_n hw hN) (ok_X11_n) (ltb rfl) (all3 gw_1441 gw_1443 gw_68) (ik_306 hw hN) (by decide) (q := (RX11, TX11, 39)) rfl rfl rfl rfl (Nat.le_of_ble_eq_true rfl) dX11_passesOne_16 (fun v5 => ?_)
  refine jo_icmp_ge (pc := 19) dX11_passesOne_19 (tgt := 238) rfl ?_ ?_
  · exact jo_return (pc := 238) rfl rfl dX11_passesOne_238
  · refine jo_aload_n (pc := 22) 1 rfl dX11_passesOne_22 rfl ?_
    refine jo_iload_n (pc := 23) 3 rfl dX11_passesOne_23 rfl ?_
    refine jo_iload_n (pc := 24) 4 rfl dX11_passesOne_24 rfl ?_
    refine jo_iload (pc := 25) 6 rfl dX11_passesOne_25 ?_
    refine jo_cV_I_p (pc := 27) (μ' := mu_X11_tail) (fx := f_X11_tail σ3 x1 x2 i4) (As := [.int x1, .int x2, .int i4]) (c_X11_tail hw hN) (ok_X11_tail) (ltb rfl) (all3 gw_1495 gw_1497 gw_79) (ik_306 hw hN) (by decide) (q := (RX11, TX11, 39)) rfl rfl rfl rfl (Nat.le_of_ble_eq_true rfl) dX11_passesOne_27 (fun v6 => ?_)
    refine jo_istore (pc := 30) (lv' := [(9, .int v6), (6, .long v1), (0, .ref (adr w 306)), (1, .int x0), (2, .int x1), (3, .int x2), (4, .long x3), (8, .int i4)]) dX11_passesOne_30 (ltb rfl) rfl ?_
    refine jo_iload (pc := 32) 0 rfl dX11_passesOne_32 ?_
    refine jo_join1 (S := Mem) (fun (z7 : Mem) => z7) (fun (z7 : Mem) => [(6, .long v1), (0, .ref (adr w 306)), (1, .int x0), (2, .int x1), (3, .int x2), (4, .long x3), (8, .int i4)]) (fun (z7 : Mem) => []) 232 ?_ (fun h232_7 => ?_)
    · intro σ7
      show JO w mu_X11_passesOne vV σ7 [(6, .long v1), (0, .ref (adr w 306)), (1, .int x0), (2, .int x1), (3, .int x2), (4, .long x3), (8, .int i4)] [] 232 (j_X11_passesOne_232 i4 σ7) _
      unfold j_X11_passesOne_232
      refine jo_iinc (pc := 232) (lv' := [(8, .int (i4 + 1)), (6, .long v1), (0, .ref (adr w 306)), (1, .int x0), (2, .int x1), (3, .int x2), (4, .long x3)]) 6 rfl dX11_passesOne_232 (congrArg (fun z => i4 + z) (ic_i_1)) (ltb rfl) rfl ?_
      refine jo_goto (pc := 235) dX11_passesOne_235 (tgt := 13) rfl ?_
      refine jo_lv (lv' := [(6, .long v1), (0, .ref (adr w 306)), (1, .int x0), (2, .int x1), (3, .int x2), (4, .long x3), (8, .int (i4 + 1))]) [1, 2, 3, 4, 5, 6, 0] rfl ?_
      exact jo_leaf (by rfl) (hF13_4 (σ7, i4 + 1))
    · refine jo_if_ne (pc := 34) dX11_passesOne_34 (tgt := 40) rfl ?_ ?_
      · refine jo_aload_n (pc := 40) 2 rfl dX11_passesOne_40 rfl ?_
        refine jo_getrE (pc := 41) ok_11_14 (ik_306 hw hN) rf_306_14 gw_1307 dX11_passesOne_41 ?_
        refine jo_iload (pc := 44) 7 rfl dX11_passesOne_44 ?_
        refine jo_aload_n (pc := 46) 2 rfl dX11_passesOne_46 rfl ?_
        refine jo_getrE (pc := 47) ok_11_14 (ik_306 hw hN) rf_306_14 gw_1307 dX11_passesOne_47 ?_
        refine jo_iload (pc := 50) 7 rfl dX11_passesOne_50 ?_
        refine jo_lald (pc := 52) (ik_314 hw hN) dX11_passesOne_52 (fun v8 => ?_)
        refine jo_iload (pc := 53) 0 rfl dX11_passesOne_53 ?_
        refine jo_i2l (pc := 55) dX11_passesOne_55 ?_
        refine jo_lload (pc := 56) 1 rfl dX11_passesOne_56 ?_
        refine jo_lmul (pc := 58) dX11_passesOne_58 ?_
        refine jo_lload (pc := 59) 6 rfl dX11_passesOne_59 ?_
        refine jo_lmul (pc := 61) dX11_passesOne_61 ?_
        refine jo_ladd (pc := 62) dX11_passesOne_62 ?_
        refine jo_last (pc := 63) (ik_314 hw hN) dX11_passesOne_63 (fun σ9 => ?_)
        refine jo_aload_n (pc := 64) 2 rfl dX11_passesOne_64 rfl ?_
        refine jo_iload (pc := 65) 7 rfl dX11_passesOne_65 ?_
        refine jo_cV_I_p (pc := 67) (μ' := mu_X11_weight) (fx := f_X11_weight σ9 i4) (As := [.int i4]) (c_X11_weight hw hN) (ok_X11_weight) (ltb rfl) (all3 gw_1446 gw_1448 gw_69) (ik_306 hw hN) (by decide) (q := (RX11, TX11, 39)) rfl rfl rfl rfl (Nat.le_of_ble_eq_true rfl) dX11_passesOne_67 (fun v10 => ?_)
        refine jo_iconst (pc := 70) dX11_passesOne_70 (ic_i_2) ?_
        refine jo_icmp_le (pc := 71) dX11_passesOne_71 (tgt := 77) rfl ?_ ?_
        · refine jo_iload (pc := 77) 7 rfl dX11_passesOne_77 ?_
          refine jo_iconst (pc := 79) dX11_passesOne_79 (ic_i_1) ?_
          refine jo_iadd (pc := 80) dX11_passesOne_80 ?_
          refine jo_bd ?_
          refine jo_istore (pc := 81) (lv' := [(10, .int (i4 + 1)), (9, .int v6), (6, .long v1), (0, .ref (adr w 306)), (1, .int x0), (2, .int x1), (3, .int x2), (4, .long x3), (8, .int i4)]) dX11_passesOne_81 (ltb rfl) rfl ?_
          generalize (i4 + 1) = v11
          refine jo_lv (lv' := [(9, .int v6), (6, .long v1), (0, .ref (adr w 306)), (1, .int x0), (2, .int x1), (3, .int x2), (4, .long x3), (8, .int i4), (10, .int v11)]) [1, 2, 3, 4, 5, 6, 7, 8, 0] rfl ?_
          refine jo_loop (X := Mem) (fun (z13 : (Mem × Int32)) => z13.1) (fun (z13 : (Mem × Int32)) => [(9, .int v6), (6, .long v1), (0, .ref (adr w 306)), (1, .int x0), (2, .int x1), (3, .int x2), (4, .long x3), (8, .int i4), (10, .int z13.2)]) (body := (fun (z13 : (Mem × Int32)) => l_X11_passesOne_83 x0 x1 x2 x3 v1 i4 v6 z13.1 z13.2)) (fun F83_13 hF83_13 s => ?_) (σ9, v11)
          obtain ⟨σ12, i13⟩ := s
          show JO w mu_X11_passesOne vV σ12 [(9, .int v6), (6, .long v1), (0, .ref (adr w 306)), (1, .int x0), (2, .int x1), (3, .int x2), (4, .long x3), (8, .int i4), (10, .int i13)] [] 83 (l_X11_passesOne_83 x0 x1 x2 x3 v1 i4 v6 σ12 i13) _
          unfold l_X11_passesOne_83
          refine jo_iload (pc := 83) 8 rfl dX11_passesOne_83 ?_
          refine jo_aload_n (pc := 85) 2 rfl dX11_passesOne_85 rfl ?_
          refine jo_cV_I_p (pc := 86) (μ' := mu_X11_n) (fx := f_X11_n σ12) (As := []) (c_X11_n hw hN) (ok_X11_n) (ltb rfl) (all3 gw_1441 gw_1443 gw_68) (ik_306 hw hN) (by decide) (q := (RX11, TX11, 39)) rfl rfl rfl rfl (Nat.le_of_ble_eq_true rfl) dX11_passesOne_86 (fun v14 => ?_)
          refine jo_icmp_ge (pc := 89) dX11_passesOne_89 (tgt := 232) rfl ?_ ?_
          · refine jo_lv (lv' := [(6, .long v1), (0, .ref (adr w 306)), (1, .int x0), (2, .int x1), (3, .int x2), (4, .long x3), (8, .int i4)]) [1, 2, 3, 4, 5, 6, 7] rfl ?_
            exact jo_leaf (by rfl) (h232_7 σ12)
          · refine jo_aload_n (pc := 92) 2 rfl dX11_passesOne_92 rfl ?_
            refine jo_getrE (pc := 93) ok_11_14 (ik_306 hw hN) rf_306_14 gw_1307 dX11_passesOne_93 ?_
            refine jo_iload (pc := 96) 8 rfl dX11_passesOne_96 ?_
            refine jo_aload_n (pc := 98) 2 rfl dX11_passesOne_98 rfl ?_
            refine jo_getrE (pc := 99) ok_11_14 (ik_306 hw hN) rf_306_14 gw_1307 dX11_passesOne_99 ?_
            refine jo_iload (pc := 102) 8 rfl dX11_passesOne_102 ?_
            refine jo_lald (pc := 104) (ik_314 hw hN) dX11_passesOne_104 (fun v15 => ?_)
            refine jo_iload (pc := 105) 0 rfl dX11_passesOne_105 ?_
            refine jo_i2l (pc := 107) dX11_passesOne_107 ?_
            refine jo_aload_n (pc := 108) 2 rfl dX11_passesOne_108 rfl ?_
            refine jo_iload (pc := 109) 7 rfl dX11_passesOne_109 ?_
            refine jo_iload_n (pc := 111) 5 rfl dX11_passesOne_111 rfl ?_
            refine jo_iload (pc := 112) 8 rfl dX11_passesOne_112 ?_
            refine jo_cV_I_p (pc := 114) (μ' := mu_X11_tail) (fx := f_X11_tail σ12 i4 x2 i13) (As := [.int i4, .int x2, .int i13]) (c_X11_tail hw hN) (ok_X11_tail) (ltb rfl) (all3 gw_1495 gw_1497 gw_79) (ik_306 hw hN) (by decide) (q := (RX11, TX11, 39)) rfl rfl rfl rfl (Nat.le_of_ble_eq_true rfl) dX11_passesOne_114 (fun v16 => ?_)
            refine jo_i2l (pc := 117) dX11_passesOne_117 ?_
            refine jo_lload (pc := 118) 1 rfl dX11_passesOne_118 ?_
            refine jo_lmul (pc := 120) dX11_passesOne_120 ?_
            refine jo_aload_n (pc := 121) 2 rfl dX11_passesOne_121 rfl ?_
            refine jo_lload (pc := 122) 6 rfl dX11_passesOne_122 ?_
            refine jo_cV_J_p (pc := 124) (μ' := mu_X11_two) (fx := f_X11_two σ12 x3) (As := [.long x3]) (c_X11_two hw hN) (ok_X11_two) (ltb rfl) (all3 gw_1543 gw_1545 gw_91) (ik_306 hw hN) (by decide) (q := (RX11, TX11, 39)) rfl rfl rfl rfl (Nat.le_of_ble_eq_true rfl) dX11_passesOne_124 (fun v17 => ?_)
            refine jo_lmul (pc := 127) dX11_passesOne_127 ?_
            refine jo_aload_n (pc := 128) 2 rfl dX11_passesOne_128 rfl ?_
            refine jo_iload (pc := 129) 7 rfl dX11_passesOne_129 ?_
            refine jo_iload_n (pc := 131) 4 rfl dX11_passesOne_131 rfl ?_
            refine jo_iload (pc := 132) 8 rfl dX11_passesOne_132 ?_
            refine jo_cV_I_p (pc := 134) (μ' := mu_X11_tail) (fx := f_X11_tail σ12 i4 x1 i13) (As := [.int i4, .int x1, .int i13]) (c_X11_tail hw hN) (ok_X11_tail) (ltb rfl) (all3 gw_1495 gw_1497 gw_79) (ik_306 hw hN) (by decide) (q := (RX11, TX11, 39)) rfl rfl rfl rfl (Nat.le_of_ble_eq_true rfl) dX11_passesOne_134 (fun v18 => ?_)
            refine jo_i2l (pc := 137) dX11_passesOne_137 ?_
            refine jo_lload (pc := 138) 6 rfl dX11_passesOne_138 ?_
            refine jo_lmul (pc := 140) dX11_passesOne_140 ?_
            refine jo_aload_n (pc := 141) 2 rfl dX11_passesOne_141 rfl ?_
            refine jo_lload (pc := 142) 1 rfl dX11_passesOne_142 ?_
            refine jo_cV_J_pW (pc := 144) (μ' := mu_X11_two) (fx := f_X11_two σ12 v1) (As := [.long v1]) (c_X11_two hw hN) (ok_X11_two) (ltb rfl) (all3 gw_1543 gw_1545 gw_91) (ik_306 hw hN) (by decide) (q := (RX11, TX11, 39)) rfl rfl rfl rfl (Nat.le_of_ble_eq_true rfl) dX11_passesOne_144 (fun v19 => ?_)
            refine jo_lmul (pc := 147) dX11_passesOne_147 ?_
            refine jo_ladd (pc := 148) dX11_passesOne_148 ?_
            refine jo_lmul (pc := 149) dX11_passesOne_149 ?_
            refine jo_ladd (pc := 150) dX11_passesOne_150 ?_
            refine jo_last (pc := 151) (ik_314 hw hN) dX11_passesOne_151 (fun σ20 => ?_)
            refine jo_iload_n (pc := 152) 4 rfl dX11_passesOne_152 rfl ?_
            refine jo_iconst (pc := 153) dX11_passesOne_153 (ic_i_1) ?_
            refine jo_iadd (pc := 154) dX11_passesOne_154 ?_
            refine jo_bd ?_
            refine jo_istore (pc := 155) (lv' := [(11, .int (x1 + 1)), (9, .int v6), (6, .long v1), (0, .ref (adr w 306)), (1, .int x0), (2, .int x1), (3, .int x2), (4, .long x3), (8, .int i4), (10, .int i13)]) dX11_passesOne_155 (ltb rfl) rfl ?_
            generalize (x1 + 1) = v21
            refine jo_join1 (S := Mem) (fun (z22 : Mem) => z22) (fun (z22 : Mem) => [(9, .int v6), (6, .long v1), (0, .ref (adr w 306)), (1, .int x0), (2, .int x1), (3, .int x2), (4, .long x3), (8, .int i4), (10, .int i13)]) (fun (z22 : Mem) => []) 226 ?_ (fun h226_22 => ?_)
            · intro σ22
              show JO w mu_X11_passesOne vV σ22 [(9, .int v6), (6, .long v1), (0, .ref (adr w 306)), (1, .int x0), (2, .int x1), (3, .int x2), (4, .long x3), (8, .int i4), (10, .int i13)] [] 226 (j_X11_passesOne_226 i13 σ22) _
              unfold j_X11_passesOne_226
              refine jo_iinc (pc := 226) (lv' := [(10, .int (i13 + 1)), (9, .int v6), (6, .long v1), (0, .ref (adr w 306)), (1, .int x0), (2, .int x1), (3, .int x2), (4, .long x3), (8, .int i4)]) 8 rfl dX11_passesOne_226 (congrArg (fun z => i13 + z) (ic_i_1)) (ltb rfl) rfl ?_
              refine jo_goto (pc := 229) dX11_passesOne_229 (tgt := 83) rfl ?_
              refine jo_lv (lv' := [(9, .int v6), (6, .long v1), (0, .ref (adr w 306)), (1, .int x0), (2, .int x1), (3, .int x2), (4, .long x3), (8, .int i4), (10, .int (i13 + 1))]) [1, 2, 3, 4, 5, 6, 7, 8, 0] rfl ?_
              exact jo_leaf (by rfl) (hF83_13 (σ22, i13 + 1))
            · refine jo_lv (lv' := [(9, .int v6), (6, .long v1), (0, .ref (adr w 306)), (1, .int x0), (2, .int x1), (3, .int x2), (4, .long x3), (8, .int i4), (10, .int i13), (11, .int v21)]) [1, 2, 3, 4, 5, 6, 7, 8, 9, 0] rfl ?_
              refine jo_loop (X := Mem) (fun (z24 : (Mem × Int32)) => z24.1) (fun (z24 : (Mem × Int32)) => [(9, .int v6), (6, .long v1), (0, .ref (adr w 306)), (1, .int x0), (2, .int x1), (3, .int x2), (4, .long x3), (8, .int i4), (10, .int i13), (11, .int z24.2)]) (body := (fun (z24 : (Mem × Int32)) => l_X11_passesOne_157 x0 x3 v1 i4 v6 i13 z24.1 z24.2)) (fun F157_24 hF157_24 s => ?_) (σ20, v21)
              obtain ⟨σ23, i24⟩ := s
              show JO w mu_X11_passesOne vV σ23 [(9, .int v6), (6, .long v1), (0, .ref (adr w 306)), (1, .int x0), (2, .int x1), (3, .int x2), (4, .long x3), (8, .int i4), (10, .int i13), (11, .int i24)] [] 157 (l_X11_passesOne_157 x0 x3 v1 i4 v6 i13 σ23 i24) _
              unfold l_X11_passesOne_157
              refine jo_iload (pc := 157) 9 rfl dX11_passesOne_157 ?_
              refine jo_aload_n (pc := 159) 2 rfl dX11_passesOne_159 rfl ?_
              refine jo_cV_I_p (pc := 160) (μ' := mu_X11_n) (fx := f_X11_n σ23) (As := []) (c_X11_n hw hN) (ok_X11_n) (ltb rfl) (all3 gw_1441 gw_1443 gw_68) (ik_306 hw hN) (by decide) (q := (RX11, TX11, 39)) rfl rfl rfl rfl (Nat.le_of_ble_eq_true rfl) dX11_passesOne_160 (fun v25 => ?_)
              refine jo_icmp_ge (pc := 163) dX11_passesOne_163 (tgt := 226) rfl ?_ ?_
              · refine jo_lv (lv' := [(9, .int v6), (6, .long v1), (0, .ref (adr w 306)), (1, .int x0), (2, .int x1), (3, .int x2), (4, .long x3), (8, .int i4), (10, .int i13)]) [0, 1, 2, 3, 4, 5, 6, 7, 8] rfl ?_
                exact jo_leaf (by rfl) (h226_22 σ23)
              · refine jo_aload_n (pc := 166) 2 rfl dX11_passesOne_166 rfl ?_
                refine jo_iload (pc := 167) 9 rfl dX11_passesOne_167 ?_
                refine jo_cV_I_p (pc := 169) (μ' := mu_X11_weight) (fx := f_X11_weight σ23 i24) (As := [.int i24]) (c_X11_weight hw hN) (ok_X11_weight) (ltb rfl) (all3 gw_1446 gw_1448 gw_69) (ik_306 hw hN) (by decide) (q := (RX11, TX11, 39)) rfl rfl rfl rfl (Nat.le_of_ble_eq_true rfl) dX11_passesOne_169 (fun v26 => ?_)
                refine jo_iconst (pc := 172) dX11_passesOne_172 (ic_i_1) ?_
                refine jo_icmp_ne (pc := 173) dX11_passesOne_173 (tgt := 226) rfl ?_ ?_
                · refine jo_lv (lv' := [(9, .int v6), (6, .long v1), (0, .ref (adr w 306)), (1, .int x0), (2, .int x1), (3, .int x2), (4, .long x3), (8, .int i4), (10, .int i13)]) [0, 1, 2, 3, 4, 5, 6, 7, 8] rfl ?_
                  exact jo_leaf (by rfl) (h226_22 σ23)
                · refine jo_aload_n (pc := 176) 2 rfl dX11_passesOne_176 rfl ?_
                  refine jo_getrE (pc := 177) ok_11_14 (ik_306 hw hN) rf_306_14 gw_1307 dX11_passesOne_177 ?_
                  refine jo_iload (pc := 180) 8 rfl dX11_passesOne_180 ?_
                  refine jo_aload_n (pc := 182) 2 rfl dX11_passesOne_182 rfl ?_
                  refine jo_getrE (pc := 183) ok_11_14 (ik_306 hw hN) rf_306_14 gw_1307 dX11_passesOne_183 ?_
                  refine jo_iload (pc := 186) 8 rfl dX11_passesOne_186 ?_
                  refine jo_lald (pc := 188) (ik_314 hw hN) dX11_passesOne_188 (fun v27 => ?_)
                  refine jo_iload (pc := 189) 0 rfl dX11_passesOne_189 ?_
                  refine jo_i2l (pc := 191) dX11_passesOne_191 ?_
                  refine jo_lload (pc := 192) 1 rfl dX11_passesOne_192 ?_
                  refine jo_lmul (pc := 194) dX11_passesOne_194 ?_
                  refine jo_lload (pc := 195) 6 rfl dX11_passesOne_195 ?_
                  refine jo_lmul (pc := 197) dX11_passesOne_197 ?_
                  refine jo_aload_n (pc := 198) 2 rfl dX11_passesOne_198 rfl ?_
                  refine jo_iload (pc := 199) 7 rfl dX11_passesOne_199 ?_
                  refine jo_iload (pc := 201) 9 rfl dX11_passesOne_201 ?_
                  refine jo_iload (pc := 203) 8 rfl dX11_passesOne_203 ?_
                  refine jo_cV_I_p (pc := 205) (μ' := mu_X11_tail) (fx := f_X11_tail σ23 i4 i24 i13) (As := [.int i4, .int i24, .int i13]) (c_X11_tail hw hN) (ok_X11_tail) (ltb rfl) (all3 gw_1495 gw_1497 gw_79) (ik_306 hw hN) (by decide) (q := (RX11, TX11, 39)) rfl rfl rfl rfl (Nat.le_of_ble_eq_true rfl) dX11_passesOne_205 (fun v28 => ?_)
                  refine jo_i2l (pc := 208) dX11_passesOne_208 ?_
                  refine jo_lmul (pc := 209) dX11_passesOne_209 ?_
                  refine jo_aload_n (pc := 210) 2 rfl dX11_passesOne_210 rfl ?_
                  refine jo_iload_n (pc := 211) 3 rfl dX11_passesOne_211 rfl ?_
                  refine jo_iload (pc := 212) 9 rfl dX11_passesOne_212 ?_
                  refine jo_cV_J_p (pc := 214) (μ' := mu_X11_of) (fx := f_X11_of σ23 x0 i24) (As := [.int x0, .int i24]) (c_X11_of hw hN) (ok_X11_of) (ltb rfl) (all3 gw_1527 gw_1529 gw_87) (ik_306 hw hN) (by decide) (q := (RX11, TX11, 39)) rfl rfl rfl rfl (Nat.le_of_ble_eq_true rfl) dX11_passesOne_214 (fun v29 => ?_)
                  refine jo_lmul (pc := 217) dX11_passesOne_217 ?_
                  refine jo_ladd (pc := 218) dX11_passesOne_218 ?_
                  refine jo_last (pc := 219) (ik_314 hw hN) dX11_passesOne_219 (fun σ30 => ?_)
                  refine jo_iinc (pc := 220) (lv' := [(11, .int (i24 + 1)), (9, .int v6), (6, .long v1), (0, .ref (adr w 306)), (1, .int x0), (2, .int x1), (3, .int x2), (4, .long x3), (8, .int i4), (10, .int i13)]) 9 rfl dX11_passesOne_220 (congrArg (fun z => i24 + z) (ic_i_1)) (ltb rfl) rfl ?_
                  refine jo_goto (pc := 223) dX11_passesOne_223 (tgt := 157) rfl ?_
                  refine jo_lv (lv' := [(9, .int v6), (6, .long v1), (0, .ref (adr w 306)), (1, .int x0), (2, .int x1), (3, .int x2), (4, .long x3), (8, .int i4), (10, .int i13), (11, .int (i24 + 1))]) [1, 2, 3, 4, 5, 6, 7, 8, 9, 0] rfl ?_
                  exact jo_leaf (by rfl) (hF157_24 (σ30, i24 + 1))
        · refine jo_goto (pc := 74) dX11_passesOne_74 (tgt := 232) rfl ?_
          refine jo_lv (lv' := [(6, .long v1), (0, .ref (adr w 306)), (1, .int x0), (2, .int x1), (3, .int x2), (4, .long x3), (8, .int i4)]) [1, 2, 3, 4, 5, 6, 7] rfl ?_
          exact jo_leaf (by rfl) (h232_7 σ9)
      · refine jo_goto (pc := 37) dX11_passesOne_37 (tgt := 232) rfl ?_
        refine jo_lv (lv' := [(6, .long v1), (0, .ref (adr w 306)), (1, .int x0), (2, .int x1), (3, .int x2), (4, .long x3), (8, .int i4)]) [1, 2, 3, 4, 5, 6, 7] rfl ?_
        exact jo_leaf (by rfl) (h232_7 σ3)
theorem c_X11_passesOne {w : Wd} (hw : WOK w) (hN : wn w = NT) {σ : Mem} {x0 : Int32} {x1 : Int32} {x2 : Int32} {x3 : Int64} : ∀ σ', f_X11_passesOne σ x0 x1 x2 x3 = some σ' → MC w mu_X11_passesOne none [.ref (adr w 306), .int x0, .int x1, .int x2, .long x3] σ σ' := mc_ofV ok_X11_passesOne rfl (Nat.le_of_ble_eq_true rfl) (t_X11_passesOne hw hN)
