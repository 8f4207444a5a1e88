abbrev mu_X11_text : MD := (yX11_text, cX11_text, 2, some .boolean, 88)
theorem ok_X11_text : MOK mu_X11_text 1 := ⟨gw_1660, gw_171, (by decide +kernel : plainFor yX11_text = true), ⟨(by decide +kernel : yX11_text.cls ≠ "java/lang/invoke/MethodHandle"), (by decide +kernel : yX11_text.cls ≠ "java/lang/invoke/VarHandle"), (by decide +kernel : (parseMethodDescriptor yX11_text.desc).map (fun d => d.parameters.length) = some 1)⟩, Nat.le_of_ble_eq_true rfl⟩
noncomputable def j_X11_text_165 (σ20 : Mem) : Option (Bool × Mem) :=
  some (false, σ20)
noncomputable def j_X11_text_144 (x0 : Int32) (σ18 : Mem) : Option (Bool × Mem) :=
  (f_X11_isWrong σ18).bind (fun (b19 : Bool) => (if b19 then some (Sum.inl σ18) else bq (f_X11_gives σ18 x0 10) (fun (b21 : Bool) (σ22 : Mem) => if b21 then some (Sum.inr (true, σ22)) else some (Sum.inl σ22)) : Option (Mem ⊕ (Bool × Mem))).bind (Sum.elim (fun (z20 : Mem) => j_X11_text_165 z20) some))
noncomputable def j_X11_text_121 (σ16 : Mem) : Option Mem :=
  pF σ16 306 19 5 (fun (σ24 : Mem) => gF σ24 306 24 (fun (v25 : Int32) => pF σ24 306 20 v25 (fun (σ26 : Mem) => gF σ26 306 4 (fun (v27 : Int32) => pF σ26 306 4 (v27 + 1) (fun (σ28 : Mem) => some σ28)))))
noncomputable def j_X11_text_95 (x0 : Int32) (σ16 : Mem) : Option (Bool × Mem) :=
  gF σ16 306 24 (fun (v17 : Int32) => (if v17 = (-1) then (some σ16) else ((f_X11_isWrong σ16).bind (fun (b23 : Bool) => (if b23 then gF σ16 306 20 (fun (v29 : Int32) => gF σ16 306 24 (fun (v30 : Int32) => if v29 < v30 then (some (Sum.inr σ16)) else (some (Sum.inl ())))) else some (Sum.inl ()) : Option (Unit ⊕ Mem)).bind (Sum.elim (fun (z23 : Unit) => j_X11_text_121 σ16) some))) : Option Mem).bind (fun (z18 : Mem) => j_X11_text_144 x0 z18))
noncomputable def f_X11_text (σ : Mem) (x0 : Int32) : Option (Bool × Mem) :=
  pF σ 306 0 0 (fun (σ1 : Mem) => pF σ1 306 21 0 (fun (σ2 : Mem) => gF σ2 306 18 (fun (v3 : Int32) => pF σ2 306 22 v3 (fun (σ4 : Mem) => pF σ4 306 18 0 (fun (σ5 : Mem) => pF σ5 306 19 0 (fun (σ6 : Mem) => pF σ6 306 20 (-1) (fun (σ7 : Mem) => pF σ7 306 24 (-1) (fun (σ8 : Mem) => pF σ8 306 25 0 (fun (σ9 : Mem) => pF σ9 306 23 0 (fun (σ10 : Mem) => (f_X11_isRegister σ10 x0).bind (fun (b11 : Bool) => if b11 then bq (f_X11_isConsistent σ10) (fun (b12 : Bool) (σ13 : Mem) => if b12 then (f_X11_readWord 20 σ13 10).bind (fun (σ14 : Mem) => (f_X11_isWrong σ14).bind (fun (b15 : Bool) => (if b15 then some σ14 else bq (f_X11_behindBlanks σ14) (fun (v31 : Int32) (σ32 : Mem) => if v31 = (-1) then (some σ32) else (gF σ32 306 21 (fun (v33 : Int32) => (f_X11_errs σ32 1 v33).bind (fun (σ34 : Mem) => some σ34)))) : Option Mem).bind (fun (z16 : Mem) => j_X11_text_95 x0 z16))) else some (false, σ13)) else some (false, σ10))))))))))))
theorem t_X11_text {w : Wd} (hw : WOK w) (hN : wn w = NT) {σ : Mem} {x0 : Int32} : JO w mu_X11_text vB σ [(0, .ref (adr w 306)), (1, .int x0)] [] 0 (f_X11_text σ x0) some := by
  unfold f_X11_text
  refine jo_aload_n (pc := 0) 0 rfl dX11_text_0 rfl ?_
  refine jo_iconst (pc := 1) dX11_text_1 (ic_i_0) ?_
  refine jo_putf (pc := 2) ok_11_0 okp_11_0 (ik_306 hw hN) gw_1293 dX11_text_2 (fun σ1 => ?_)
  refine jo_aload_n (pc := 5) 0 rfl dX11_text_5 rfl ?_
  refine jo_iconst (pc := 6) dX11_text_6 (ic_i_0) ?_
  refine jo_putf (pc := 7) ok_11_21 okp_11_21 (ik_306 hw hN) gw_1314 dX11_text_7 (fun σ2 => ?_)
  refine jo_aload_n (pc := 10) 0 rfl dX11_text_10 rfl ?_
  refine jo_aload_n (pc := 11) 0 rfl dX11_text_11 rfl ?_
  refine jo_getf (pc := 12) ok_11_18 (ik_306 hw hN) gw_1311 dX11_text_12 (fun v3 => ?_)
  refine jo_putf (pc := 15) ok_11_22 okp_11_22 (ik_306 hw hN) gw_1315 dX11_text_15 (fun σ4 => ?_)
  refine jo_aload_n (pc := 18) 0 rfl dX11_text_18 rfl ?_
  refine jo_iconst (pc := 19) dX11_text_19 (ic_i_0) ?_
  refine jo_putf (pc := 20) ok_11_18 okp_11_18 (ik_306 hw hN) gw_1311 dX11_text_20 (fun σ5 => ?_)
  refine jo_aload_n (pc := 23) 0 rfl dX11_text_23 rfl ?_
  refine jo_iconst (pc := 24) dX11_text_24 (ic_i_0) ?_
  refine jo_putf (pc := 25) ok_11_19 okp_11_19 (ik_306 hw hN) gw_1312 dX11_text_25 (fun σ6 => ?_)
  refine jo_aload_n (pc := 28) 0 rfl dX11_text_28 rfl ?_
  refine jo_iconst (pc := 29) dX11_text_29 (ic_i_m1) ?_
  refine jo_putf (pc := 30) ok_11_20 okp_11_20 (ik_306 hw hN) gw_1313 dX11_text_30 (fun σ7 => ?_)
  refine jo_aload_n (pc := 33) 0 rfl dX11_text_33 rfl ?_
  refine jo_iconst (pc := 34) dX11_text_34 (ic_i_m1) ?_
  refine jo_putf (pc := 35) ok_11_24 okp_11_24 (ik_306 hw hN) gw_1317 dX11_text_35 (fun σ8 => ?_)
  refine jo_aload_n (pc := 38) 0 rfl dX11_text_38 rfl ?_
  refine jo_iconst (pc := 39) dX11_text_39 (ic_i_0) ?_
  refine jo_putf (pc := 40) ok_11_25 okp_11_25 (ik_306 hw hN) gw_1318 dX11_text_40 (fun σ9 => ?_)
  refine jo_aload_n (pc := 43) 0 rfl dX11_text_43 rfl ?_
  refine jo_iconst (pc := 44) dX11_text_44 (ic_i_0) ?_
  refine jo_putf (pc := 45) ok_11_23 okp_11_23 (ik_306 hw hN) gw_1316 dX11_text_45 (fun σ10 => ?_)
  refine jo_aload_n (pc := 48) 0 rfl dX11_text_48 rfl ?_
  refine jo_iload_n (pc := 49) 1 rfl dX11_text_49 rfl ?_
  refine jo_cV_Z_p (pc := 50) (μ' := mu_X11_isRegister) (fx := f_X11_isRegister σ10 x0) (As := [.int x0]) (c_X11_isRegister hw hN) (ok_X11_isRegister) (ltb rfl) (all3 gw_1470 gw_1472 gw_73) (ik_306 hw hN) (by decide) (q := (RX11, TX11, 39)) rfl rfl rfl rfl (Nat.le_of_ble_eq_true rfl) dX11_text_50 (fun b11 => ?_)
  refine jo_ifz_eq (pc := 53) dX11_text_53 (tgt := 63) rfl ?_ ?_
  · refine jo_iconst (pc := 63) dX11_text_63 (ic_i_0) ?_
    exact jo_breturn (pc := 64) (b := false) rfl rfl dX11_text_64
  · refine jo_aload_n (pc := 56) 0 rfl dX11_text_56 rfl ?_
    refine jo_cV_Z_i (pc := 57) (μ' := mu_X11_isConsistent) (fx := f_X11_isConsistent σ10) (As := []) (c_X11_isConsistent hw hN) (ok_X11_isConsistent) (ltb rfl) (all3 gw_1475 gw_1477 gw_74) (ik_306 hw hN) (by decide) (q := (RX11, TX11, 39)) rfl rfl rfl rfl (Nat.le_of_ble_eq_true rfl) dX11_text_57 (fun b12 σ13 => ?_)
    refine jo_ifz_ne (pc := 60) dX11_text_60 (tgt := 65) rfl ?_ ?_
    · refine jo_aload_n (pc := 65) 0 rfl dX11_text_65 rfl ?_
      refine jo_bipush (pc := 66) dX11_text_66 (ic_b_10) ?_
      refine jo_cV_V_i (pc := 68) (μ' := (mu_X11_readWord 80)) (fx := f_X11_readWord 20 σ13 10) (As := [.int 10]) (c_X11_readWord 20 hw hN) (ok_X11_readWord _) (ltb rfl) (all3 gw_1661 gw_1663 gw_109) (ik_306 hw hN) (by decide) (q := (RX11, TX11, 39)) rfl rfl rfl rfl (Nat.le_of_ble_eq_true rfl) dX11_text_68 (fun σ14 => ?_)
      refine jo_aload_n (pc := 71) 0 rfl dX11_text_71 rfl ?_
      refine jo_cV_Z_p (pc := 72) (μ' := mu_X11_isWrong) (fx := f_X11_isWrong σ14) (As := []) (c_X11_isWrong hw hN) (ok_X11_isWrong) (ltb rfl) (all3 gw_1665 gw_1667 gw_110) (ik_306 hw hN) (by decide) (q := (RX11, TX11, 39)) rfl rfl rfl rfl (Nat.le_of_ble_eq_true rfl) dX11_text_72 (fun b15 => ?_)
      refine jo_join1 (S := Mem) (fun (z16 : Mem) => z16) (fun (z16 : Mem) => [(0, .ref (adr w 306)), (1, .int x0)]) (fun (z16 : Mem) => []) 95 ?_ (fun h95_16 => ?_)
      · intro σ16
        show JO w mu_X11_text vB σ16 [(0, .ref (adr w 306)), (1, .int x0)] [] 95 (j_X11_text_95 x0 σ16) _
        unfold j_X11_text_95
        refine jo_aload_n (pc := 95) 0 rfl dX11_text_95 rfl ?_
        refine jo_getf (pc := 96) ok_11_24 (ik_306 hw hN) gw_1317 dX11_text_96 (fun v17 => ?_)
        refine jo_iconst (pc := 99) dX11_text_99 (ic_i_m1) ?_
        refine jo_join1 (S := Mem) (fun (z18 : Mem) => z18) (fun (z18 : Mem) => [(0, .ref (adr w 306)), (1, .int x0)]) (fun (z18 : Mem) => []) 144 ?_ (fun h144_18 => ?_)
        · intro σ18
          show JO w mu_X11_text vB σ18 [(0, .ref (adr w 306)), (1, .int x0)] [] 144 (j_X11_text_144 x0 σ18) _
          unfold j_X11_text_144
          refine jo_aload_n (pc := 144) 0 rfl dX11_text_144 rfl ?_
          refine jo_cV_Z_p (pc := 145) (μ' := mu_X11_isWrong) (fx := f_X11_isWrong σ18) (As := []) (c_X11_isWrong hw hN) (ok_X11_isWrong) (ltb rfl) (all3 gw_1665 gw_1667 gw_110) (ik_306 hw hN) (by decide) (q := (RX11, TX11, 39)) rfl rfl rfl rfl (Nat.le_of_ble_eq_true rfl) dX11_text_145 (fun b19 => ?_)
          refine jo_joinS (S := Mem) (fun (z20 : Mem) => z20) (fun (z20 : Mem) => []) (fun (z20 : Mem) => []) 165 ?_ (fun h165_20 => ?_)
          · intro σ20
            show JO w mu_X11_text vB σ20 [] [] 165 (j_X11_text_165 σ20) _
            unfold j_X11_text_165
            refine jo_iconst (pc := 165) dX11_text_165 (ic_i_0) ?_
            exact jo_breturn (pc := 166) (b := false) rfl rfl dX11_text_166
          · refine jo_ifz_ne (pc := 148) dX11_text_148 (tgt := 165) rfl ?_ ?_
            · refine jo_lv (lv' := []) [] rfl ?_
              exact jo_leaf (by rfl) (h165_20 σ18)
            · refine jo_aload_n (pc := 151) 0 rfl dX11_text_151 rfl ?_
              refine jo_iload_n (pc := 152) 1 rfl dX11_text_152 rfl ?_
              refine jo_bipush (pc := 153) dX11_text_153 (ic_b_10) ?_
              refine jo_cV_Z_i (pc := 155) (μ' := mu_X11_gives) (fx := f_X11_gives σ18 x0 10) (As := [.int x0, .int 10]) (c_X11_gives hw hN) (ok_X11_gives) (ltb rfl) (all3 gw_1567 gw_1569 gw_96) (ik_306 hw hN) (by decide) (q := (RX11, TX11, 39)) rfl rfl rfl rfl (Nat.le_of_ble_eq_true rfl) dX11_text_155 (fun b21 σ22 => ?_)
              refine jo_ifz_eq (pc := 158) dX11_text_158 (tgt := 165) rfl ?_ ?_
              · refine jo_lv (lv' := []) [] rfl ?_
                exact jo_leaf (by rfl) (h165_20 σ22)
              · refine jo_iconst (pc := 161) dX11_text_161 (ic_i_1) ?_
                refine jo_goto (pc := 162) dX11_text_162 (tgt := 166) rfl ?_
                exact jo_breturn (pc := 166) (b := true) rfl rfl dX11_text_166
        · refine jo_icmp_eq (pc := 100) dX11_text_100 (tgt := 144) rfl ?_ ?_
          · exact jo_leaf (by rfl) (h144_18 σ16)
          · refine jo_aload_n (pc := 103) 0 rfl dX11_text_103 rfl ?_
            refine jo_cV_Z_p (pc := 104) (μ' := mu_X11_isWrong) (fx := f_X11_isWrong σ16) (As := []) (c_X11_isWrong hw hN) (ok_X11_isWrong) (ltb rfl) (all3 gw_1665 gw_1667 gw_110) (ik_306 hw hN) (by decide) (q := (RX11, TX11, 39)) rfl rfl rfl rfl (Nat.le_of_ble_eq_true rfl) dX11_text_104 (fun b23 => ?_)
            refine jo_joinS (S := Unit) (fun (z23 : Unit) => σ16) (fun (z23 : Unit) => [(0, .ref (adr w 306)), (1, .int x0)]) (fun (z23 : Unit) => []) 121 ?_ (fun h121_23 => ?_)
            · intro _
              show JO w mu_X11_text vB σ16 [(0, .ref (adr w 306)), (1, .int x0)] [] 121 (j_X11_text_121 σ16) _
              unfold j_X11_text_121
              refine jo_aload_n (pc := 121) 0 rfl dX11_text_121 rfl ?_
              refine jo_iconst (pc := 122) dX11_text_122 (ic_i_5) ?_
              refine jo_putf (pc := 123) ok_11_19 okp_11_19 (ik_306 hw hN) gw_1312 dX11_text_123 (fun σ24 => ?_)
              refine jo_aload_n (pc := 126) 0 rfl dX11_text_126 rfl ?_
              refine jo_aload_n (pc := 127) 0 rfl dX11_text_127 rfl ?_
              refine jo_getf (pc := 128) ok_11_24 (ik_306 hw hN) gw_1317 dX11_text_128 (fun v25 => ?_)
              refine jo_putf (pc := 131) ok_11_20 okp_11_20 (ik_306 hw hN) gw_1313 dX11_text_131 (fun σ26 => ?_)
              refine jo_aload_n (pc := 134) 0 rfl dX11_text_134 rfl ?_
              refine jo_aload_n (pc := 135) 0 rfl dX11_text_135 rfl ?_
              refine jo_getf (pc := 136) ok_11_4 (ik_306 hw hN) gw_1297 dX11_text_136 (fun v27 => ?_)
              refine jo_iconst (pc := 139) dX11_text_139 (ic_i_1) ?_
              refine jo_iadd (pc := 140) dX11_text_140 ?_
              refine jo_putf (pc := 141) ok_11_4 okp_11_4 (ik_306 hw hN) gw_1297 dX11_text_141 (fun σ28 => ?_)
              exact jo_leaf (by rfl) (h144_18 σ28)
            · refine jo_ifz_eq (pc := 107) dX11_text_107 (tgt := 121) rfl ?_ ?_
              · exact jo_leaf (by rfl) (h121_23 ())
              · refine jo_aload_n (pc := 110) 0 rfl dX11_text_110 rfl ?_
                refine jo_getf (pc := 111) ok_11_20 (ik_306 hw hN) gw_1313 dX11_text_111 (fun v29 => ?_)
                refine jo_aload_n (pc := 114) 0 rfl dX11_text_114 rfl ?_
                refine jo_getf (pc := 115) ok_11_24 (ik_306 hw hN) gw_1317 dX11_text_115 (fun v30 => ?_)
                refine jo_icmp_lt (pc := 118) dX11_text_118 (tgt := 144) rfl ?_ ?_
                · exact jo_leaf (by rfl) (h144_18 σ16)
                · exact jo_leaf (by rfl) (h121_23 ())
      · refine jo_ifz_ne (pc := 75) dX11_text_75 (tgt := 95) rfl ?_ ?_
        · exact jo_leaf (by rfl) (h95_16 σ14)
        · refine jo_aload_n (pc := 78) 0 rfl dX11_text_78 rfl ?_
          refine jo_cV_I_i (pc := 79) (μ' := mu_X11_behindBlanks) (fx := f_X11_behindBlanks σ14) (As := []) (c_X11_behindBlanks hw hN) (ok_X11_behindBlanks) (ltb rfl) (all3 gw_1669 gw_1671 gw_111) (ik_306 hw hN) (by decide) (q := (RX11, TX11, 39)) rfl rfl rfl rfl (Nat.le_of_ble_eq_true rfl) dX11_text_79 (fun v31 σ32 => ?_)
          refine jo_iconst (pc := 82) dX11_text_82 (ic_i_m1) ?_
          refine jo_icmp_eq (pc := 83) dX11_text_83 (tgt := 95) rfl ?_ ?_
          · exact jo_leaf (by rfl) (h95_16 σ32)
          · refine jo_aload_n (pc := 86) 0 rfl dX11_text_86 rfl ?_
            refine jo_iconst (pc := 87) dX11_text_87 (ic_i_1) ?_
            refine jo_aload_n (pc := 88) 0 rfl dX11_text_88 rfl ?_
            refine jo_getf (pc := 89) ok_11_21 (ik_306 hw hN) gw_1314 dX11_text_89 (fun v33 => ?_)
            refine jo_cV_V_i (pc := 92) (μ' := mu_X11_errs) (fx := f_X11_errs σ32 1 v33) (As := [.int 1, .int v33]) (c_X11_errs hw hN) (ok_X11_errs) (ltb rfl) (all3 gw_1685 gw_1687 gw_115) (ik_306 hw hN) (by decide) (q := (RX11, TX11, 39)) rfl rfl rfl rfl (Nat.le_of_ble_eq_true rfl) dX11_text_92 (fun σ34 => ?_)
            exact jo_leaf (by rfl) (h95_16 σ34)
    · refine jo_iconst (pc := 63) dX11_text_63 (ic_i_0) ?_
      exact jo_breturn (pc := 64) (b := false) rfl rfl dX11_text_64
theorem c_X11_text {w : Wd} (hw : WOK w) (hN : wn w = NT) {σ : Mem} {x0 : Int32} : ∀ r σ', f_X11_text σ x0 = some (r, σ') → MC w mu_X11_text (vB r) [.ref (adr w 306), .int x0] σ σ' := mc_of ok_X11_text rfl (Nat.le_of_ble_eq_true rfl) (t_X11_text hw hN)
abbrev mu_X11_fault : MD := (yX11_fault, cX11_fault, 2, some .int, 0)
theorem ok_X11_fault : MOK mu_X11_fault 1 := ⟨gw_1716, gw_171, (by decide +kernel : plainFor yX11_fault = true), ⟨(by decide +kernel : yX11_fault.cls ≠ "java/lang/invoke/MethodHandle"), (by decide +kernel : yX11_fault.cls ≠ "java/lang/invoke/VarHandle"), (by decide +kernel : (parseMethodDescriptor yX11_fault.desc).map (fun d => d.parameters.length) = some 1)⟩, Nat.le_of_ble_eq_true rfl⟩
noncomputable def f_X11_fault (σ : Mem) (x0 : Int32) : Option (Int32 × Mem) :=
  pF σ 306 0 0 (fun (σ1 : Mem) => if x0 = 0 then (gF σ1 306 19 (fun (v3 : Int32) => some (v3, σ1))) else (if x0 = 1 then (gF σ1 306 20 (fun (v2 : Int32) => some (v2, σ1))) else (some ((-1), σ1))))
theorem t_X11_fault {w : Wd} (hw : WOK w) (hN : wn w = NT) {σ : Mem} {x0 : Int32} : JO w mu_X11_fault vI σ [(0, .ref (adr w 306)), (1, .int x0)] [] 0 (f_X11_fault σ x0) some := by
  unfold f_X11_fault
  refine jo_aload_n (pc := 0) 0 rfl dX11_fault_0 rfl ?_
  refine jo_iconst (pc := 1) dX11_fault_1 (ic_i_0) ?_
  refine jo_putf (pc := 2) ok_11_0 okp_11_0 (ik_306 hw hN) gw_1293 dX11_fault_2 (fun σ1 => ?_)
  refine jo_iload_n (pc := 5) 1 rfl dX11_fault_5 rfl ?_
  refine jo_if_ne (pc := 6) dX11_fault_6 (tgt := 16) rfl ?_ ?_
  · refine jo_iload_n (pc := 16) 1 rfl dX11_fault_16 rfl ?_
    refine jo_iconst (pc := 17) dX11_fault_17 (ic_i_1) ?_
    refine jo_icmp_ne (pc := 18) dX11_fault_18 (tgt := 28) rfl ?_ ?_
    · refine jo_iconst (pc := 28) dX11_fault_28 (ic_i_m1) ?_
      exact jo_ireturn (pc := 29) rfl rfl dX11_fault_29
    · refine jo_aload_n (pc := 21) 0 rfl dX11_fault_21 rfl ?_
      refine jo_getf (pc := 22) ok_11_20 (ik_306 hw hN) gw_1313 dX11_fault_22 (fun v2 => ?_)
      refine jo_goto (pc := 25) dX11_fault_25 (tgt := 29) rfl ?_
      exact jo_ireturn (pc := 29) rfl rfl dX11_fault_29
  · refine jo_aload_n (pc := 9) 0 rfl dX11_fault_9 rfl ?_
    refine jo_getf (pc := 10) ok_11_19 (ik_306 hw hN) gw_1312 dX11_fault_10 (fun v3 => ?_)
    refine jo_goto (pc := 13) dX11_fault_13 (tgt := 29) rfl ?_
    exact jo_ireturn (pc := 29) rfl rfl dX11_fault_29
theorem c_X11_fault {w : Wd} (hw : WOK w) (hN : wn w = NT) {σ : Mem} {x0 : Int32} : ∀ r σ', f_X11_fault σ x0 = some (r, σ') → MC w mu_X11_fault (vI r) [.ref (adr w 306), .int x0] σ σ' := mc_of ok_X11_fault rfl (Nat.le_of_ble_eq_true rfl) (t_X11_fault hw hN)
abbrev mu_X11_collect : MD := (yX11_collect, cX11_collect, 3, some .int, 3)
theorem ok_X11_collect : MOK mu_X11_collect 0 := ⟨gw_1720, gw_171, (by decide +kernel : plainFor yX11_collect = true), ⟨(by decide +kernel : yX11_collect.cls ≠ "java/lang/invoke/MethodHandle"), (by decide +kernel : yX11_collect.cls ≠ "java/lang/invoke/VarHandle"), (by decide +kernel : (parseMethodDescriptor yX11_collect.desc).map (fun d => d.parameters.length) = some 0)⟩, Nat.le_of_ble_eq_true rfl⟩
noncomputable def j_X11_collect_146 (σ11 : Mem) : Option (Int32 × Mem) :=
  gF σ11 306 7 (fun (v12 : Int32) => some (v12, σ11))
noncomputable def l_X11_collect_121 (σ13 : Mem) (i14 : Int32) : Option ((Mem × Int32) ⊕ Mem) :=
  (f_X11_n σ13).bind (fun (v15 : Int32) => if v15 ≤ i14 then (some (Sum.inr σ13)) else ((f_X11_letters σ13 i14).bind (fun (v16 : Int32) => pI σ13 318 i14 v16 (fun (σ17 : Mem) => some (Sum.inl (σ17, i14 + 1))))))
noncomputable def j_X11_collect_101 (σ6 : Mem) : Option (Int32 × Mem) :=
  bq (f_X11_collects σ6) (fun (b7 : Bool) (σ8 : Mem) => if b7 then (f_X11_n σ8).bind (fun (v9 : Int32) => pF σ8 306 27 v9 (fun (σ10 : Mem) => (loopO (fun (z14 : (Mem × Int32)) => l_X11_collect_121 z14.1 z14.2) (σ10, 0) : Option Mem).bind (fun (z11 : Mem) => j_X11_collect_146 z11))) else some ((-2), σ8))
noncomputable def l_X11_collect_77 (v2 : Int32) (σ18 : Mem) (i19 : Int32) : Option ((Mem × Int32) ⊕ Mem) :=
  if v2 ≤ i19 then (some (Sum.inr σ18)) else (gI σ18 317 i19 (fun (v20 : Int32) => (f_X11_writes σ18 (v20 - 97)).bind (fun (σ21 : Mem) => some (Sum.inl (σ21, i19 + 1)))))
noncomputable def j_X11_collect_65 (v2 : Int32) (σ3 : Mem) : Option (Int32 × Mem) :=
  pF σ3 306 6 0 (fun (σ4 : Mem) => pF σ4 306 7 0 (fun (σ5 : Mem) => (loopO (fun (z19 : (Mem × Int32)) => l_X11_collect_77 v2 z19.1 z19.2) (σ5, 0) : Option Mem).bind (fun (z6 : Mem) => j_X11_collect_101 z6)))
noncomputable def l_X11_collect_25 (v2 : Int32) (σ3 : Mem) (i22 : Int32) : Option (Int32 ⊕ (Unit ⊕ (Int32 × Mem))) :=
  if v2 ≤ i22 then (some (Sum.inr (Sum.inl ()))) else (gI σ3 317 i22 (fun (v23 : Int32) => (f_X11_n σ3).bind (fun (v24 : Int32) => (f_X11_isIn σ3 (Int32.toInt64 v23) 97 ((Int32.toInt64 (97 + v24)) - 1)).bind (fun (b25 : Bool) => if b25 then some (Sum.inl (i22 + 1)) else some (Sum.inr (Sum.inr ((-1), σ3)))))))
noncomputable def f_X11_collect (σ : Mem) : Option (Int32 × Mem) :=
  pF σ 306 0 0 (fun (σ1 : Mem) => gF σ1 306 18 (fun (v2 : Int32) => pF σ1 306 18 0 (fun (σ3 : Mem) => if v2 ≤ 24 then ((loopO (fun (z22 : Int32) => l_X11_collect_25 v2 σ3 z22) 0 : Option (Unit ⊕ (Int32 × Mem))).bind (Sum.elim (fun (z3 : Unit) => j_X11_collect_65 v2 σ3) some)) else (some ((-1), σ3)))))
theorem t_X11_collect {w : Wd} (hw : WOK w) (hN : wn w = NT) {σ : Mem} : JO w mu_X11_collect vI σ [(0, .ref (adr w 306))] [] 0 (f_X11_collect σ) some := by
  unfold f_X11_collect
  refine jo_aload_n (pc := 0) 0 rfl dX11_collect_0 rfl ?_
  refine jo_iconst (pc := 1) dX11_collect_1 (ic_i_0) ?_
  refine jo_putf (pc := 2) ok_11_0 okp_11_0 (ik_306 hw hN) gw_1293 dX11_collect_2 (fun σ1 => ?_)
  refine jo_aload_n (pc := 5) 0 rfl dX11_collect_5 rfl ?_
  refine jo_getf (pc := 6) ok_11_18 (ik_306 hw hN) gw_1311 dX11_collect_6 (fun v2 => ?_)
  refine jo_istore_n (pc := 9) (lv' := [(1, .int v2), (0, .ref (adr w 306))]) dX11_collect_9 rfl (ltb rfl) rfl ?_
  refine jo_aload_n (pc := 10) 1 rfl dX11_collect_10 rfl ?_
  refine jo_iconst (pc := 11) dX11_collect_11 (ic_i_0) ?_
  refine jo_putf (pc := 12) ok_11_18 okp_11_18 (ik_306 hw hN) gw_1311 dX11_collect_12 (fun σ3 => ?_)
  refine jo_iload_n (pc := 15) 0 rfl dX11_collect_15 rfl ?_
  refine jo_bipush (pc := 16) dX11_collect_16 (ic_b_24) ?_
  refine jo_icmp_le (pc := 18) dX11_collect_18 (tgt := 23) rfl ?_ ?_
  · refine jo_iconst (pc := 23) dX11_collect_23 (ic_i_0) ?_
    refine jo_istore_n (pc := 24) (lv' := [(2, .int 0), (1, .int v2), (0, .ref (adr w 306))]) dX11_collect_24 rfl (ltb rfl) rfl ?_
    refine jo_joinS (S := Unit) (fun (z3 : Unit) => σ3) (fun (z3 : Unit) => [(1, .int v2), (0, .ref (adr w 306))]) (fun (z3 : Unit) => []) 65 ?_ (fun h65_3 => ?_)
    · intro _
      show JO w mu_X11_collect vI σ3 [(1, .int v2), (0, .ref (adr w 306))] [] 65 (j_X11_collect_65 v2 σ3) _
      unfold j_X11_collect_65
      refine jo_aload_n (pc := 65) 1 rfl dX11_collect_65 rfl ?_
      refine jo_iconst (pc := 66) dX11_collect_66 (ic_i_0) ?_
      refine jo_putf (pc := 67) ok_11_6 okp_11_6 (ik_306 hw hN) gw_1299 dX11_collect_67 (fun σ4 => ?_)
      refine jo_aload_n (pc := 70) 1 rfl dX11_collect_70 rfl ?_
      refine jo_iconst (pc := 71) dX11_collect_71 (ic_i_0) ?_
      refine jo_putf (pc := 72) ok_11_7 okp_11_7 (ik_306 hw hN) gw_1300 dX11_collect_72 (fun σ5 => ?_)
      refine jo_iconst (pc := 75) dX11_collect_75 (ic_i_0) ?_
      refine jo_istore_n (pc := 76) (lv' := [(2, .int 0), (1, .int v2), (0, .ref (adr w 306))]) dX11_collect_76 rfl (ltb rfl) rfl ?_
      refine jo_join1 (S := Mem) (fun (z6 : Mem) => z6) (fun (z6 : Mem) => [(0, .ref (adr w 306))]) (fun (z6 : Mem) => []) 101 ?_ (fun h101_6 => ?_)
      · intro σ6
        show JO w mu_X11_collect vI σ6 [(0, .ref (adr w 306))] [] 101 (j_X11_collect_101 σ6) _
        unfold j_X11_collect_101
        refine jo_aload_n (pc := 101) 0 rfl dX11_collect_101 rfl ?_
        refine jo_cV_Z_i (pc := 102) (μ' := mu_X11_collects) (fx := f_X11_collects σ6) (As := []) (c_X11_collects hw hN) (ok_X11_collects) (ltb rfl) (all3 gw_1499 gw_1501 gw_80) (ik_306 hw hN) (by decide) (q := (RX11, TX11, 39)) rfl rfl rfl rfl (Nat.le_of_ble_eq_true rfl) dX11_collect_102 (fun b7 σ8 => ?_)
        refine jo_ifz_ne (pc := 105) dX11_collect_105 (tgt := 111) rfl ?_ ?_
        · refine jo_aload_n (pc := 111) 0 rfl dX11_collect_111 rfl ?_
          refine jo_aload_n (pc := 112) 0 rfl dX11_collect_112 rfl ?_
          refine jo_cV_I_p (pc := 113) (μ' := mu_X11_n) (fx := f_X11_n σ8) (As := []) (c_X11_n hw hN) (ok_X11_n) (ltb rfl) (all3 gw_1441 gw_1443 gw_68) (ik_306 hw hN) (by decide) (q := (RX11, TX11, 39)) rfl rfl rfl rfl (Nat.le_of_ble_eq_true rfl) dX11_collect_113 (fun v9 => ?_)
          refine jo_putf (pc := 116) ok_11_27 okp_11_27 (ik_306 hw hN) gw_1320 dX11_collect_116 (fun σ10 => ?_)
          refine jo_iconst (pc := 119) dX11_collect_119 (ic_i_0) ?_
          refine jo_istore_n (pc := 120) (lv' := [(2, .int 0), (0, .ref (adr w 306))]) dX11_collect_120 rfl (ltb rfl) rfl ?_
          refine jo_join1 (S := Mem) (fun (z11 : Mem) => z11) (fun (z11 : Mem) => [(0, .ref (adr w 306))]) (fun (z11 : Mem) => []) 146 ?_ (fun h146_11 => ?_)
          · intro σ11
            show JO w mu_X11_collect vI σ11 [(0, .ref (adr w 306))] [] 146 (j_X11_collect_146 σ11) _
            unfold j_X11_collect_146
            refine jo_aload_n (pc := 146) 0 rfl dX11_collect_146 rfl ?_
            refine jo_getf (pc := 147) ok_11_7 (ik_306 hw hN) gw_1300 dX11_collect_147 (fun v12 => ?_)
            exact jo_ireturn (pc := 150) rfl rfl dX11_collect_150
          · refine jo_lv (lv' := [(0, .ref (adr w 306)), (2, .int 0)]) [1, 0] rfl ?_
            refine jo_loop (X := Mem) (fun (z14 : (Mem × Int32)) => z14.1) (fun (z14 : (Mem × Int32)) => [(0, .ref (adr w 306)), (2, .int z14.2)]) (body := (fun (z14 : (Mem × Int32)) => l_X11_collect_121 z14.1 z14.2)) (fun F121_14 hF121_14 s => ?_) (σ10, 0)
            obtain ⟨σ13, i14⟩ := s
            show JO w mu_X11_collect vI σ13 [(0, .ref (adr w 306)), (2, .int i14)] [] 121 (l_X11_collect_121 σ13 i14) _
            unfold l_X11_collect_121
            refine jo_iload_n (pc := 121) 1 rfl dX11_collect_121 rfl ?_
            refine jo_aload_n (pc := 122) 0 rfl dX11_collect_122 rfl ?_
            refine jo_cV_I_p (pc := 123) (μ' := mu_X11_n) (fx := f_X11_n σ13) (As := []) (c_X11_n hw hN) (ok_X11_n) (ltb rfl) (all3 gw_1441 gw_1443 gw_68) (ik_306 hw hN) (by decide) (q := (RX11, TX11, 39)) rfl rfl rfl rfl (Nat.le_of_ble_eq_true rfl) dX11_collect_123 (fun v15 => ?_)
            refine jo_icmp_ge (pc := 126) dX11_collect_126 (tgt := 146) rfl ?_ ?_
            · refine jo_lv (lv' := [(0, .ref (adr w 306))]) [0] rfl ?_
              exact jo_leaf (by rfl) (h146_11 σ13)
            · refine jo_aload_n (pc := 129) 0 rfl dX11_collect_129 rfl ?_
              refine jo_getrE (pc := 130) ok_11_26 (ik_306 hw hN) rf_306_26 gw_1319 dX11_collect_130 ?_
              refine jo_iload_n (pc := 133) 1 rfl dX11_collect_133 rfl ?_
              refine jo_aload_n (pc := 134) 0 rfl dX11_collect_134 rfl ?_
              refine jo_iload_n (pc := 135) 1 rfl dX11_collect_135 rfl ?_
              refine jo_cV_I_p (pc := 136) (μ' := mu_X11_letters) (fx := f_X11_letters σ13 i14) (As := [.int i14]) (c_X11_letters hw hN) (ok_X11_letters) (ltb rfl) (all3 gw_1503 gw_1505 gw_81) (ik_306 hw hN) (by decide) (q := (RX11, TX11, 39)) rfl rfl rfl rfl (Nat.le_of_ble_eq_true rfl) dX11_collect_136 (fun v16 => ?_)
              refine jo_iast (pc := 139) (ik_318 hw hN) dX11_collect_139 (fun σ17 => ?_)
              refine jo_iinc (pc := 140) (lv' := [(2, .int (i14 + 1)), (0, .ref (adr w 306))]) 1 rfl dX11_collect_140 (congrArg (fun z => i14 + z) (ic_i_1)) (ltb rfl) rfl ?_
              refine jo_goto (pc := 143) dX11_collect_143 (tgt := 121) rfl ?_
              refine jo_lv (lv' := [(0, .ref (adr w 306)), (2, .int (i14 + 1))]) [1, 0] rfl ?_
              exact jo_leaf (by rfl) (hF121_14 (σ17, i14 + 1))
        · refine jo_bipush (pc := 108) dX11_collect_108 (ic_b_m2) ?_
          exact jo_ireturn (pc := 110) rfl rfl dX11_collect_110
      · refine jo_lv (lv' := [(1, .int v2), (0, .ref (adr w 306)), (2, .int 0)]) [1, 2, 0] rfl ?_
        refine jo_loop (X := Mem) (fun (z19 : (Mem × Int32)) => z19.1) (fun (z19 : (Mem × Int32)) => [(1, .int v2), (0, .ref (adr w 306)), (2, .int z19.2)]) (body := (fun (z19 : (Mem × Int32)) => l_X11_collect_77 v2 z19.1 z19.2)) (fun F77_19 hF77_19 s => ?_) (σ5, 0)
        obtain ⟨σ18, i19⟩ := s
        show JO w mu_X11_collect vI σ18 [(1, .int v2), (0, .ref (adr w 306)), (2, .int i19)] [] 77 (l_X11_collect_77 v2 σ18 i19) _
        unfold l_X11_collect_77
        refine jo_iload_n (pc := 77) 2 rfl dX11_collect_77 rfl ?_
        refine jo_iload_n (pc := 78) 0 rfl dX11_collect_78 rfl ?_
        refine jo_icmp_ge (pc := 79) dX11_collect_79 (tgt := 101) rfl ?_ ?_
        · refine jo_lv (lv' := [(0, .ref (adr w 306))]) [1] rfl ?_
          exact jo_leaf (by rfl) (h101_6 σ18)
        · refine jo_aload_n (pc := 82) 1 rfl dX11_collect_82 rfl ?_
          refine jo_aload_n (pc := 83) 1 rfl dX11_collect_83 rfl ?_
          refine jo_getrE (pc := 84) ok_11_17 (ik_306 hw hN) rf_306_17 gw_1310 dX11_collect_84 ?_
          refine jo_iload_n (pc := 87) 2 rfl dX11_collect_87 rfl ?_
          refine jo_iald (pc := 88) (ik_317 hw hN) dX11_collect_88 (fun v20 => ?_)
          refine jo_bipush (pc := 89) dX11_collect_89 (ic_b_97) ?_
          refine jo_isub (pc := 91) dX11_collect_91 ?_
          refine jo_cV_V_i (pc := 92) (μ' := mu_X11_writes) (fx := f_X11_writes σ18 (v20 - 97)) (As := [.int (v20 - 97)]) (c_X11_writes hw hN) (ok_X11_writes) (ltb rfl) (all3 gw_1487 gw_1489 gw_77) (ik_306 hw hN) (by decide) (q := (RX11, TX11, 39)) rfl rfl rfl rfl (Nat.le_of_ble_eq_true rfl) dX11_collect_92 (fun σ21 => ?_)
          refine jo_iinc (pc := 95) (lv' := [(2, .int (i19 + 1)), (1, .int v2), (0, .ref (adr w 306))]) 2 rfl dX11_collect_95 (congrArg (fun z => i19 + z) (ic_i_1)) (ltb rfl) rfl ?_
          refine jo_goto (pc := 98) dX11_collect_98 (tgt := 77) rfl ?_
          refine jo_lv (lv' := [(1, .int v2), (0, .ref (adr w 306)), (2, .int (i19 + 1))]) [1, 2, 0] rfl ?_
          exact jo_leaf (by rfl) (hF77_19 (σ21, i19 + 1))
    · refine jo_lv (lv' := [(1, .int v2), (0, .ref (adr w 306)), (2, .int 0)]) [1, 2, 0] rfl ?_
      refine jo_loop (X := Unit ⊕ (Int32 × Mem)) (fun (z22 : Int32) => σ3) (fun (z22 : Int32) => [(1, .int v2), (0, .ref (adr w 306)), (2, .int z22)]) (body := (fun (z22 : Int32) => l_X11_collect_25 v2 σ3 z22)) (fun F25_22 hF25_22 s => ?_) 0
      revert s; intro i22
      show JO w mu_X11_collect vI σ3 [(1, .int v2), (0, .ref (adr w 306)), (2, .int i22)] [] 25 (l_X11_collect_25 v2 σ3 i22) _
      unfold l_X11_collect_25
      refine jo_iload_n (pc := 25) 2 rfl dX11_collect_25 rfl ?_
      refine jo_iload_n (pc := 26) 0 rfl dX11_collect_26 rfl ?_
      refine jo_icmp_ge (pc := 27) dX11_collect_27 (tgt := 65) rfl ?_ ?_
      · refine jo_lv (lv' := [(1, .int v2), (0, .ref (adr w 306))]) [0, 1] rfl ?_
        exact jo_leaf (by rfl) (h65_3 ())
      · refine jo_aload_n (pc := 30) 1 rfl dX11_collect_30 rfl ?_
        refine jo_aload_n (pc := 31) 1 rfl dX11_collect_31 rfl ?_
        refine jo_getrE (pc := 32) ok_11_17 (ik_306 hw hN) rf_306_17 gw_1310 dX11_collect_32 ?_
        refine jo_iload_n (pc := 35) 2 rfl dX11_collect_35 rfl ?_
        refine jo_iald (pc := 36) (ik_317 hw hN) dX11_collect_36 (fun v23 => ?_)
        refine jo_i2l (pc := 37) dX11_collect_37 ?_
        refine jo_ldc2 (pc := 38) dX11_collect_38 gw_1721 ?_
        refine jo_bipush (pc := 41) dX11_collect_41 (ic_b_97) ?_
        refine jo_aload_n (pc := 43) 1 rfl dX11_collect_43 rfl ?_
        refine jo_cV_I_p (pc := 44) (μ' := mu_X11_n) (fx := f_X11_n σ3) (As := []) (c_X11_n hw hN) (ok_X11_n) (ltb rfl) (all3 gw_1441 gw_1443 gw_68) (ik_306 hw hN) (by decide) (q := (RX11, TX11, 39)) rfl rfl rfl rfl (Nat.le_of_ble_eq_true rfl) dX11_collect_44 (fun v24 => ?_)
        refine jo_iadd (pc := 47) dX11_collect_47 ?_
        refine jo_i2l (pc := 48) dX11_collect_48 ?_
        refine jo_lconst (pc := 49) dX11_collect_49 (ic_l_1) ?_
        refine jo_lsub (pc := 50) dX11_collect_50 ?_
        refine jo_cV_Z_p (pc := 51) (μ' := mu_X11_isIn) (fx := f_X11_isIn σ3 (Int32.toInt64 v23) 97 ((Int32.toInt64 (97 + v24)) - 1)) (As := [.long (Int32.toInt64 v23), .long 97, .long ((Int32.toInt64 (97 + v24)) - 1)]) (c_X11_isIn hw hN) (ok_X11_isIn) (ltb rfl) (all3 gw_1420 gw_1422 gw_64) (ik_306 hw hN) (by decide) (q := (RX11, TX11, 39)) rfl rfl rfl rfl (Nat.le_of_ble_eq_true rfl) dX11_collect_51 (fun b25 => ?_)
        refine jo_ifz_ne (pc := 54) dX11_collect_54 (tgt := 59) rfl ?_ ?_
        · refine jo_iinc (pc := 59) (lv' := [(2, .int (i22 + 1)), (1, .int v2), (0, .ref (adr w 306))]) 2 rfl dX11_collect_59 (congrArg (fun z => i22 + z) (ic_i_1)) (ltb rfl) rfl ?_
          refine jo_goto (pc := 62) dX11_collect_62 (tgt := 25) rfl ?_
          refine jo_lv (lv' := [(1, .int v2), (0, .ref (adr w 306)), (2, .int (i22 + 1))]) [1, 2, 0] rfl ?_
          exact jo_leaf (by rfl) (hF25_22 (i22 + 1))
        · refine jo_iconst (pc := 57) dX11_collect_57 (ic_i_m1) ?_
          exact jo_ireturn (pc := 58) rfl rfl dX11_collect_58
  · refine jo_iconst (pc := 21) dX11_collect_21 (ic_i_m1) ?_
    exact jo_ireturn (pc := 22) rfl rfl dX11_collect_22
theorem c_X11_collect {w : Wd} (hw : WOK w) (hN : wn w = NT) {σ : Mem} : ∀ r σ', f_X11_collect σ = some (r, σ') → MC w mu_X11_collect (vI r) [.ref (adr w 306)] σ σ' := mc_of ok_X11_collect rfl (Nat.le_of_ble_eq_true rfl) (t_X11_collect hw hN)
abbrev mu_X11_collected : MD := (yX11_collected, cX11_collected, 2, some .int, 1)
theorem ok_X11_collected : MOK mu_X11_collected 1 := ⟨gw_1725, gw_171, (by decide +kernel : plainFor yX11_collected = true), ⟨(by decide +kernel : yX11_collected.cls ≠ "java/lang/invoke/MethodHandle"), (by decide +kernel : yX11_collected.cls ≠ "java/lang/invoke/VarHandle"), (by decide +kernel : (parseMethodDescriptor yX11_collected.desc).map (fun d => d.parameters.length) = some 1)⟩, Nat.le_of_ble_eq_true rfl⟩
noncomputable def f_X11_collected (σ : Mem) (x0 : Int32) : Option (Int32 × Mem) :=
  pF σ 306 0 0 (fun (σ1 : Mem) => gF σ1 306 27 (fun (v2 : Int32) => (f_X11_isIn σ1 (Int32.toInt64 x0) 1 (Int32.toInt64 v2)).bind (fun (b3 : Bool) => if b3 then gI σ1 318 (x0 - 1) (fun (v4 : Int32) => some (v4, σ1)) else some ((-1), σ1))))
theorem t_X11_collected {w : Wd} (hw : WOK w) (hN : wn w = NT) {σ : Mem} {x0 : Int32} : JO w mu_X11_collected vI σ [(0, .ref (adr w 306)), (1, .int x0)] [] 0 (f_X11_collected σ x0) some := by
  unfold f_X11_collected
  refine jo_aload_n (pc := 0) 0 rfl dX11_collected_0 rfl ?_
  refine jo_iconst (pc := 1) dX11_collected_1 (ic_i_0) ?_
  refine jo_putf (pc := 2) ok_11_0 okp_11_0 (ik_306 hw hN) gw_1293 dX11_collected_2 (fun σ1 => ?_)
  refine jo_aload_n (pc := 5) 0 rfl dX11_collected_5 rfl ?_
  refine jo_iload_n (pc := 6) 1 rfl dX11_collected_6 rfl ?_
  refine jo_i2l (pc := 7) dX11_collected_7 ?_
  refine jo_lconst (pc := 8) dX11_collected_8 (ic_l_1) ?_
  refine jo_aload_n (pc := 9) 0 rfl dX11_collected_9 rfl ?_
  refine jo_getf (pc := 10) ok_11_27 (ik_306 hw hN) gw_1320 dX11_collected_10 (fun v2 => ?_)
  refine jo_i2l (pc := 13) dX11_collected_13 ?_
  refine jo_cV_Z_p (pc := 14) (μ' := mu_X11_isIn) (fx := f_X11_isIn σ1 (Int32.toInt64 x0) 1 (Int32.toInt64 v2)) (As := [.long (Int32.toInt64 x0), .long 1, .long (Int32.toInt64 v2)]) (c_X11_isIn hw hN) (ok_X11_isIn) (ltb rfl) (all3 gw_1420 gw_1422 gw_64) (ik_306 hw hN) (by decide) (q := (RX11, TX11, 39)) rfl rfl rfl rfl (Nat.le_of_ble_eq_true rfl) dX11_collected_14 (fun b3 => ?_)
  refine jo_ifz_eq (pc := 17) dX11_collected_17 (tgt := 31) rfl ?_ ?_
  · refine jo_iconst (pc := 31) dX11_collected_31 (ic_i_m1) ?_
    exact jo_ireturn (pc := 32) rfl rfl dX11_collected_32
  · refine jo_aload_n (pc := 20) 0 rfl dX11_collected_20 rfl ?_
    refine jo_getrE (pc := 21) ok_11_26 (ik_306 hw hN) rf_306_26 gw_1319 dX11_collected_21 ?_
    refine jo_iload_n (pc := 24) 1 rfl dX11_collected_24 rfl ?_
    refine jo_iconst (pc := 25) dX11_collected_25 (ic_i_1) ?_
    refine jo_isub (pc := 26) dX11_collected_26 ?_
    refine jo_iald (pc := 27) (ik_318 hw hN) dX11_collected_27 (fun v4 => ?_)
    refine jo_goto (pc := 28) dX11_collected_28 (tgt := 32) rfl ?_
    exact jo_ireturn (pc := 32) rfl rfl dX11_collected_32
theorem c_X11_collected {w : Wd} (hw : WOK w) (hN : wn w = NT) {σ : Mem} {x0 : Int32} : ∀ r σ', f_X11_collected σ x0 = some (r, σ') → MC w mu_X11_collected (vI r) [.ref (adr w 306), .int x0] σ σ' := mc_of ok_X11_collected rfl (Nat.le_of_ble_eq_true rfl) (t_X11_collected hw hN)
abbrev mu_X11_consistent : MD := (yX11_consistent, cX11_consistent, 1, some .int, 37)
theorem ok_X11_consistent : MOK mu_X11_consistent 0 := ⟨gw_1729, gw_171, (by decide +kernel : plainFor yX11_consistent = true), ⟨(by decide +kernel : yX11_consistent.cls ≠ "java/lang/invoke/MethodHandle"), (by decide +kernel : yX11_consistent.cls ≠ "java/lang/invoke/VarHandle"), (by decide +kernel : (parseMethodDescriptor yX11_consistent.desc).map (fun d => d.parameters.length) = some 0)⟩, Nat.le_of_ble_eq_true rfl⟩
noncomputable def f_X11_consistent (σ : Mem) : Option (Int32 × Mem) :=
  pF σ 306 0 0 (fun (σ1 : Mem) => bq (f_X11_isConsistent σ1) (fun (b2 : Bool) (σ3 : Mem) => if b2 then some (1, σ3) else some (0, σ3)))
theorem t_X11_consistent {w : Wd} (hw : WOK w) (hN : wn w = NT) {σ : Mem} : JO w mu_X11_consistent vI σ [(0, .ref (adr w 306))] [] 0 (f_X11_consistent σ) some := by
  unfold f_X11_consistent
  refine jo_aload_n (pc := 0) 0 rfl dX11_consistent_0 rfl ?_
  refine jo_iconst (pc := 1) dX11_consistent_1 (ic_i_0) ?_
  refine jo_putf (pc := 2) ok_11_0 okp_11_0 (ik_306 hw hN) gw_1293 dX11_consistent_2 (fun σ1 => ?_)
  refine jo_aload_n (pc := 5) 0 rfl dX11_consistent_5 rfl ?_
  refine jo_cV_Z_i (pc := 6) (μ' := mu_X11_isConsistent) (fx := f_X11_isConsistent σ1) (As := []) (c_X11_isConsistent hw hN) (ok_X11_isConsistent) (ltb rfl) (all3 gw_1475 gw_1477 gw_74) (ik_306 hw hN) (by decide) (q := (RX11, TX11, 39)) rfl rfl rfl rfl (Nat.le_of_ble_eq_true rfl) dX11_consistent_6 (fun b2 σ3 => ?_)
  refine jo_ifz_eq (pc := 9) dX11_consistent_9 (tgt := 16) rfl ?_ ?_
  · refine jo_iconst (pc := 16) dX11_consistent_16 (ic_i_0) ?_
    exact jo_ireturn (pc := 17) rfl rfl dX11_consistent_17
  · refine jo_iconst (pc := 12) dX11_consistent_12 (ic_i_1) ?_
    refine jo_goto (pc := 13) dX11_consistent_13 (tgt := 17) rfl ?_
    exact jo_ireturn (pc := 17) rfl rfl dX11_consistent_17
theorem c_X11_consistent {w : Wd} (hw : WOK w) (hN : wn w = NT) {σ : Mem} : ∀ r σ', f_X11_consistent σ = some (r, σ') → MC w mu_X11_consistent (vI r) [.ref (adr w 306)] σ σ' := mc_of ok_X11_consistent rfl (Nat.le_of_ble_eq_true rfl) (t_X11_consistent hw hN)
abbrev mu_X11_exponent : MD := (yX11_exponent, cX11_exponent, 3, some .int, 2)
theorem ok_X11_exponent : MOK mu_X11_exponent 2 := ⟨gw_1733, gw_171, (by decide +kernel : plainFor yX11_exponent = true), ⟨(by decide +kernel : yX11_exponent.cls ≠ "java/lang/invoke/MethodHandle"), (by decide +kernel : yX11_exponent.cls ≠ "java/lang/invoke/VarHandle"), (by decide +kernel : (parseMethodDescriptor yX11_exponent.desc).map (fun d => d.parameters.length) = some 2)⟩, Nat.le_of_ble_eq_true rfl⟩
noncomputable def j_X11_exponent_39 (σ1 : Mem) : Option (Int32 × Mem) :=
  some ((-10000), σ1)
noncomputable def f_X11_exponent (σ : Mem) (x0 : Int32) (x1 : Int32) : Option (Int32 × Mem) :=
  pF σ 306 0 0 (fun (σ1 : Mem) => (f_X11_isRegister σ1 x0).bind (fun (b2 : Bool) => (if b2 then (f_X11_n σ1).bind (fun (v3 : Int32) => (f_X11_isIn σ1 (Int32.toInt64 x1) 1 (Int32.toInt64 v3)).bind (fun (b4 : Bool) => if b4 then (f_X11_ofRow σ1 x0 (x1 - 1)).bind (fun (v5 : Int32) => some (Sum.inr (v5, σ1))) else some (Sum.inl ()))) else some (Sum.inl ()) : Option (Unit ⊕ (Int32 × Mem))).bind (Sum.elim (fun (z2 : Unit) => j_X11_exponent_39 σ1) some)))
theorem t_X11_exponent {w : Wd} (hw : WOK w) (hN : wn w = NT) {σ : Mem} {x0 : Int32} {x1 : Int32} : JO w mu_X11_exponent vI σ [(0, .ref (adr w 306)), (1, .int x0), (2, .int x1)] [] 0 (f_X11_exponent σ x0 x1) some := by
  unfold f_X11_exponent
  refine jo_aload_n (pc := 0) 0 rfl dX11_exponent_0 rfl ?_
  refine jo_iconst (pc := 1) dX11_exponent_1 (ic_i_0) ?_
  refine jo_putf (pc := 2) ok_11_0 okp_11_0 (ik_306 hw hN) gw_1293 dX11_exponent_2 (fun σ1 => ?_)
  refine jo_aload_n (pc := 5) 0 rfl dX11_exponent_5 rfl ?_
  refine jo_iload_n (pc := 6) 1 rfl dX11_exponent_6 rfl ?_
  refine jo_cV_Z_p (pc := 7) (μ' := mu_X11_isRegister) (fx := f_X11_isRegister σ1 x0) (As := [.int x0]) (c_X11_isRegister hw hN) (ok_X11_isRegister) (ltb rfl) (all3 gw_1470 gw_1472 gw_73) (ik_306 hw hN) (by decide) (q := (RX11, TX11, 39)) rfl rfl rfl rfl (Nat.le_of_ble_eq_true rfl) dX11_exponent_7 (fun b2 => ?_)
  refine jo_joinS (S := Unit) (fun (z2 : Unit) => σ1) (fun (z2 : Unit) => []) (fun (z2 : Unit) => []) 39 ?_ (fun h39_2 => ?_)
  · intro _
    show JO w mu_X11_exponent vI σ1 [] [] 39 (j_X11_exponent_39 σ1) _
    unfold j_X11_exponent_39
    refine jo_sipush (pc := 39) dX11_exponent_39 (ic_s_m10000) ?_
    exact jo_ireturn (pc := 42) rfl rfl dX11_exponent_42
  · refine jo_ifz_eq (pc := 10) dX11_exponent_10 (tgt := 39) rfl ?_ ?_
    · refine jo_lv (lv' := []) [] rfl ?_
      exact jo_leaf (by rfl) (h39_2 ())
    · refine jo_aload_n (pc := 13) 0 rfl dX11_exponent_13 rfl ?_
      refine jo_iload_n (pc := 14) 2 rfl dX11_exponent_14 rfl ?_
      refine jo_i2l (pc := 15) dX11_exponent_15 ?_
      refine jo_lconst (pc := 16) dX11_exponent_16 (ic_l_1) ?_
      refine jo_aload_n (pc := 17) 0 rfl dX11_exponent_17 rfl ?_
      refine jo_cV_I_p (pc := 18) (μ' := mu_X11_n) (fx := f_X11_n σ1) (As := []) (c_X11_n hw hN) (ok_X11_n) (ltb rfl) (all3 gw_1441 gw_1443 gw_68) (ik_306 hw hN) (by decide) (q := (RX11, TX11, 39)) rfl rfl rfl rfl (Nat.le_of_ble_eq_true rfl) dX11_exponent_18 (fun v3 => ?_)
      refine jo_i2l (pc := 21) dX11_exponent_21 ?_
      refine jo_cV_Z_p (pc := 22) (μ' := mu_X11_isIn) (fx := f_X11_isIn σ1 (Int32.toInt64 x1) 1 (Int32.toInt64 v3)) (As := [.long (Int32.toInt64 x1), .long 1, .long (Int32.toInt64 v3)]) (c_X11_isIn hw hN) (ok_X11_isIn) (ltb rfl) (all3 gw_1420 gw_1422 gw_64) (ik_306 hw hN) (by decide) (q := (RX11, TX11, 39)) rfl rfl rfl rfl (Nat.le_of_ble_eq_true rfl) dX11_exponent_22 (fun b4 => ?_)
      refine jo_ifz_eq (pc := 25) dX11_exponent_25 (tgt := 39) rfl ?_ ?_
      · refine jo_lv (lv' := []) [] rfl ?_
        exact jo_leaf (by rfl) (h39_2 ())
      · refine jo_aload_n (pc := 28) 0 rfl dX11_exponent_28 rfl ?_
        refine jo_iload_n (pc := 29) 1 rfl dX11_exponent_29 rfl ?_
        refine jo_iload_n (pc := 30) 2 rfl dX11_exponent_30 rfl ?_
        refine jo_iconst (pc := 31) dX11_exponent_31 (ic_i_1) ?_
        refine jo_isub (pc := 32) dX11_exponent_32 ?_
        refine jo_cV_I_p (pc := 33) (μ' := mu_X11_ofRow) (fx := f_X11_ofRow σ1 x0 (x1 - 1)) (As := [.int x0, .int (x1 - 1)]) (c_X11_ofRow hw hN) (ok_X11_ofRow) (ltb rfl) (all3 gw_1563 gw_1565 gw_95) (ik_306 hw hN) (by decide) (q := (RX11, TX11, 39)) rfl rfl rfl rfl (Nat.le_of_ble_eq_true rfl) dX11_exponent_33 (fun v5 => ?_)
        refine jo_goto (pc := 36) dX11_exponent_36 (tgt := 42) rfl ?_
        exact jo_ireturn (pc := 42) rfl rfl dX11_exponent_42
theorem c_X11_exponent {w : Wd} (hw : WOK w) (hN : wn w = NT) {σ : Mem} {x0 : Int32} {x1 : Int32} : ∀ r σ', f_X11_exponent σ x0 x1 = some (r, σ') → MC w mu_X11_exponent (vI r) [.ref (adr w 306), .int x0, .int x1] σ σ' := mc_of ok_X11_exponent rfl (Nat.le_of_ble_eq_true rfl) (t_X11_exponent hw hN)
abbrev mu_X11_areCommuting : MD := (yX11_areCommuting, cX11_areCommuting, 4, some .boolean, 6)
theorem ok_X11_areCommuting : MOK mu_X11_areCommuting 3 := ⟨gw_1749, gw_171, (by decide +kernel : plainFor yX11_areCommuting = true), ⟨(by decide +kernel : yX11_areCommuting.cls ≠ "java/lang/invoke/MethodHandle"), (by decide +kernel : yX11_areCommuting.cls ≠ "java/lang/invoke/VarHandle"), (by decide +kernel : (parseMethodDescriptor yX11_areCommuting.desc).map (fun d => d.parameters.length) = some 3)⟩, Nat.le_of_ble_eq_true rfl⟩
noncomputable def f_X11_areCommuting (σ : Mem) (x0 : Int32) (x1 : Int32) (x2 : Int32) : Option (Bool × Mem) :=
  (f_X11_commutator σ x0 x1 x2).bind (fun (σ1 : Mem) => (f_X11_isOne σ1 x2).bind (fun (b2 : Bool) => some (b2, σ1)))
theorem t_X11_areCommuting {w : Wd} (hw : WOK w) (hN : wn w = NT) {σ : Mem} {x0 : Int32} {x1 : Int32} {x2 : Int32} : JO w mu_X11_areCommuting vB σ [(0, .ref (adr w 306)), (1, .int x0), (2, .int x1), (3, .int x2)] [] 0 (f_X11_areCommuting σ x0 x1 x2) some := by
  unfold f_X11_areCommuting
  refine jo_aload_n (pc := 0) 0 rfl dX11_areCommuting_0 rfl ?_
  refine jo_iload_n (pc := 1) 1 rfl dX11_areCommuting_1 rfl ?_
  refine jo_iload_n (pc := 2) 2 rfl dX11_areCommuting_2 rfl ?_
  refine jo_iload_n (pc := 3) 3 rfl dX11_areCommuting_3 rfl ?_
  refine jo_cV_V_i (pc := 4) (μ' := mu_X11_commutator) (fx := f_X11_commutator σ x0 x1 x2) (As := [.int x0, .int x1, .int x2]) (c_X11_commutator hw hN) (ok_X11_commutator) (ltb rfl) (all3 gw_1609 gw_1611 gw_102) (ik_306 hw hN) (by decide) (q := (RX11, TX11, 39)) rfl rfl rfl rfl (Nat.le_of_ble_eq_true rfl) dX11_areCommuting_4 (fun σ1 => ?_)
  refine jo_aload_n (pc := 7) 0 rfl dX11_areCommuting_7 rfl ?_
  refine jo_iload_n (pc := 8) 3 rfl dX11_areCommuting_8 rfl ?_
  refine jo_cV_Z_p (pc := 9) (μ' := mu_X11_isOne) (fx := f_X11_isOne σ1 x2) (As := [.int x2]) (c_X11_isOne hw hN) (ok_X11_isOne) (ltb rfl) (all3 gw_1750 gw_1752 gw_125) (ik_306 hw hN) (by decide) (q := (RX11, TX11, 39)) rfl rfl rfl rfl (Nat.le_of_ble_eq_true rfl) dX11_areCommuting_9 (fun b2 => ?_)
  exact jo_breturn (pc := 12) (b := b2) rfl rfl dX11_areCommuting_12
theorem c_X11_areCommuting {w : Wd} (hw : WOK w) (hN : wn w = NT) {σ : Mem} {x0 : Int32} {x1 : Int32} {x2 : Int32} : ∀ r σ', f_X11_areCommuting σ x0 x1 x2 = some (r, σ') → MC w mu_X11_areCommuting (vB r) [.ref (adr w 306), .int x0, .int x1, .int x2] σ σ' := mc_of ok_X11_areCommuting rfl (Nat.le_of_ble_eq_true rfl) (t_X11_areCommuting hw hN)
abbrev mu_X11_isCentral : MD := (yX11_isCentral, cX11_isCentral, 4, some .boolean, 7)
theorem ok_X11_isCentral : MOK mu_X11_isCentral 2 := ⟨gw_1745, gw_171, (by decide +kernel : plainFor yX11_isCentral = true), ⟨(by decide +kernel : yX11_isCentral.cls ≠ "java/lang/invoke/MethodHandle"), (by decide +kernel : yX11_isCentral.cls ≠ "java/lang/invoke/VarHandle"), (by decide +kernel : (parseMethodDescriptor yX11_isCentral.desc).map (fun d => d.parameters.length) = some 2)⟩, Nat.le_of_ble_eq_true rfl⟩
noncomputable def l_X11_isCentral_2 (x0 : Int32) (x1 : Int32) (σ1 : Mem) (i2 : Int32) : Option ((Mem × Int32) ⊕ (Bool × Mem)) :=
  (f_X11_n σ1).bind (fun (v3 : Int32) => if v3 ≤ i2 then (some (Sum.inr (true, σ1))) else ((f_X11_ones σ1 x1).bind (fun (σ4 : Mem) => (f_X11_puts σ4 x1 i2 1).bind (fun (σ5 : Mem) => bq (f_X11_areCommuting σ5 x0 x1 (x1 + 1)) (fun (b6 : Bool) (σ7 : Mem) => if b6 then some (Sum.inl (σ7, i2 + 1)) else some (Sum.inr (false, σ7)))))))
noncomputable def f_X11_isCentral (σ : Mem) (x0 : Int32) (x1 : Int32) : Option (Bool × Mem) :=
  loopO (fun (z2 : (Mem × Int32)) => l_X11_isCentral_2 x0 x1 z2.1 z2.2) (σ, 0)
theorem t_X11_isCentral {w : Wd} (hw : WOK w) (hN : wn w = NT) {σ : Mem} {x0 : Int32} {x1 : Int32} : JO w mu_X11_isCentral vB σ [(0, .ref (adr w 306)), (1, .int x0), (2, .int x1)] [] 0 (f_X11_isCentral σ x0 x1) some := by
  unfold f_X11_isCentral
  refine jo_iconst (pc := 0) dX11_isCentral_0 (ic_i_0) ?_
  refine jo_istore_n (pc := 1) (lv' := [(3, .int 0), (0, .ref (adr w 306)), (1, .int x0), (2, .int x1)]) dX11_isCentral_1 rfl (ltb rfl) rfl ?_
  refine jo_lv (lv' := [(0, .ref (adr w 306)), (1, .int x0), (2, .int x1), (3, .int 0)]) [1, 2, 3, 0] rfl ?_
  refine jo_loop (X := (Bool × Mem)) (fun (z2 : (Mem × Int32)) => z2.1) (fun (z2 : (Mem × Int32)) => [(0, .ref (adr w 306)), (1, .int x0), (2, .int x1), (3, .int z2.2)]) (body := (fun (z2 : (Mem × Int32)) => l_X11_isCentral_2 x0 x1 z2.1 z2.2)) (fun F2_2 hF2_2 s => ?_) (σ, 0)
  obtain ⟨σ1, i2⟩ := s
  show JO w mu_X11_isCentral vB σ1 [(0, .ref (adr w 306)), (1, .int x0), (2, .int x1), (3, .int i2)] [] 2 (l_X11_isCentral_2 x0 x1 σ1 i2) _
  unfold l_X11_isCentral_2
  refine jo_iload_n (pc := 2) 3 rfl dX11_isCentral_2 rfl ?_
  refine jo_aload_n (pc := 3) 0 rfl dX11_isCentral_3 rfl ?_
  refine jo_cV_I_p (pc := 4) (μ' := mu_X11_n) (fx := f_X11_n σ1) (As := []) (c_X11_n hw hN) (ok_X11_n) (ltb rfl) (all3 gw_1441 gw_1443 gw_68) (ik_306 hw hN) (by decide) (q := (RX11, TX11, 39)) rfl rfl rfl rfl (Nat.le_of_ble_eq_true rfl) dX11_isCentral_4 (fun v3 => ?_)
  refine jo_icmp_ge (pc := 7) dX11_isCentral_7 (tgt := 42) rfl ?_ ?_
  · refine jo_iconst (pc := 42) dX11_isCentral_42 (ic_i_1) ?_
    exact jo_breturn (pc := 43) (b := true) rfl rfl dX11_isCentral_43
  · refine jo_aload_n (pc := 10) 0 rfl dX11_isCentral_10 rfl ?_
    refine jo_iload_n (pc := 11) 2 rfl dX11_isCentral_11 rfl ?_
    refine jo_cV_V_i (pc := 12) (μ' := mu_X11_ones) (fx := f_X11_ones σ1 x1) (As := [.int x1]) (c_X11_ones hw hN) (ok_X11_ones) (ltb rfl) (all3 gw_1587 gw_1589 gw_99) (ik_306 hw hN) (by decide) (q := (RX11, TX11, 39)) rfl rfl rfl rfl (Nat.le_of_ble_eq_true rfl) dX11_isCentral_12 (fun σ4 => ?_)
    refine jo_aload_n (pc := 15) 0 rfl dX11_isCentral_15 rfl ?_
    refine jo_iload_n (pc := 16) 2 rfl dX11_isCentral_16 rfl ?_
    refine jo_iload_n (pc := 17) 3 rfl dX11_isCentral_17 rfl ?_
    refine jo_lconst (pc := 18) dX11_isCentral_18 (ic_l_1) ?_
    refine jo_cV_V_i (pc := 19) (μ' := mu_X11_puts) (fx := f_X11_puts σ4 x1 i2 1) (As := [.int x1, .int i2, .long 1]) (c_X11_puts hw hN) (ok_X11_puts) (ltb rfl) (all3 gw_1519 gw_1521 gw_85) (ik_306 hw hN) (by decide) (q := (RX11, TX11, 39)) rfl rfl rfl rfl (Nat.le_of_ble_eq_true rfl) dX11_isCentral_19 (fun σ5 => ?_)
    refine jo_aload_n (pc := 22) 0 rfl dX11_isCentral_22 rfl ?_
    refine jo_iload_n (pc := 23) 1 rfl dX11_isCentral_23 rfl ?_
    refine jo_iload_n (pc := 24) 2 rfl dX11_isCentral_24 rfl ?_
    refine jo_iload_n (pc := 25) 2 rfl dX11_isCentral_25 rfl ?_
    refine jo_iconst (pc := 26) dX11_isCentral_26 (ic_i_1) ?_
    refine jo_iadd (pc := 27) dX11_isCentral_27 ?_
    refine jo_cV_Z_i (pc := 28) (μ' := mu_X11_areCommuting) (fx := f_X11_areCommuting σ5 x0 x1 (x1 + 1)) (As := [.int x0, .int x1, .int (x1 + 1)]) (c_X11_areCommuting hw hN) (ok_X11_areCommuting) (ltb rfl) (all3 gw_1746 gw_1748 gw_124) (ik_306 hw hN) (by decide) (q := (RX11, TX11, 39)) rfl rfl rfl rfl (Nat.le_of_ble_eq_true rfl) dX11_isCentral_28 (fun b6 σ7 => ?_)
    refine jo_ifz_ne (pc := 31) dX11_isCentral_31 (tgt := 36) rfl ?_ ?_
    · refine jo_iinc (pc := 36) (lv' := [(3, .int (i2 + 1)), (0, .ref (adr w 306)), (1, .int x0), (2, .int x1)]) 3 rfl dX11_isCentral_36 (congrArg (fun z => i2 + z) (ic_i_1)) (ltb rfl) rfl ?_
      refine jo_goto (pc := 39) dX11_isCentral_39 (tgt := 2) rfl ?_
      refine jo_lv (lv' := [(0, .ref (adr w 306)), (1, .int x0), (2, .int x1), (3, .int (i2 + 1))]) [1, 2, 3, 0] rfl ?_
      exact jo_leaf (by rfl) (hF2_2 (σ7, i2 + 1))
    · refine jo_iconst (pc := 34) dX11_isCentral_34 (ic_i_0) ?_
      exact jo_breturn (pc := 35) (b := false) rfl rfl dX11_isCentral_35
theorem c_X11_isCentral {w : Wd} (hw : WOK w) (hN : wn w = NT) {σ : Mem} {x0 : Int32} {x1 : Int32} : ∀ r σ', f_X11_isCentral σ x0 x1 = some (r, σ') → MC w mu_X11_isCentral (vB r) [.ref (adr w 306), .int x0, .int x1] σ σ' := mc_of ok_X11_isCentral rfl (Nat.le_of_ble_eq_true rfl) (t_X11_isCentral hw hN)
abbrev mu_X11_isCentralLetter : MD := (yX11_isCentralLetter, cX11_isCentralLetter, 2, some .boolean, 8)
theorem ok_X11_isCentralLetter : MOK mu_X11_isCentralLetter 1 := ⟨gw_1741, gw_171, (by decide +kernel : plainFor yX11_isCentralLetter = true), ⟨(by decide +kernel : yX11_isCentralLetter.cls ≠ "java/lang/invoke/MethodHandle"), (by decide +kernel : yX11_isCentralLetter.cls ≠ "java/lang/invoke/VarHandle"), (by decide +kernel : (parseMethodDescriptor yX11_isCentralLetter.desc).map (fun d => d.parameters.length) = some 1)⟩, Nat.le_of_ble_eq_true rfl⟩
noncomputable def f_X11_isCentralLetter (σ : Mem) (x0 : Int32) : Option (Bool × Mem) :=
  (f_X11_ones σ 0).bind (fun (σ1 : Mem) => (f_X11_puts σ1 0 x0 1).bind (fun (σ2 : Mem) => bq (f_X11_isCentral σ2 0 1) (fun (b3 : Bool) (σ4 : Mem) => some (b3, σ4))))
theorem t_X11_isCentralLetter {w : Wd} (hw : WOK w) (hN : wn w = NT) {σ : Mem} {x0 : Int32} : JO w mu_X11_isCentralLetter vB σ [(0, .ref (adr w 306)), (1, .int x0)] [] 0 (f_X11_isCentralLetter σ x0) some := by
  unfold f_X11_isCentralLetter
  refine jo_aload_n (pc := 0) 0 rfl dX11_isCentralLetter_0 rfl ?_
  refine jo_iconst (pc := 1) dX11_isCentralLetter_1 (ic_i_0) ?_
  refine jo_cV_V_i (pc := 2) (μ' := mu_X11_ones) (fx := f_X11_ones σ 0) (As := [.int 0]) (c_X11_ones hw hN) (ok_X11_ones) (ltb rfl) (all3 gw_1587 gw_1589 gw_99) (ik_306 hw hN) (by decide) (q := (RX11, TX11, 39)) rfl rfl rfl rfl (Nat.le_of_ble_eq_true rfl) dX11_isCentralLetter_2 (fun σ1 => ?_)
  refine jo_aload_n (pc := 5) 0 rfl dX11_isCentralLetter_5 rfl ?_
  refine jo_iconst (pc := 6) dX11_isCentralLetter_6 (ic_i_0) ?_
  refine jo_iload_n (pc := 7) 1 rfl dX11_isCentralLetter_7 rfl ?_
  refine jo_lconst (pc := 8) dX11_isCentralLetter_8 (ic_l_1) ?_
  refine jo_cV_V_i (pc := 9) (μ' := mu_X11_puts) (fx := f_X11_puts σ1 0 x0 1) (As := [.int 0, .int x0, .long 1]) (c_X11_puts hw hN) (ok_X11_puts) (ltb rfl) (all3 gw_1519 gw_1521 gw_85) (ik_306 hw hN) (by decide) (q := (RX11, TX11, 39)) rfl rfl rfl rfl (Nat.le_of_ble_eq_true rfl) dX11_isCentralLetter_9 (fun σ2 => ?_)
  refine jo_aload_n (pc := 12) 0 rfl dX11_isCentralLetter_12 rfl ?_
  refine jo_iconst (pc := 13) dX11_isCentralLetter_13 (ic_i_0) ?_
  refine jo_iconst (pc := 14) dX11_isCentralLetter_14 (ic_i_1) ?_
  refine jo_cV_Z_i (pc := 15) (μ' := mu_X11_isCentral) (fx := f_X11_isCentral σ2 0 1) (As := [.int 0, .int 1]) (c_X11_isCentral hw hN) (ok_X11_isCentral) (ltb rfl) (all3 gw_1742 gw_1744 gw_123) (ik_306 hw hN) (by decide) (q := (RX11, TX11, 39)) rfl rfl rfl rfl (Nat.le_of_ble_eq_true rfl) dX11_isCentralLetter_15 (fun b3 σ4 => ?_)
  exact jo_breturn (pc := 18) (b := b3) rfl rfl dX11_isCentralLetter_18
theorem c_X11_isCentralLetter {w : Wd} (hw : WOK w) (hN : wn w = NT) {σ : Mem} {x0 : Int32} : ∀ r σ', f_X11_isCentralLetter σ x0 = some (r, σ') → MC w mu_X11_isCentralLetter (vB r) [.ref (adr w 306), .int x0] σ σ' := mc_of ok_X11_isCentralLetter rfl (Nat.le_of_ble_eq_true rfl) (t_X11_isCentralLetter hw hN)
abbrev mu_X11_generator : MD := (yX11_generator, cX11_generator, 3, some .int, 37)
theorem ok_X11_generator : MOK mu_X11_generator 2 := ⟨gw_1737, gw_171, (by decide +kernel : plainFor yX11_generator = true), ⟨(by decide +kernel : yX11_generator.cls ≠ "java/lang/invoke/MethodHandle"), (by decide +kernel : yX11_generator.cls ≠ "java/lang/invoke/VarHandle"), (by decide +kernel : (parseMethodDescriptor yX11_generator.desc).map (fun d => d.parameters.length) = some 2)⟩, Nat.le_of_ble_eq_true rfl⟩
noncomputable def j_X11_generator_64 (σ4 : Mem) : Option (Int32 × Mem) :=
  some ((-1), σ4)
noncomputable def f_X11_generator (σ : Mem) (x0 : Int32) (x1 : Int32) : Option (Int32 × Mem) :=
  pF σ 306 0 0 (fun (σ1 : Mem) => (f_X11_n σ1).bind (fun (v2 : Int32) => (f_X11_isIn σ1 (Int32.toInt64 x0) 1 (Int32.toInt64 v2)).bind (fun (b3 : Bool) => if b3 then if x1 = 0 then ((f_X11_weight σ1 (x0 - 1)).bind (fun (v9 : Int32) => some (v9, σ1))) else ((if x1 = 1 then (bq (f_X11_isConsistent σ1) (fun (b5 : Bool) (σ6 : Mem) => if b5 then bq (f_X11_isCentralLetter σ6 (x0 - 1)) (fun (b7 : Bool) (σ8 : Mem) => if b7 then some (Sum.inr (1, σ8)) else some (Sum.inr (0, σ8))) else some (Sum.inl σ6))) else (some (Sum.inl σ1)) : Option (Mem ⊕ (Int32 × Mem))).bind (Sum.elim (fun (z4 : Mem) => j_X11_generator_64 z4) some)) else some ((-1), σ1))))
theorem t_X11_generator {w : Wd} (hw : WOK w) (hN : wn w = NT) {σ : Mem} {x0 : Int32} {x1 : Int32} : JO w mu_X11_generator vI σ [(0, .ref (adr w 306)), (1, .int x0), (2, .int x1)] [] 0 (f_X11_generator σ x0 x1) some := by
  unfold f_X11_generator
  refine jo_aload_n (pc := 0) 0 rfl dX11_generator_0 rfl ?_
  refine jo_iconst (pc := 1) dX11_generator_1 (ic_i_0) ?_
  refine jo_putf (pc := 2) ok_11_0 okp_11_0 (ik_306 hw hN) gw_1293 dX11_generator_2 (fun σ1 => ?_)
  refine jo_aload_n (pc := 5) 0 rfl dX11_generator_5 rfl ?_
  refine jo_iload_n (pc := 6) 1 rfl dX11_generator_6 rfl ?_
  refine jo_i2l (pc := 7) dX11_generator_7 ?_
  refine jo_lconst (pc := 8) dX11_generator_8 (ic_l_1) ?_
  refine jo_aload_n (pc := 9) 0 rfl dX11_generator_9 rfl ?_
  refine jo_cV_I_p (pc := 10) (μ' := mu_X11_n) (fx := f_X11_n σ1) (As := []) (c_X11_n hw hN) (ok_X11_n) (ltb rfl) (all3 gw_1441 gw_1443 gw_68) (ik_306 hw hN) (by decide) (q := (RX11, TX11, 39)) rfl rfl rfl rfl (Nat.le_of_ble_eq_true rfl) dX11_generator_10 (fun v2 => ?_)
  refine jo_i2l (pc := 13) dX11_generator_13 ?_
  refine jo_cV_Z_p (pc := 14) (μ' := mu_X11_isIn) (fx := f_X11_isIn σ1 (Int32.toInt64 x0) 1 (Int32.toInt64 v2)) (As := [.long (Int32.toInt64 x0), .long 1, .long (Int32.toInt64 v2)]) (c_X11_isIn hw hN) (ok_X11_isIn) (ltb rfl) (all3 gw_1420 gw_1422 gw_64) (ik_306 hw hN) (by decide) (q := (RX11, TX11, 39)) rfl rfl rfl rfl (Nat.le_of_ble_eq_true rfl) dX11_generator_14 (fun b3 => ?_)
  refine jo_ifz_ne (pc := 17) dX11_generator_17 (tgt := 22) rfl ?_ ?_
  · refine jo_iload_n (pc := 22) 2 rfl dX11_generator_22 rfl ?_
    refine jo_if_ne (pc := 23) dX11_generator_23 (tgt := 34) rfl ?_ ?_
    · refine jo_iload_n (pc := 34) 2 rfl dX11_generator_34 rfl ?_
      refine jo_iconst (pc := 35) dX11_generator_35 (ic_i_1) ?_
      refine jo_joinS (S := Mem) (fun (z4 : Mem) => z4) (fun (z4 : Mem) => []) (fun (z4 : Mem) => []) 64 ?_ (fun h64_4 => ?_)
      · intro σ4
        show JO w mu_X11_generator vI σ4 [] [] 64 (j_X11_generator_64 σ4) _
        unfold j_X11_generator_64
        refine jo_iconst (pc := 64) dX11_generator_64 (ic_i_m1) ?_
        exact jo_ireturn (pc := 65) rfl rfl dX11_generator_65
      · refine jo_icmp_ne (pc := 36) dX11_generator_36 (tgt := 64) rfl ?_ ?_
        · refine jo_lv (lv' := []) [] rfl ?_
          exact jo_leaf (by rfl) (h64_4 σ1)
        · refine jo_aload_n (pc := 39) 0 rfl dX11_generator_39 rfl ?_
          refine jo_cV_Z_i (pc := 40) (μ' := mu_X11_isConsistent) (fx := f_X11_isConsistent σ1) (As := []) (c_X11_isConsistent hw hN) (ok_X11_isConsistent) (ltb rfl) (all3 gw_1475 gw_1477 gw_74) (ik_306 hw hN) (by decide) (q := (RX11, TX11, 39)) rfl rfl rfl rfl (Nat.le_of_ble_eq_true rfl) dX11_generator_40 (fun b5 σ6 => ?_)
          refine jo_ifz_eq (pc := 43) dX11_generator_43 (tgt := 64) rfl ?_ ?_
          · refine jo_lv (lv' := []) [] rfl ?_
            exact jo_leaf (by rfl) (h64_4 σ6)
          · refine jo_aload_n (pc := 46) 0 rfl dX11_generator_46 rfl ?_
            refine jo_iload_n (pc := 47) 1 rfl dX11_generator_47 rfl ?_
            refine jo_iconst (pc := 48) dX11_generator_48 (ic_i_1) ?_
            refine jo_isub (pc := 49) dX11_generator_49 ?_
            refine jo_cV_Z_i (pc := 50) (μ' := mu_X11_isCentralLetter) (fx := f_X11_isCentralLetter σ6 (x0 - 1)) (As := [.int (x0 - 1)]) (c_X11_isCentralLetter hw hN) (ok_X11_isCentralLetter) (ltb rfl) (all3 gw_1738 gw_1740 gw_122) (ik_306 hw hN) (by decide) (q := (RX11, TX11, 39)) rfl rfl rfl rfl (Nat.le_of_ble_eq_true rfl) dX11_generator_50 (fun b7 σ8 => ?_)
            refine jo_ifz_eq (pc := 53) dX11_generator_53 (tgt := 60) rfl ?_ ?_
            · refine jo_iconst (pc := 60) dX11_generator_60 (ic_i_0) ?_
              refine jo_goto (pc := 61) dX11_generator_61 (tgt := 65) rfl ?_
              exact jo_ireturn (pc := 65) rfl rfl dX11_generator_65
            · refine jo_iconst (pc := 56) dX11_generator_56 (ic_i_1) ?_
              refine jo_goto (pc := 57) dX11_generator_57 (tgt := 65) rfl ?_
              exact jo_ireturn (pc := 65) rfl rfl dX11_generator_65
    · refine jo_aload_n (pc := 26) 0 rfl dX11_generator_26 rfl ?_
      refine jo_iload_n (pc := 27) 1 rfl dX11_generator_27 rfl ?_
      refine jo_iconst (pc := 28) dX11_generator_28 (ic_i_1) ?_
      refine jo_isub (pc := 29) dX11_generator_29 ?_
      refine jo_cV_I_p (pc := 30) (μ' := mu_X11_weight) (fx := f_X11_weight σ1 (x0 - 1)) (As := [.int (x0 - 1)]) (c_X11_weight hw hN) (ok_X11_weight) (ltb rfl) (all3 gw_1446 gw_1448 gw_69) (ik_306 hw hN) (by decide) (q := (RX11, TX11, 39)) rfl rfl rfl rfl (Nat.le_of_ble_eq_true rfl) dX11_generator_30 (fun v9 => ?_)
      exact jo_ireturn (pc := 33) rfl rfl dX11_generator_33
  · refine jo_iconst (pc := 20) dX11_generator_20 (ic_i_m1) ?_
    exact jo_ireturn (pc := 21) rfl rfl dX11_generator_21
theorem c_X11_generator {w : Wd} (hw : WOK w) (hN : wn w = NT) {σ : Mem} {x0 : Int32} {x1 : Int32} : ∀ r σ', f_X11_generator σ x0 x1 = some (r, σ') → MC w mu_X11_generator (vI r) [.ref (adr w 306), .int x0, .int x1] σ σ' := mc_of ok_X11_generator rfl (Nat.le_of_ble_eq_true rfl) (t_X11_generator hw hN)
abbrev mu_X11_tailOf : MD := (yX11_tailOf, cX11_tailOf, 4, some .int, 2)
theorem ok_X11_tailOf : MOK mu_X11_tailOf 3 := ⟨gw_1757, gw_171, (by decide +kernel : plainFor yX11_tailOf = true), ⟨(by decide +kernel : yX11_tailOf.cls ≠ "java/lang/invoke/MethodHandle"), (by decide +kernel : yX11_tailOf.cls ≠ "java/lang/invoke/VarHandle"), (by decide +kernel : (parseMethodDescriptor yX11_tailOf.desc).map (fun d => d.parameters.length) = some 3)⟩, Nat.le_of_ble_eq_true rfl⟩
noncomputable def f_X11_tailOf (σ : Mem) (x0 : Int32) (x1 : Int32) (x2 : Int32) : Option (Int32 × Mem) :=
  pF σ 306 0 0 (fun (σ1 : Mem) => (f_X11_isTail σ1 x0 x1 x2).bind (fun (b2 : Bool) => if b2 then (f_X11_tail σ1 (x0 - 1) (x1 - 1) (x2 - 1)).bind (fun (v3 : Int32) => some (v3, σ1)) else some ((-1), σ1)))
theorem t_X11_tailOf {w : Wd} (hw : WOK w) (hN : wn w = NT) {σ : Mem} {x0 : Int32} {x1 : Int32} {x2 : Int32} : JO w mu_X11_tailOf vI σ [(0, .ref (adr w 306)), (1, .int x0), (2, .int x1), (3, .int x2)] [] 0 (f_X11_tailOf σ x0 x1 x2) some := by
  unfold f_X11_tailOf
  refine jo_aload_n (pc := 0) 0 rfl dX11_tailOf_0 rfl ?_
  refine jo_iconst (pc := 1) dX11_tailOf_1 (ic_i_0) ?_
  refine jo_putf (pc := 2) ok_11_0 okp_11_0 (ik_306 hw hN) gw_1293 dX11_tailOf_2 (fun σ1 => ?_)
  refine jo_aload_n (pc := 5) 0 rfl dX11_tailOf_5 rfl ?_
  refine jo_iload_n (pc := 6) 1 rfl dX11_tailOf_6 rfl ?_
  refine jo_iload_n (pc := 7) 2 rfl dX11_tailOf_7 rfl ?_
  refine jo_iload_n (pc := 8) 3 rfl dX11_tailOf_8 rfl ?_
  refine jo_cV_Z_p (pc := 9) (μ' := mu_X11_isTail) (fx := f_X11_isTail σ1 x0 x1 x2) (As := [.int x0, .int x1, .int x2]) (c_X11_isTail hw hN) (ok_X11_isTail) (ltb rfl) (all3 gw_1437 gw_1439 gw_67) (ik_306 hw hN) (by decide) (q := (RX11, TX11, 39)) rfl rfl rfl rfl (Nat.le_of_ble_eq_true rfl) dX11_tailOf_9 (fun b2 => ?_)
  refine jo_ifz_eq (pc := 12) dX11_tailOf_12 (tgt := 31) rfl ?_ ?_
  · refine jo_iconst (pc := 31) dX11_tailOf_31 (ic_i_m1) ?_
    exact jo_ireturn (pc := 32) rfl rfl dX11_tailOf_32
  · refine jo_aload_n (pc := 15) 0 rfl dX11_tailOf_15 rfl ?_
    refine jo_iload_n (pc := 16) 1 rfl dX11_tailOf_16 rfl ?_
    refine jo_iconst (pc := 17) dX11_tailOf_17 (ic_i_1) ?_
    refine jo_isub (pc := 18) dX11_tailOf_18 ?_
    refine jo_iload_n (pc := 19) 2 rfl dX11_tailOf_19 rfl ?_
    refine jo_iconst (pc := 20) dX11_tailOf_20 (ic_i_1) ?_
    refine jo_isub (pc := 21) dX11_tailOf_21 ?_
    refine jo_iload_n (pc := 22) 3 rfl dX11_tailOf_22 rfl ?_
    refine jo_iconst (pc := 23) dX11_tailOf_23 (ic_i_1) ?_
    refine jo_isub (pc := 24) dX11_tailOf_24 ?_
    refine jo_cV_I_p (pc := 25) (μ' := mu_X11_tail) (fx := f_X11_tail σ1 (x0 - 1) (x1 - 1) (x2 - 1)) (As := [.int (x0 - 1), .int (x1 - 1), .int (x2 - 1)]) (c_X11_tail hw hN) (ok_X11_tail) (ltb rfl) (all3 gw_1495 gw_1497 gw_79) (ik_306 hw hN) (by decide) (q := (RX11, TX11, 39)) rfl rfl rfl rfl (Nat.le_of_ble_eq_true rfl) dX11_tailOf_25 (fun v3 => ?_)
    refine jo_goto (pc := 28) dX11_tailOf_28 (tgt := 32) rfl ?_
    exact jo_ireturn (pc := 32) rfl rfl dX11_tailOf_32
theorem c_X11_tailOf {w : Wd} (hw : WOK w) (hN : wn w = NT) {σ : Mem} {x0 : Int32} {x1 : Int32} {x2 : Int32} : ∀ r σ', f_X11_tailOf σ x0 x1 x2 = some (r, σ') → MC w mu_X11_tailOf (vI r) [.ref (adr w 306), .int x0, .int x1, .int x2] σ σ' := mc_of ok_X11_tailOf rfl (Nat.le_of_ble_eq_true rfl) (t_X11_tailOf hw hN)
abbrev mu_X11_isPolynomial : MD := (yX11_isPolynomial, cX11_isPolynomial, 2, some .boolean, 37)
theorem ok_X11_isPolynomial : MOK mu_X11_isPolynomial 1 := ⟨gw_1765, gw_171, (by decide +kernel : plainFor yX11_isPolynomial = true), ⟨(by decide +kernel : yX11_isPolynomial.cls ≠ "java/lang/invoke/MethodHandle"), (by decide +kernel : yX11_isPolynomial.cls ≠ "java/lang/invoke/VarHandle"), (by decide +kernel : (parseMethodDescriptor yX11_isPolynomial.desc).map (fun d => d.parameters.length) = some 1)⟩, Nat.le_of_ble_eq_true rfl⟩
noncomputable def j_X11_isPolynomial_26 (σ3 : Mem) : Option (Bool × Mem) :=
  some (false, σ3)
noncomputable def f_X11_isPolynomial (σ : Mem) (x0 : Int32) : Option (Bool × Mem) :=
  (f_X11_n σ).bind (fun (v1 : Int32) => (f_X11_isIn σ (Int32.toInt64 x0) 1 (Int32.toInt64 v1)).bind (fun (b2 : Bool) => (if b2 then bq (f_X11_isConsistent σ) (fun (b4 : Bool) (σ5 : Mem) => if b4 then some (Sum.inr (true, σ5)) else some (Sum.inl σ5)) else some (Sum.inl σ) : Option (Mem ⊕ (Bool × Mem))).bind (Sum.elim (fun (z3 : Mem) => j_X11_isPolynomial_26 z3) some)))
theorem t_X11_isPolynomial {w : Wd} (hw : WOK w) (hN : wn w = NT) {σ : Mem} {x0 : Int32} : JO w mu_X11_isPolynomial vB σ [(0, .ref (adr w 306)), (1, .int x0)] [] 0 (f_X11_isPolynomial σ x0) some := by
  unfold f_X11_isPolynomial
  refine jo_aload_n (pc := 0) 0 rfl dX11_isPolynomial_0 rfl ?_
  refine jo_iload_n (pc := 1) 1 rfl dX11_isPolynomial_1 rfl ?_
  refine jo_i2l (pc := 2) dX11_isPolynomial_2 ?_
  refine jo_lconst (pc := 3) dX11_isPolynomial_3 (ic_l_1) ?_
  refine jo_aload_n (pc := 4) 0 rfl dX11_isPolynomial_4 rfl ?_
  refine jo_cV_I_p (pc := 5) (μ' := mu_X11_n) (fx := f_X11_n σ) (As := []) (c_X11_n hw hN) (ok_X11_n) (ltb rfl) (all3 gw_1441 gw_1443 gw_68) (ik_306 hw hN) (by decide) (q := (RX11, TX11, 39)) rfl rfl rfl rfl (Nat.le_of_ble_eq_true rfl) dX11_isPolynomial_5 (fun v1 => ?_)
  refine jo_i2l (pc := 8) dX11_isPolynomial_8 ?_
  refine jo_cV_Z_p (pc := 9) (μ' := mu_X11_isIn) (fx := f_X11_isIn σ (Int32.toInt64 x0) 1 (Int32.toInt64 v1)) (As := [.long (Int32.toInt64 x0), .long 1, .long (Int32.toInt64 v1)]) (c_X11_isIn hw hN) (ok_X11_isIn) (ltb rfl) (all3 gw_1420 gw_1422 gw_64) (ik_306 hw hN) (by decide) (q := (RX11, TX11, 39)) rfl rfl rfl rfl (Nat.le_of_ble_eq_true rfl) dX11_isPolynomial_9 (fun b2 => ?_)
  refine jo_joinS (S := Mem) (fun (z3 : Mem) => z3) (fun (z3 : Mem) => []) (fun (z3 : Mem) => []) 26 ?_ (fun h26_3 => ?_)
  · intro σ3
    show JO w mu_X11_isPolynomial vB σ3 [] [] 26 (j_X11_isPolynomial_26 σ3) _
    unfold j_X11_isPolynomial_26
    refine jo_iconst (pc := 26) dX11_isPolynomial_26 (ic_i_0) ?_
    exact jo_breturn (pc := 27) (b := false) rfl rfl dX11_isPolynomial_27
  · refine jo_ifz_eq (pc := 12) dX11_isPolynomial_12 (tgt := 26) rfl ?_ ?_
    · refine jo_lv (lv' := []) [] rfl ?_
      exact jo_leaf (by rfl) (h26_3 σ)
    · refine jo_aload_n (pc := 15) 0 rfl dX11_isPolynomial_15 rfl ?_
      refine jo_cV_Z_i (pc := 16) (μ' := mu_X11_isConsistent) (fx := f_X11_isConsistent σ) (As := []) (c_X11_isConsistent hw hN) (ok_X11_isConsistent) (ltb rfl) (all3 gw_1475 gw_1477 gw_74) (ik_306 hw hN) (by decide) (q := (RX11, TX11, 39)) rfl rfl rfl rfl (Nat.le_of_ble_eq_true rfl) dX11_isPolynomial_16 (fun b4 σ5 => ?_)
      refine jo_ifz_eq (pc := 19) dX11_isPolynomial_19 (tgt := 26) rfl ?_ ?_
      · refine jo_lv (lv' := []) [] rfl ?_
        exact jo_leaf (by rfl) (h26_3 σ5)
      · refine jo_iconst (pc := 22) dX11_isPolynomial_22 (ic_i_1) ?_
        refine jo_goto (pc := 23) dX11_isPolynomial_23 (tgt := 27) rfl ?_
        exact jo_breturn (pc := 27) (b := true) rfl rfl dX11_isPolynomial_27
theorem c_X11_isPolynomial {w : Wd} (hw : WOK w) (hN : wn w = NT) {σ : Mem} {x0 : Int32} : ∀ r σ', f_X11_isPolynomial σ x0 = some (r, σ') → MC w mu_X11_isPolynomial (vB r) [.ref (adr w 306), .int x0] σ σ' := mc_of ok_X11_isPolynomial rfl (Nat.le_of_ble_eq_true rfl) (t_X11_isPolynomial hw hN)
abbrev mu_X11_terms : MD := (yX11_terms, cX11_terms, 2, some .int, 38)
theorem ok_X11_terms : MOK mu_X11_terms 1 := ⟨gw_1761, gw_171, (by decide +kernel : plainFor yX11_terms = true), ⟨(by decide +kernel : yX11_terms.cls ≠ "java/lang/invoke/MethodHandle"), (by decide +kernel : yX11_terms.cls ≠ "java/lang/invoke/VarHandle"), (by decide +kernel : (parseMethodDescriptor yX11_terms.desc).map (fun d => d.parameters.length) = some 1)⟩, Nat.le_of_ble_eq_true rfl⟩
noncomputable def f_X11_terms (σ : Mem) (x0 : Int32) : Option (Int32 × Mem) :=
  pF σ 306 0 0 (fun (σ1 : Mem) => bq (f_X11_isPolynomial σ1 x0) (fun (b2 : Bool) (σ3 : Mem) => if b2 then gI σ3 311 (x0 - 1) (fun (v4 : Int32) => some (v4, σ3)) else some ((-1), σ3)))
theorem t_X11_terms {w : Wd} (hw : WOK w) (hN : wn w = NT) {σ : Mem} {x0 : Int32} : JO w mu_X11_terms vI σ [(0, .ref (adr w 306)), (1, .int x0)] [] 0 (f_X11_terms σ x0) some := by
  unfold f_X11_terms
  refine jo_aload_n (pc := 0) 0 rfl dX11_terms_0 rfl ?_
  refine jo_iconst (pc := 1) dX11_terms_1 (ic_i_0) ?_
  refine jo_putf (pc := 2) ok_11_0 okp_11_0 (ik_306 hw hN) gw_1293 dX11_terms_2 (fun σ1 => ?_)
  refine jo_aload_n (pc := 5) 0 rfl dX11_terms_5 rfl ?_
  refine jo_iload_n (pc := 6) 1 rfl dX11_terms_6 rfl ?_
  refine jo_cV_Z_i (pc := 7) (μ' := mu_X11_isPolynomial) (fx := f_X11_isPolynomial σ1 x0) (As := [.int x0]) (c_X11_isPolynomial hw hN) (ok_X11_isPolynomial) (ltb rfl) (all3 gw_1762 gw_1764 gw_126) (ik_306 hw hN) (by decide) (q := (RX11, TX11, 39)) rfl rfl rfl rfl (Nat.le_of_ble_eq_true rfl) dX11_terms_7 (fun b2 σ3 => ?_)
  refine jo_ifz_eq (pc := 10) dX11_terms_10 (tgt := 24) rfl ?_ ?_
  · refine jo_iconst (pc := 24) dX11_terms_24 (ic_i_m1) ?_
    exact jo_ireturn (pc := 25) rfl rfl dX11_terms_25
  · refine jo_aload_n (pc := 13) 0 rfl dX11_terms_13 rfl ?_
    refine jo_getrE (pc := 14) ok_11_11 (ik_306 hw hN) rf_306_11 gw_1304 dX11_terms_14 ?_
    refine jo_iload_n (pc := 17) 1 rfl dX11_terms_17 rfl ?_
    refine jo_iconst (pc := 18) dX11_terms_18 (ic_i_1) ?_
    refine jo_isub (pc := 19) dX11_terms_19 ?_
    refine jo_iald (pc := 20) (ik_311 hw hN) dX11_terms_20 (fun v4 => ?_)
    refine jo_goto (pc := 21) dX11_terms_21 (tgt := 25) rfl ?_
    exact jo_ireturn (pc := 25) rfl rfl dX11_terms_25
theorem c_X11_terms {w : Wd} (hw : WOK w) (hN : wn w = NT) {σ : Mem} {x0 : Int32} : ∀ r σ', f_X11_terms σ x0 = some (r, σ') → MC w mu_X11_terms (vI r) [.ref (adr w 306), .int x0] σ σ' := mc_of ok_X11_terms rfl (Nat.le_of_ble_eq_true rfl) (t_X11_terms hw hN)
abbrev mu_X11_termAt : MD := (yX11_termAt, cX11_termAt, 3, some .int, 0)
theorem ok_X11_termAt : MOK mu_X11_termAt 2 := ⟨gw_1773, gw_171, (by decide +kernel : plainFor yX11_termAt = true), ⟨(by decide +kernel : yX11_termAt.cls ≠ "java/lang/invoke/MethodHandle"), (by decide +kernel : yX11_termAt.cls ≠ "java/lang/invoke/VarHandle"), (by decide +kernel : (parseMethodDescriptor yX11_termAt.desc).map (fun d => d.parameters.length) = some 2)⟩, Nat.le_of_ble_eq_true rfl⟩
noncomputable def f_X11_termAt (σ : Mem) (x0 : Int32) (x1 : Int32) : Option Int32 :=
  some ((9100 * (x0 - 1)) + (13 * x1))
theorem t_X11_termAt {w : Wd} (hw : WOK w) (hN : wn w = NT) {σ : Mem} {x0 : Int32} {x1 : Int32} : JO w mu_X11_termAt vI σ [(0, .ref (adr w 306)), (1, .int x0), (2, .int x1)] [] 0 (f_X11_termAt σ x0 x1) (fun z => some (z, σ)) := by
  unfold f_X11_termAt
  refine jo_sipush (pc := 0) dX11_termAt_0 (ic_s_9100) ?_
  refine jo_iload_n (pc := 3) 1 rfl dX11_termAt_3 rfl ?_
  refine jo_iconst (pc := 4) dX11_termAt_4 (ic_i_1) ?_
  refine jo_isub (pc := 5) dX11_termAt_5 ?_
  refine jo_imul (pc := 6) dX11_termAt_6 ?_
  refine jo_bipush (pc := 7) dX11_termAt_7 (ic_b_13) ?_
  refine jo_iload_n (pc := 9) 2 rfl dX11_termAt_9 rfl ?_
  refine jo_imul (pc := 10) dX11_termAt_10 ?_
  refine jo_iadd (pc := 11) dX11_termAt_11 ?_
  exact jo_ireturn (pc := 12) rfl rfl dX11_termAt_12
theorem c_X11_termAt {w : Wd} (hw : WOK w) (hN : wn w = NT) {σ : Mem} {x0 : Int32} {x1 : Int32} : ∀ r, f_X11_termAt σ x0 x1 = some r → MC w mu_X11_termAt (vI r) [.ref (adr w 306), .int x0, .int x1] σ σ := mc_ofP ok_X11_termAt rfl (Nat.le_of_ble_eq_true rfl) (t_X11_termAt hw hN)
abbrev mu_X11_term : MD := (yX11_term, cX11_term, 4, some .int, 38)
theorem ok_X11_term : MOK mu_X11_term 3 := ⟨gw_1769, gw_171, (by decide +kernel : plainFor yX11_term = true), ⟨(by decide +kernel : yX11_term.cls ≠ "java/lang/invoke/MethodHandle"), (by decide +kernel : yX11_term.cls ≠ "java/lang/invoke/VarHandle"), (by decide +kernel : (parseMethodDescriptor yX11_term.desc).map (fun d => d.parameters.length) = some 3)⟩, Nat.le_of_ble_eq_true rfl⟩
noncomputable def f_X11_term (σ : Mem) (x0 : Int32) (x1 : Int32) (x2 : Int32) : Option (Int32 × Mem) :=
  pF σ 306 0 0 (fun (σ1 : Mem) => bq (f_X11_isPolynomial σ1 x0) (fun (b2 : Bool) (σ3 : Mem) => if b2 then gI σ3 311 (x0 - 1) (fun (v4 : Int32) => (f_X11_isIn σ3 (Int32.toInt64 x1) 0 ((Int32.toInt64 v4) - 1)).bind (fun (b5 : Bool) => if b5 then (f_X11_n σ3).bind (fun (v6 : Int32) => (f_X11_isIn σ3 (Int32.toInt64 x2) 0 (2 * (Int32.toInt64 v6))).bind (fun (b7 : Bool) => if b7 then (f_X11_termAt σ3 x0 x1).bind (fun (v8 : Int32) => gL σ3 312 (v8 + x2) (fun (v9 : Int64) => some (Int64.toInt32 v9, σ3))) else some ((-10000), σ3))) else some ((-10000), σ3))) else some ((-10000), σ3)))
theorem t_X11_term {w : Wd} (hw : WOK w) (hN : wn w = NT) {σ : Mem} {x0 : Int32} {x1 : Int32} {x2 : Int32} : JO w mu_X11_term vI σ [(0, .ref (adr w 306)), (1, .int x0), (2, .int x1), (3, .int x2)] [] 0 (f_X11_term σ x0 x1 x2) some := by
  unfold f_X11_term
  refine jo_aload_n (pc := 0) 0 rfl dX11_term_0 rfl ?_
  refine jo_iconst (pc := 1) dX11_term_1 (ic_i_0) ?_
  refine jo_putf (pc := 2) ok_11_0 okp_11_0 (ik_306 hw hN) gw_1293 dX11_term_2 (fun σ1 => ?_)
  refine jo_aload_n (pc := 5) 0 rfl dX11_term_5 rfl ?_
  refine jo_iload_n (pc := 6) 1 rfl dX11_term_6 rfl ?_
  refine jo_cV_Z_i (pc := 7) (μ' := mu_X11_isPolynomial) (fx := f_X11_isPolynomial σ1 x0) (As := [.int x0]) (c_X11_isPolynomial hw hN) (ok_X11_isPolynomial) (ltb rfl) (all3 gw_1762 gw_1764 gw_126) (ik_306 hw hN) (by decide) (q := (RX11, TX11, 39)) rfl rfl rfl rfl (Nat.le_of_ble_eq_true rfl) dX11_term_7 (fun b2 σ3 => ?_)
  refine jo_ifz_eq (pc := 10) dX11_term_10 (tgt := 53) rfl ?_ ?_
  · refine jo_sipush (pc := 53) dX11_term_53 (ic_s_m10000) ?_
    exact jo_ireturn (pc := 56) rfl rfl dX11_term_56
  · refine jo_aload_n (pc := 13) 0 rfl dX11_term_13 rfl ?_
    refine jo_iload_n (pc := 14) 2 rfl dX11_term_14 rfl ?_
    refine jo_i2l (pc := 15) dX11_term_15 ?_
    refine jo_lconst (pc := 16) dX11_term_16 (ic_l_0) ?_
    refine jo_aload_n (pc := 17) 0 rfl dX11_term_17 rfl ?_
    refine jo_getrE (pc := 18) ok_11_11 (ik_306 hw hN) rf_306_11 gw_1304 dX11_term_18 ?_
    refine jo_iload_n (pc := 21) 1 rfl dX11_term_21 rfl ?_
    refine jo_iconst (pc := 22) dX11_term_22 (ic_i_1) ?_
    refine jo_isub (pc := 23) dX11_term_23 ?_
    refine jo_iald (pc := 24) (ik_311 hw hN) dX11_term_24 (fun v4 => ?_)
    refine jo_i2l (pc := 25) dX11_term_25 ?_
    refine jo_lconst (pc := 26) dX11_term_26 (ic_l_1) ?_
    refine jo_lsub (pc := 27) dX11_term_27 ?_
    refine jo_cV_Z_p (pc := 28) (μ' := mu_X11_isIn) (fx := f_X11_isIn σ3 (Int32.toInt64 x1) 0 ((Int32.toInt64 v4) - 1)) (As := [.long (Int32.toInt64 x1), .long 0, .long ((Int32.toInt64 v4) - 1)]) (c_X11_isIn hw hN) (ok_X11_isIn) (ltb rfl) (all3 gw_1420 gw_1422 gw_64) (ik_306 hw hN) (by decide) (q := (RX11, TX11, 39)) rfl rfl rfl rfl (Nat.le_of_ble_eq_true rfl) dX11_term_28 (fun b5 => ?_)
    refine jo_ifz_eq (pc := 31) dX11_term_31 (tgt := 53) rfl ?_ ?_
    · refine jo_sipush (pc := 53) dX11_term_53 (ic_s_m10000) ?_
      exact jo_ireturn (pc := 56) rfl rfl dX11_term_56
    · refine jo_aload_n (pc := 34) 0 rfl dX11_term_34 rfl ?_
      refine jo_iload_n (pc := 35) 3 rfl dX11_term_35 rfl ?_
      refine jo_i2l (pc := 36) dX11_term_36 ?_
      refine jo_lconst (pc := 37) dX11_term_37 (ic_l_0) ?_
      refine jo_ldc2 (pc := 38) dX11_term_38 gw_1547 ?_
      refine jo_aload_n (pc := 41) 0 rfl dX11_term_41 rfl ?_
      refine jo_cV_I_p (pc := 42) (μ' := mu_X11_n) (fx := f_X11_n σ3) (As := []) (c_X11_n hw hN) (ok_X11_n) (ltb rfl) (all3 gw_1441 gw_1443 gw_68) (ik_306 hw hN) (by decide) (q := (RX11, TX11, 39)) rfl rfl rfl rfl (Nat.le_of_ble_eq_true rfl) dX11_term_42 (fun v6 => ?_)
      refine jo_i2l (pc := 45) dX11_term_45 ?_
      refine jo_lmul (pc := 46) dX11_term_46 ?_
      refine jo_cV_Z_p (pc := 47) (μ' := mu_X11_isIn) (fx := f_X11_isIn σ3 (Int32.toInt64 x2) 0 (2 * (Int32.toInt64 v6))) (As := [.long (Int32.toInt64 x2), .long 0, .long (2 * (Int32.toInt64 v6))]) (c_X11_isIn hw hN) (ok_X11_isIn) (ltb rfl) (all3 gw_1420 gw_1422 gw_64) (ik_306 hw hN) (by decide) (q := (RX11, TX11, 39)) rfl rfl rfl rfl (Nat.le_of_ble_eq_true rfl) dX11_term_47 (fun b7 => ?_)
      refine jo_ifz_ne (pc := 50) dX11_term_50 (tgt := 57) rfl ?_ ?_
      · refine jo_aload_n (pc := 57) 0 rfl dX11_term_57 rfl ?_
        refine jo_getrE (pc := 58) ok_11_12 (ik_306 hw hN) rf_306_12 gw_1305 dX11_term_58 ?_
        refine jo_aload_n (pc := 61) 0 rfl dX11_term_61 rfl ?_
        refine jo_iload_n (pc := 62) 1 rfl dX11_term_62 rfl ?_
        refine jo_iload_n (pc := 63) 2 rfl dX11_term_63 rfl ?_
        refine jo_cV_I_p (pc := 64) (μ' := mu_X11_termAt) (fx := f_X11_termAt σ3 x0 x1) (As := [.int x0, .int x1]) (c_X11_termAt hw hN) (ok_X11_termAt) (ltb rfl) (all3 gw_1770 gw_1772 gw_127) (ik_306 hw hN) (by decide) (q := (RX11, TX11, 39)) rfl rfl rfl rfl (Nat.le_of_ble_eq_true rfl) dX11_term_64 (fun v8 => ?_)
        refine jo_iload_n (pc := 67) 3 rfl dX11_term_67 rfl ?_
        refine jo_iadd (pc := 68) dX11_term_68 ?_
        refine jo_lald (pc := 69) (ik_312 hw hN) dX11_term_69 (fun v9 => ?_)
        refine jo_l2i (pc := 70) dX11_term_70 ?_
        exact jo_ireturn (pc := 71) rfl rfl dX11_term_71
      · refine jo_sipush (pc := 53) dX11_term_53 (ic_s_m10000) ?_
        exact jo_ireturn (pc := 56) rfl rfl dX11_term_56
theorem c_X11_term {w : Wd} (hw : WOK w) (hN : wn w = NT) {σ : Mem} {x0 : Int32} {x1 : Int32} {x2 : Int32} : ∀ r σ', f_X11_term σ x0 x1 x2 = some (r, σ') → MC w mu_X11_term (vI r) [.ref (adr w 306), .int x0, .int x1, .int x2] σ σ' := mc_of ok_X11_term rfl (Nat.le_of_ble_eq_true rfl) (t_X11_term hw hN)
abbrev mu_X11_degreeOf : MD := (yX11_degreeOf, cX11_degreeOf, 5, some .int, 1)
theorem ok_X11_degreeOf : MOK mu_X11_degreeOf 2 := ⟨gw_1781, gw_171, (by decide +kernel : plainFor yX11_degreeOf = true), ⟨(by decide +kernel : yX11_degreeOf.cls ≠ "java/lang/invoke/MethodHandle"), (by decide +kernel : yX11_degreeOf.cls ≠ "java/lang/invoke/VarHandle"), (by decide +kernel : (parseMethodDescriptor yX11_degreeOf.desc).map (fun d => d.parameters.length) = some 2)⟩, Nat.le_of_ble_eq_true rfl⟩
noncomputable def l_X11_degreeOf_5 (σ : Mem) (x0 : Int32) (x1 : Int32) (i1 : Int32) (i2 : Int32) : Option ((Int32 × Int32) ⊕ Int32) :=
  (f_X11_n σ).bind (fun (v3 : Int32) => if (2 * v3) < i2 then (some (Sum.inr i1)) else ((f_X11_termAt σ x0 x1).bind (fun (v4 : Int32) => gL σ 312 (v4 + i2) (fun (v5 : Int64) => bd (i1 + (Int64.toInt32 v5)) (fun (v6 : Int32) => some (Sum.inl (v6, i2 + 1)))))))
noncomputable def f_X11_degreeOf (σ : Mem) (x0 : Int32) (x1 : Int32) : Option Int32 :=
  loopO (fun (z2 : (Int32 × Int32)) => l_X11_degreeOf_5 σ x0 x1 z2.1 z2.2) (0, 1)
theorem t_X11_degreeOf {w : Wd} (hw : WOK w) (hN : wn w = NT) {σ : Mem} {x0 : Int32} {x1 : Int32} : JO w mu_X11_degreeOf vI σ [(0, .ref (adr w 306)), (1, .int x0), (2, .int x1)] [] 0 (f_X11_degreeOf σ x0 x1) (fun z => some (z, σ)) := by
  unfold f_X11_degreeOf
  refine jo_iconst (pc := 0) dX11_degreeOf_0 (ic_i_0) ?_
  refine jo_istore_n (pc := 1) (lv' := [(3, .int 0), (0, .ref (adr w 306)), (1, .int x0), (2, .int x1)]) dX11_degreeOf_1 rfl (ltb rfl) rfl ?_
  refine jo_iconst (pc := 2) dX11_degreeOf_2 (ic_i_1) ?_
  refine jo_istore (pc := 3) (lv' := [(4, .int 1), (3, .int 0), (0, .ref (adr w 306)), (1, .int x0), (2, .int x1)]) dX11_degreeOf_3 (ltb rfl) rfl ?_
  refine jo_lv (lv' := [(0, .ref (adr w 306)), (1, .int x0), (2, .int x1), (3, .int 0), (4, .int 1)]) [2, 3, 4, 1, 0] rfl ?_
  refine jo_loop (X := Int32) (fun (z2 : (Int32 × Int32)) => σ) (fun (z2 : (Int32 × Int32)) => [(0, .ref (adr w 306)), (1, .int x0), (2, .int x1), (3, .int z2.1), (4, .int z2.2)]) (body := (fun (z2 : (Int32 × Int32)) => l_X11_degreeOf_5 σ x0 x1 z2.1 z2.2)) (fun F5_2 hF5_2 s => ?_) (0, 1)
  obtain ⟨i1, i2⟩ := s
  show JO w mu_X11_degreeOf vI σ [(0, .ref (adr w 306)), (1, .int x0), (2, .int x1), (3, .int i1), (4, .int i2)] [] 5 (l_X11_degreeOf_5 σ x0 x1 i1 i2) _
  unfold l_X11_degreeOf_5
  refine jo_iload (pc := 5) 4 rfl dX11_degreeOf_5 ?_
  refine jo_iconst (pc := 7) dX11_degreeOf_7 (ic_i_2) ?_
  refine jo_aload_n (pc := 8) 0 rfl dX11_degreeOf_8 rfl ?_
  refine jo_cV_I_p (pc := 9) (μ' := mu_X11_n) (fx := f_X11_n σ) (As := []) (c_X11_n hw hN) (ok_X11_n) (ltb rfl) (all3 gw_1441 gw_1443 gw_68) (ik_306 hw hN) (by decide) (q := (RX11, TX11, 39)) rfl rfl rfl rfl (Nat.le_of_ble_eq_true rfl) dX11_degreeOf_9 (fun v3 => ?_)
  refine jo_imul (pc := 12) dX11_degreeOf_12 ?_
  refine jo_icmp_gt (pc := 13) dX11_degreeOf_13 (tgt := 40) rfl ?_ ?_
  · refine jo_iload_n (pc := 40) 3 rfl dX11_degreeOf_40 rfl ?_
    exact jo_ireturn (pc := 41) rfl rfl dX11_degreeOf_41
  · refine jo_iload_n (pc := 16) 3 rfl dX11_degreeOf_16 rfl ?_
    refine jo_aload_n (pc := 17) 0 rfl dX11_degreeOf_17 rfl ?_
    refine jo_getrE (pc := 18) ok_11_12 (ik_306 hw hN) rf_306_12 gw_1305 dX11_degreeOf_18 ?_
    refine jo_aload_n (pc := 21) 0 rfl dX11_degreeOf_21 rfl ?_
    refine jo_iload_n (pc := 22) 1 rfl dX11_degreeOf_22 rfl ?_
    refine jo_iload_n (pc := 23) 2 rfl dX11_degreeOf_23 rfl ?_
    refine jo_cV_I_p (pc := 24) (μ' := mu_X11_termAt) (fx := f_X11_termAt σ x0 x1) (As := [.int x0, .int x1]) (c_X11_termAt hw hN) (ok_X11_termAt) (ltb rfl) (all3 gw_1770 gw_1772 gw_127) (ik_306 hw hN) (by decide) (q := (RX11, TX11, 39)) rfl rfl rfl rfl (Nat.le_of_ble_eq_true rfl) dX11_degreeOf_24 (fun v4 => ?_)
    refine jo_iload (pc := 27) 4 rfl dX11_degreeOf_27 ?_
    refine jo_iadd (pc := 29) dX11_degreeOf_29 ?_
    refine jo_lald (pc := 30) (ik_312 hw hN) dX11_degreeOf_30 (fun v5 => ?_)
    refine jo_l2i (pc := 31) dX11_degreeOf_31 ?_
    refine jo_iadd (pc := 32) dX11_degreeOf_32 ?_
    refine jo_bd ?_
    refine jo_istore_n (pc := 33) (lv' := [(3, .int (i1 + (Int64.toInt32 v5))), (0, .ref (adr w 306)), (1, .int x0), (2, .int x1), (4, .int i2)]) dX11_degreeOf_33 rfl (ltb rfl) rfl ?_
    generalize (i1 + (Int64.toInt32 v5)) = v6
    refine jo_iinc (pc := 34) (lv' := [(4, .int (i2 + 1)), (3, .int v6), (0, .ref (adr w 306)), (1, .int x0), (2, .int x1)]) 4 rfl dX11_degreeOf_34 (congrArg (fun z => i2 + z) (ic_i_1)) (ltb rfl) rfl ?_
    refine jo_goto (pc := 37) dX11_degreeOf_37 (tgt := 5) rfl ?_
    refine jo_lv (lv' := [(0, .ref (adr w 306)), (1, .int x0), (2, .int x1), (3, .int v6), (4, .int (i2 + 1))]) [2, 3, 4, 1, 0] rfl ?_
    exact jo_leaf (by rfl) (hF5_2 (v6, i2 + 1))
theorem c_X11_degreeOf {w : Wd} (hw : WOK w) (hN : wn w = NT) {σ : Mem} {x0 : Int32} {x1 : Int32} : ∀ r, f_X11_degreeOf σ x0 x1 = some r → MC w mu_X11_degreeOf (vI r) [.ref (adr w 306), .int x0, .int x1] σ σ := mc_ofP ok_X11_degreeOf rfl (Nat.le_of_ble_eq_true rfl) (t_X11_degreeOf hw hN)
abbrev mu_X11_weightOfTerm : MD := (yX11_weightOfTerm, cX11_weightOfTerm, 5, some .int, 2)
theorem ok_X11_weightOfTerm : MOK mu_X11_weightOfTerm 2 := ⟨gw_1786, gw_171, (by decide +kernel : plainFor yX11_weightOfTerm = true), ⟨(by decide +kernel : yX11_weightOfTerm.cls ≠ "java/lang/invoke/MethodHandle"), (by decide +kernel : yX11_weightOfTerm.cls ≠ "java/lang/invoke/VarHandle"), (by decide +kernel : (parseMethodDescriptor yX11_weightOfTerm.desc).map (fun d => d.parameters.length) = some 2)⟩, Nat.le_of_ble_eq_true rfl⟩
noncomputable def l_X11_weightOfTerm_5 (σ : Mem) (x0 : Int32) (x1 : Int32) (i1 : Int32) (i2 : Int32) : Option ((Int32 × Int32) ⊕ Int32) :=
  (f_X11_n σ).bind (fun (v3 : Int32) => if (2 * v3) < i2 then (some (Sum.inr i1)) else ((f_X11_weightOf σ (i2 - 1)).bind (fun (v4 : Int32) => (f_X11_termAt σ x0 x1).bind (fun (v5 : Int32) => gL σ 312 (v5 + i2) (fun (v6 : Int64) => bd (i1 + (v4 * (Int64.toInt32 v6))) (fun (v7 : Int32) => some (Sum.inl (v7, i2 + 1))))))))
noncomputable def f_X11_weightOfTerm (σ : Mem) (x0 : Int32) (x1 : Int32) : Option Int32 :=
  loopO (fun (z2 : (Int32 × Int32)) => l_X11_weightOfTerm_5 σ x0 x1 z2.1 z2.2) (0, 1)
theorem t_X11_weightOfTerm {w : Wd} (hw : WOK w) (hN : wn w = NT) {σ : Mem} {x0 : Int32} {x1 : Int32} : JO w mu_X11_weightOfTerm vI σ [(0, .ref (adr w 306)), (1, .int x0), (2, .int x1)] [] 0 (f_X11_weightOfTerm σ x0 x1) (fun z => some (z, σ)) := by
  unfold f_X11_weightOfTerm
  refine jo_iconst (pc := 0) dX11_weightOfTerm_0 (ic_i_0) ?_
  refine jo_istore_n (pc := 1) (lv' := [(3, .int 0), (0, .ref (adr w 306)), (1, .int x0), (2, .int x1)]) dX11_weightOfTerm_1 rfl (ltb rfl) rfl ?_
  refine jo_iconst (pc := 2) dX11_weightOfTerm_2 (ic_i_1) ?_
  refine jo_istore (pc := 3) (lv' := [(4, .int 1), (3, .int 0), (0, .ref (adr w 306)), (1, .int x0), (2, .int x1)]) dX11_weightOfTerm_3 (ltb rfl) rfl ?_
  refine jo_lv (lv' := [(0, .ref (adr w 306)), (1, .int x0), (2, .int x1), (3, .int 0), (4, .int 1)]) [2, 3, 4, 1, 0] rfl ?_
  refine jo_loop (X := Int32) (fun (z2 : (Int32 × Int32)) => σ) (fun (z2 : (Int32 × Int32)) => [(0, .ref (adr w 306)), (1, .int x0), (2, .int x1), (3, .int z2.1), (4, .int z2.2)]) (body := (fun (z2 : (Int32 × Int32)) => l_X11_weightOfTerm_5 σ x0 x1 z2.1 z2.2)) (fun F5_2 hF5_2 s => ?_) (0, 1)
  obtain ⟨i1, i2⟩ := s
  show JO w mu_X11_weightOfTerm vI σ [(0, .ref (adr w 306)), (1, .int x0), (2, .int x1), (3, .int i1), (4, .int i2)] [] 5 (l_X11_weightOfTerm_5 σ x0 x1 i1 i2) _
  unfold l_X11_weightOfTerm_5
  refine jo_iload (pc := 5) 4 rfl dX11_weightOfTerm_5 ?_
  refine jo_iconst (pc := 7) dX11_weightOfTerm_7 (ic_i_2) ?_
  refine jo_aload_n (pc := 8) 0 rfl dX11_weightOfTerm_8 rfl ?_
  refine jo_cV_I_p (pc := 9) (μ' := mu_X11_n) (fx := f_X11_n σ) (As := []) (c_X11_n hw hN) (ok_X11_n) (ltb rfl) (all3 gw_1441 gw_1443 gw_68) (ik_306 hw hN) (by decide) (q := (RX11, TX11, 39)) rfl rfl rfl rfl (Nat.le_of_ble_eq_true rfl) dX11_weightOfTerm_9 (fun v3 => ?_)
  refine jo_imul (pc := 12) dX11_weightOfTerm_12 ?_
  refine jo_icmp_gt (pc := 13) dX11_weightOfTerm_13 (tgt := 49) rfl ?_ ?_
  · refine jo_iload_n (pc := 49) 3 rfl dX11_weightOfTerm_49 rfl ?_
    exact jo_ireturn (pc := 50) rfl rfl dX11_weightOfTerm_50
  · refine jo_iload_n (pc := 16) 3 rfl dX11_weightOfTerm_16 rfl ?_
    refine jo_aload_n (pc := 17) 0 rfl dX11_weightOfTerm_17 rfl ?_
    refine jo_iload (pc := 18) 4 rfl dX11_weightOfTerm_18 ?_
    refine jo_iconst (pc := 20) dX11_weightOfTerm_20 (ic_i_1) ?_
    refine jo_isub (pc := 21) dX11_weightOfTerm_21 ?_
    refine jo_cV_I_p (pc := 22) (μ' := mu_X11_weightOf) (fx := f_X11_weightOf σ (i2 - 1)) (As := [.int (i2 - 1)]) (c_X11_weightOf hw hN) (ok_X11_weightOf) (ltb rfl) (all3 gw_1553 gw_1555 gw_93) (ik_306 hw hN) (by decide) (q := (RX11, TX11, 39)) rfl rfl rfl rfl (Nat.le_of_ble_eq_true rfl) dX11_weightOfTerm_22 (fun v4 => ?_)
    refine jo_aload_n (pc := 25) 0 rfl dX11_weightOfTerm_25 rfl ?_
    refine jo_getrE (pc := 26) ok_11_12 (ik_306 hw hN) rf_306_12 gw_1305 dX11_weightOfTerm_26 ?_
    refine jo_aload_n (pc := 29) 0 rfl dX11_weightOfTerm_29 rfl ?_
    refine jo_iload_n (pc := 30) 1 rfl dX11_weightOfTerm_30 rfl ?_
    refine jo_iload_n (pc := 31) 2 rfl dX11_weightOfTerm_31 rfl ?_
    refine jo_cV_I_p (pc := 32) (μ' := mu_X11_termAt) (fx := f_X11_termAt σ x0 x1) (As := [.int x0, .int x1]) (c_X11_termAt hw hN) (ok_X11_termAt) (ltb rfl) (all3 gw_1770 gw_1772 gw_127) (ik_306 hw hN) (by decide) (q := (RX11, TX11, 39)) rfl rfl rfl rfl (Nat.le_of_ble_eq_true rfl) dX11_weightOfTerm_32 (fun v5 => ?_)
    refine jo_iload (pc := 35) 4 rfl dX11_weightOfTerm_35 ?_
    refine jo_iadd (pc := 37) dX11_weightOfTerm_37 ?_
    refine jo_lald (pc := 38) (ik_312 hw hN) dX11_weightOfTerm_38 (fun v6 => ?_)
    refine jo_l2i (pc := 39) dX11_weightOfTerm_39 ?_
    refine jo_imul (pc := 40) dX11_weightOfTerm_40 ?_
    refine jo_iadd (pc := 41) dX11_weightOfTerm_41 ?_
    refine jo_bd ?_
    refine jo_istore_n (pc := 42) (lv' := [(3, .int (i1 + (v4 * (Int64.toInt32 v6)))), (0, .ref (adr w 306)), (1, .int x0), (2, .int x1), (4, .int i2)]) dX11_weightOfTerm_42 rfl (ltb rfl) rfl ?_
    generalize (i1 + (v4 * (Int64.toInt32 v6))) = v7
    refine jo_iinc (pc := 43) (lv' := [(4, .int (i2 + 1)), (3, .int v7), (0, .ref (adr w 306)), (1, .int x0), (2, .int x1)]) 4 rfl dX11_weightOfTerm_43 (congrArg (fun z => i2 + z) (ic_i_1)) (ltb rfl) rfl ?_
    refine jo_goto (pc := 46) dX11_weightOfTerm_46 (tgt := 5) rfl ?_
    refine jo_lv (lv' := [(0, .ref (adr w 306)), (1, .int x0), (2, .int x1), (3, .int v7), (4, .int (i2 + 1))]) [2, 3, 4, 1, 0] rfl ?_
    exact jo_leaf (by rfl) (hF5_2 (v7, i2 + 1))
theorem c_X11_weightOfTerm {w : Wd} (hw : WOK w) (hN : wn w = NT) {σ : Mem} {x0 : Int32} {x1 : Int32} : ∀ r, f_X11_weightOfTerm σ x0 x1 = some r → MC w mu_X11_weightOfTerm (vI r) [.ref (adr w 306), .int x0, .int x1] σ σ := mc_ofP ok_X11_weightOfTerm rfl (Nat.le_of_ble_eq_true rfl) (t_X11_weightOfTerm hw hN)
abbrev mu_X11_isInBoth : MD := (yX11_isInBoth, cX11_isInBoth, 4, some .boolean, 1)
theorem ok_X11_isInBoth : MOK mu_X11_isInBoth 2 := ⟨gw_1790, gw_171, (by decide +kernel : plainFor yX11_isInBoth = true), ⟨(by decide +kernel : yX11_isInBoth.cls ≠ "java/lang/invoke/MethodHandle"), (by decide +kernel : yX11_isInBoth.cls ≠ "java/lang/invoke/VarHandle"), (by decide +kernel : (parseMethodDescriptor yX11_isInBoth.desc).map (fun d => d.parameters.length) = some 2)⟩, Nat.le_of_ble_eq_true rfl⟩
noncomputable def j_X11_isInBoth_53 (i1 : Int32) : Option (Int32 ⊕ Bool) :=
  some (Sum.inl (i1 + 1))
noncomputable def l_X11_isInBoth_2 (σ : Mem) (x0 : Int32) (x1 : Int32) (i1 : Int32) : Option (Int32 ⊕ Bool) :=
  (f_X11_n σ).bind (fun (v2 : Int32) => if v2 < i1 then (some (Sum.inr false)) else ((f_X11_termAt σ x0 x1).bind (fun (v3 : Int32) => gL σ 312 (v3 + i1) (fun (v4 : Int64) => (if v4 ≤ 0 then (some (Sum.inl ())) else ((f_X11_termAt σ x0 x1).bind (fun (v5 : Int32) => (f_X11_n σ).bind (fun (v6 : Int32) => gL σ 312 ((v5 + v6) + i1) (fun (v7 : Int64) => if v7 ≤ 0 then (some (Sum.inl ())) else (some (Sum.inr (Sum.inr true))))))) : Option (Unit ⊕ (Int32 ⊕ Bool))).bind (Sum.elim (fun (z4 : Unit) => j_X11_isInBoth_53 i1) some)))))
noncomputable def f_X11_isInBoth (σ : Mem) (x0 : Int32) (x1 : Int32) : Option Bool :=
  loopO (fun (z1 : Int32) => l_X11_isInBoth_2 σ x0 x1 z1) 1
theorem t_X11_isInBoth {w : Wd} (hw : WOK w) (hN : wn w = NT) {σ : Mem} {x0 : Int32} {x1 : Int32} : JO w mu_X11_isInBoth vB σ [(0, .ref (adr w 306)), (1, .int x0), (2, .int x1)] [] 0 (f_X11_isInBoth σ x0 x1) (fun z => some (z, σ)) := by
  unfold f_X11_isInBoth
  refine jo_iconst (pc := 0) dX11_isInBoth_0 (ic_i_1) ?_
  refine jo_istore_n (pc := 1) (lv' := [(3, .int 1), (0, .ref (adr w 306)), (1, .int x0), (2, .int x1)]) dX11_isInBoth_1 rfl (ltb rfl) rfl ?_
  refine jo_lv (lv' := [(0, .ref (adr w 306)), (1, .int x0), (2, .int x1), (3, .int 1)]) [1, 2, 3, 0] rfl ?_
  refine jo_loop (X := Bool) (fun (z1 : Int32) => σ) (fun (z1 : Int32) => [(0, .ref (adr w 306)), (1, .int x0), (2, .int x1), (3, .int z1)]) (body := (fun (z1 : Int32) => l_X11_isInBoth_2 σ x0 x1 z1)) (fun F2_1 hF2_1 s => ?_) 1
  revert s; intro i1
  show JO w mu_X11_isInBoth vB σ [(0, .ref (adr w 306)), (1, .int x0), (2, .int x1), (3, .int i1)] [] 2 (l_X11_isInBoth_2 σ x0 x1 i1) _
  unfold l_X11_isInBoth_2
  refine jo_iload_n (pc := 2) 3 rfl dX11_isInBoth_2 rfl ?_
  refine jo_aload_n (pc := 3) 0 rfl dX11_isInBoth_3 rfl ?_
  refine jo_cV_I_p (pc := 4) (μ' := mu_X11_n) (fx := f_X11_n σ) (As := []) (c_X11_n hw hN) (ok_X11_n) (ltb rfl) (all3 gw_1441 gw_1443 gw_68) (ik_306 hw hN) (by decide) (q := (RX11, TX11, 39)) rfl rfl rfl rfl (Nat.le_of_ble_eq_true rfl) dX11_isInBoth_4 (fun v2 => ?_)
  refine jo_icmp_gt (pc := 7) dX11_isInBoth_7 (tgt := 59) rfl ?_ ?_
  · refine jo_iconst (pc := 59) dX11_isInBoth_59 (ic_i_0) ?_
    exact jo_breturn (pc := 60) (b := false) rfl rfl dX11_isInBoth_60
  · refine jo_aload_n (pc := 10) 0 rfl dX11_isInBoth_10 rfl ?_
    refine jo_getrE (pc := 11) ok_11_12 (ik_306 hw hN) rf_306_12 gw_1305 dX11_isInBoth_11 ?_
    refine jo_aload_n (pc := 14) 0 rfl dX11_isInBoth_14 rfl ?_
    refine jo_iload_n (pc := 15) 1 rfl dX11_isInBoth_15 rfl ?_
    refine jo_iload_n (pc := 16) 2 rfl dX11_isInBoth_16 rfl ?_
    refine jo_cV_I_p (pc := 17) (μ' := mu_X11_termAt) (fx := f_X11_termAt σ x0 x1) (As := [.int x0, .int x1]) (c_X11_termAt hw hN) (ok_X11_termAt) (ltb rfl) (all3 gw_1770 gw_1772 gw_127) (ik_306 hw hN) (by decide) (q := (RX11, TX11, 39)) rfl rfl rfl rfl (Nat.le_of_ble_eq_true rfl) dX11_isInBoth_17 (fun v3 => ?_)
    refine jo_iload_n (pc := 20) 3 rfl dX11_isInBoth_20 rfl ?_
    refine jo_iadd (pc := 21) dX11_isInBoth_21 ?_
    refine jo_lald (pc := 22) (ik_312 hw hN) dX11_isInBoth_22 (fun v4 => ?_)
    refine jo_lconst (pc := 23) dX11_isInBoth_23 (ic_l_0) ?_
    refine jo_joinS (S := Unit) (fun (z4 : Unit) => σ) (fun (z4 : Unit) => [(0, .ref (adr w 306)), (1, .int x0), (2, .int x1), (3, .int i1)]) (fun (z4 : Unit) => []) 53 ?_ (fun h53_4 => ?_)
    · intro _
      show JO w mu_X11_isInBoth vB σ [(0, .ref (adr w 306)), (1, .int x0), (2, .int x1), (3, .int i1)] [] 53 (j_X11_isInBoth_53 i1) _
      unfold j_X11_isInBoth_53
      refine jo_iinc (pc := 53) (lv' := [(3, .int (i1 + 1)), (0, .ref (adr w 306)), (1, .int x0), (2, .int x1)]) 3 rfl dX11_isInBoth_53 (congrArg (fun z => i1 + z) (ic_i_1)) (ltb rfl) rfl ?_
      refine jo_goto (pc := 56) dX11_isInBoth_56 (tgt := 2) rfl ?_
      refine jo_lv (lv' := [(0, .ref (adr w 306)), (1, .int x0), (2, .int x1), (3, .int (i1 + 1))]) [1, 2, 3, 0] rfl ?_
      exact jo_leaf (by rfl) (hF2_1 (i1 + 1))
    · refine jo_lcmp_le (pc := 24) dX11_isInBoth_24 dX11_isInBoth_25 (tgt := 53) rfl ?_ ?_
      · exact jo_leaf (by rfl) (h53_4 ())
      · refine jo_aload_n (pc := 28) 0 rfl dX11_isInBoth_28 rfl ?_
        refine jo_getrE (pc := 29) ok_11_12 (ik_306 hw hN) rf_306_12 gw_1305 dX11_isInBoth_29 ?_
        refine jo_aload_n (pc := 32) 0 rfl dX11_isInBoth_32 rfl ?_
        refine jo_iload_n (pc := 33) 1 rfl dX11_isInBoth_33 rfl ?_
        refine jo_iload_n (pc := 34) 2 rfl dX11_isInBoth_34 rfl ?_
        refine jo_cV_I_p (pc := 35) (μ' := mu_X11_termAt) (fx := f_X11_termAt σ x0 x1) (As := [.int x0, .int x1]) (c_X11_termAt hw hN) (ok_X11_termAt) (ltb rfl) (all3 gw_1770 gw_1772 gw_127) (ik_306 hw hN) (by decide) (q := (RX11, TX11, 39)) rfl rfl rfl rfl (Nat.le_of_ble_eq_true rfl) dX11_isInBoth_35 (fun v5 => ?_)
        refine jo_aload_n (pc := 38) 0 rfl dX11_isInBoth_38 rfl ?_
        refine jo_cV_I_p (pc := 39) (μ' := mu_X11_n) (fx := f_X11_n σ) (As := []) (c_X11_n hw hN) (ok_X11_n) (ltb rfl) (all3 gw_1441 gw_1443 gw_68) (ik_306 hw hN) (by decide) (q := (RX11, TX11, 39)) rfl rfl rfl rfl (Nat.le_of_ble_eq_true rfl) dX11_isInBoth_39 (fun v6 => ?_)
        refine jo_iadd (pc := 42) dX11_isInBoth_42 ?_
        refine jo_iload_n (pc := 43) 3 rfl dX11_isInBoth_43 rfl ?_
        refine jo_iadd (pc := 44) dX11_isInBoth_44 ?_
        refine jo_lald (pc := 45) (ik_312 hw hN) dX11_isInBoth_45 (fun v7 => ?_)
        refine jo_lconst (pc := 46) dX11_isInBoth_46 (ic_l_0) ?_
        refine jo_lcmp_le (pc := 47) dX11_isInBoth_47 dX11_isInBoth_48 (tgt := 53) rfl ?_ ?_
        · exact jo_leaf (by rfl) (h53_4 ())
        · refine jo_iconst (pc := 51) dX11_isInBoth_51 (ic_i_1) ?_
          exact jo_breturn (pc := 52) (b := true) rfl rfl dX11_isInBoth_52
theorem c_X11_isInBoth {w : Wd} (hw : WOK w) (hN : wn w = NT) {σ : Mem} {x0 : Int32} {x1 : Int32} : ∀ r, f_X11_isInBoth σ x0 x1 = some r → MC w mu_X11_isInBoth (vB r) [.ref (adr w 306), .int x0, .int x1] σ σ := mc_ofP ok_X11_isInBoth rfl (Nat.le_of_ble_eq_true rfl) (t_X11_isInBoth hw hN)
abbrev mu_X11_shape : MD := (yX11_shape, cX11_shape, 5, some .int, 38)
theorem ok_X11_shape : MOK mu_X11_shape 2 := ⟨gw_1777, gw_171, (by decide +kernel : plainFor yX11_shape = true), ⟨(by decide +kernel : yX11_shape.cls ≠ "java/lang/invoke/MethodHandle"), (by decide +kernel : yX11_shape.cls ≠ "java/lang/invoke/VarHandle"), (by decide +kernel : (parseMethodDescriptor yX11_shape.desc).map (fun d => d.parameters.length) = some 2)⟩, Nat.le_of_ble_eq_true rfl⟩
noncomputable def j_X11_shape_121 (i6 : Int32) (i11 : Int32) : Option ((Int32 × Int32) ⊕ (Int32 × Mem)) :=
  some (Sum.inl (i11, i6 + 1))
noncomputable def j_X11_shape_100 (x0 : Int32) (x1 : Int32) (σ3 : Mem) (i6 : Int32) (i10 : Int32) : Option ((Int32 × Int32) ⊕ (Int32 × Mem)) :=
  (if x1 = 3 then ((f_X11_termAt σ3 x0 i6).bind (fun (v12 : Int32) => gL σ3 312 v12 (fun (v13 : Int64) => bd (i10 + (Int64.toInt32 v13)) (fun (v14 : Int32) => some v14)))) else (some i10) : Option Int32).bind (fun (z11 : Int32) => j_X11_shape_121 i6 z11)
noncomputable def j_X11_shape_81 (x0 : Int32) (x1 : Int32) (σ3 : Mem) (i6 : Int32) (i9 : Int32) : Option ((Int32 × Int32) ⊕ (Int32 × Mem)) :=
  (if x1 = 2 then ((f_X11_isInBoth σ3 x0 i6).bind (fun (b15 : Bool) => if b15 then bd (i9 + 1) (fun (v16 : Int32) => some v16) else some i9)) else (some i9) : Option Int32).bind (fun (z10 : Int32) => j_X11_shape_100 x0 x1 σ3 i6 z10)
noncomputable def j_X11_shape_64 (x0 : Int32) (x1 : Int32) (σ3 : Mem) (i6 : Int32) (i8 : Int32) : Option ((Int32 × Int32) ⊕ (Int32 × Mem)) :=
  (if x1 = 1 then ((f_X11_weightOfTerm σ3 x0 i6).bind (fun (v17 : Int32) => (f_J9_max_7cf53 σ3 i8 v17).bind (fun (v18 : Int32) => some v18))) else (some i8) : Option Int32).bind (fun (z9 : Int32) => j_X11_shape_81 x0 x1 σ3 i6 z9)
noncomputable def l_X11_shape_35 (x0 : Int32) (x1 : Int32) (σ3 : Mem) (i5 : Int32) (i6 : Int32) : Option ((Int32 × Int32) ⊕ (Int32 × Mem)) :=
  gI σ3 311 (x0 - 1) (fun (v7 : Int32) => if v7 ≤ i6 then (some (Sum.inr (i5, σ3))) else ((if x1 = 0 then ((f_X11_degreeOf σ3 x0 i6).bind (fun (v19 : Int32) => (f_J9_max_7cf53 σ3 i5 v19).bind (fun (v20 : Int32) => some v20))) else (some i5) : Option Int32).bind (fun (z8 : Int32) => j_X11_shape_64 x0 x1 σ3 i6 z8)))
noncomputable def f_X11_shape (σ : Mem) (x0 : Int32) (x1 : Int32) : Option (Int32 × Mem) :=
  pF σ 306 0 0 (fun (σ1 : Mem) => bq (f_X11_isPolynomial σ1 x0) (fun (b2 : Bool) (σ3 : Mem) => if b2 then (f_X11_isIn σ3 (Int32.toInt64 x1) 0 3).bind (fun (b4 : Bool) => if b4 then loopO (fun (z6 : (Int32 × Int32)) => l_X11_shape_35 x0 x1 σ3 z6.1 z6.2) (0, 0) else some ((-10000), σ3)) else some ((-10000), σ3)))
theorem t_X11_shape {w : Wd} (hw : WOK w) (hN : wn w = NT) {σ : Mem} {x0 : Int32} {x1 : Int32} : JO w mu_X11_shape vI σ [(0, .ref (adr w 306)), (1, .int x0), (2, .int x1)] [] 0 (f_X11_shape σ x0 x1) some := by
  unfold f_X11_shape
  refine jo_aload_n (pc := 0) 0 rfl dX11_shape_0 rfl ?_
  refine jo_iconst (pc := 1) dX11_shape_1 (ic_i_0) ?_
  refine jo_putf (pc := 2) ok_11_0 okp_11_0 (ik_306 hw hN) gw_1293 dX11_shape_2 (fun σ1 => ?_)
  refine jo_aload_n (pc := 5) 0 rfl dX11_shape_5 rfl ?_
  refine jo_iload_n (pc := 6) 1 rfl dX11_shape_6 rfl ?_
  refine jo_cV_Z_i (pc := 7) (μ' := mu_X11_isPolynomial) (fx := f_X11_isPolynomial σ1 x0) (As := [.int x0]) (c_X11_isPolynomial hw hN) (ok_X11_isPolynomial) (ltb rfl) (all3 gw_1762 gw_1764 gw_126) (ik_306 hw hN) (by decide) (q := (RX11, TX11, 39)) rfl rfl rfl rfl (Nat.le_of_ble_eq_true rfl) dX11_shape_7 (fun b2 σ3 => ?_)
  refine jo_ifz_eq (pc := 10) dX11_shape_10 (tgt := 26) rfl ?_ ?_
  · refine jo_sipush (pc := 26) dX11_shape_26 (ic_s_m10000) ?_
    exact jo_ireturn (pc := 29) rfl rfl dX11_shape_29
  · refine jo_aload_n (pc := 13) 0 rfl dX11_shape_13 rfl ?_
    refine jo_iload_n (pc := 14) 2 rfl dX11_shape_14 rfl ?_
    refine jo_i2l (pc := 15) dX11_shape_15 ?_
    refine jo_lconst (pc := 16) dX11_shape_16 (ic_l_0) ?_
    refine jo_ldc2 (pc := 17) dX11_shape_17 gw_1445 ?_
    refine jo_cV_Z_p (pc := 20) (μ' := mu_X11_isIn) (fx := f_X11_isIn σ3 (Int32.toInt64 x1) 0 3) (As := [.long (Int32.toInt64 x1), .long 0, .long 3]) (c_X11_isIn hw hN) (ok_X11_isIn) (ltb rfl) (all3 gw_1420 gw_1422 gw_64) (ik_306 hw hN) (by decide) (q := (RX11, TX11, 39)) rfl rfl rfl rfl (Nat.le_of_ble_eq_true rfl) dX11_shape_20 (fun b4 => ?_)
    refine jo_ifz_ne (pc := 23) dX11_shape_23 (tgt := 30) rfl ?_ ?_
    · refine jo_iconst (pc := 30) dX11_shape_30 (ic_i_0) ?_
      refine jo_istore_n (pc := 31) (lv' := [(3, .int 0), (0, .ref (adr w 306)), (1, .int x0), (2, .int x1)]) dX11_shape_31 rfl (ltb rfl) rfl ?_
      refine jo_iconst (pc := 32) dX11_shape_32 (ic_i_0) ?_
      refine jo_istore (pc := 33) (lv' := [(4, .int 0), (3, .int 0), (0, .ref (adr w 306)), (1, .int x0), (2, .int x1)]) dX11_shape_33 (ltb rfl) rfl ?_
      refine jo_lv (lv' := [(0, .ref (adr w 306)), (1, .int x0), (2, .int x1), (3, .int 0), (4, .int 0)]) [2, 3, 4, 1, 0] rfl ?_
      refine jo_loop (X := (Int32 × Mem)) (fun (z6 : (Int32 × Int32)) => σ3) (fun (z6 : (Int32 × Int32)) => [(0, .ref (adr w 306)), (1, .int x0), (2, .int x1), (3, .int z6.1), (4, .int z6.2)]) (body := (fun (z6 : (Int32 × Int32)) => l_X11_shape_35 x0 x1 σ3 z6.1 z6.2)) (fun F35_6 hF35_6 s => ?_) (0, 0)
      obtain ⟨i5, i6⟩ := s
      show JO w mu_X11_shape vI σ3 [(0, .ref (adr w 306)), (1, .int x0), (2, .int x1), (3, .int i5), (4, .int i6)] [] 35 (l_X11_shape_35 x0 x1 σ3 i5 i6) _
      unfold l_X11_shape_35
      refine jo_iload (pc := 35) 4 rfl dX11_shape_35 ?_
      refine jo_aload_n (pc := 37) 0 rfl dX11_shape_37 rfl ?_
      refine jo_getrE (pc := 38) ok_11_11 (ik_306 hw hN) rf_306_11 gw_1304 dX11_shape_38 ?_
      refine jo_iload_n (pc := 41) 1 rfl dX11_shape_41 rfl ?_
      refine jo_iconst (pc := 42) dX11_shape_42 (ic_i_1) ?_
      refine jo_isub (pc := 43) dX11_shape_43 ?_
      refine jo_iald (pc := 44) (ik_311 hw hN) dX11_shape_44 (fun v7 => ?_)
      refine jo_icmp_ge (pc := 45) dX11_shape_45 (tgt := 127) rfl ?_ ?_
      · refine jo_iload_n (pc := 127) 3 rfl dX11_shape_127 rfl ?_
        exact jo_ireturn (pc := 128) rfl rfl dX11_shape_128
      · refine jo_iload_n (pc := 48) 2 rfl dX11_shape_48 rfl ?_
        refine jo_join1 (S := Int32) (fun (z8 : Int32) => σ3) (fun (z8 : Int32) => [(0, .ref (adr w 306)), (1, .int x0), (2, .int x1), (4, .int i6), (3, .int z8)]) (fun (z8 : Int32) => []) 64 ?_ (fun h64_8 => ?_)
        · intro i8
          show JO w mu_X11_shape vI σ3 [(0, .ref (adr w 306)), (1, .int x0), (2, .int x1), (4, .int i6), (3, .int i8)] [] 64 (j_X11_shape_64 x0 x1 σ3 i6 i8) _
          unfold j_X11_shape_64
          refine jo_iload_n (pc := 64) 2 rfl dX11_shape_64 rfl ?_
          refine jo_iconst (pc := 65) dX11_shape_65 (ic_i_1) ?_
          refine jo_join1 (S := Int32) (fun (z9 : Int32) => σ3) (fun (z9 : Int32) => [(0, .ref (adr w 306)), (1, .int x0), (2, .int x1), (4, .int i6), (3, .int z9)]) (fun (z9 : Int32) => []) 81 ?_ (fun h81_9 => ?_)
          · intro i9
            show JO w mu_X11_shape vI σ3 [(0, .ref (adr w 306)), (1, .int x0), (2, .int x1), (4, .int i6), (3, .int i9)] [] 81 (j_X11_shape_81 x0 x1 σ3 i6 i9) _
            unfold j_X11_shape_81
            refine jo_iload_n (pc := 81) 2 rfl dX11_shape_81 rfl ?_
            refine jo_iconst (pc := 82) dX11_shape_82 (ic_i_2) ?_
            refine jo_join1 (S := Int32) (fun (z10 : Int32) => σ3) (fun (z10 : Int32) => [(0, .ref (adr w 306)), (1, .int x0), (2, .int x1), (4, .int i6), (3, .int z10)]) (fun (z10 : Int32) => []) 100 ?_ (fun h100_10 => ?_)
            · intro i10
              show JO w mu_X11_shape vI σ3 [(0, .ref (adr w 306)), (1, .int x0), (2, .int x1), (4, .int i6), (3, .int i10)] [] 100 (j_X11_shape_100 x0 x1 σ3 i6 i10) _
              unfold j_X11_shape_100
              refine jo_iload_n (pc := 100) 2 rfl dX11_shape_100 rfl ?_
              refine jo_iconst (pc := 101) dX11_shape_101 (ic_i_3) ?_
              refine jo_join1 (S := Int32) (fun (z11 : Int32) => σ3) (fun (z11 : Int32) => [(0, .ref (adr w 306)), (1, .int x0), (2, .int x1), (4, .int i6), (3, .int z11)]) (fun (z11 : Int32) => []) 121 ?_ (fun h121_11 => ?_)
              · intro i11
                show JO w mu_X11_shape vI σ3 [(0, .ref (adr w 306)), (1, .int x0), (2, .int x1), (4, .int i6), (3, .int i11)] [] 121 (j_X11_shape_121 i6 i11) _
                unfold j_X11_shape_121
                refine jo_iinc (pc := 121) (lv' := [(4, .int (i6 + 1)), (0, .ref (adr w 306)), (1, .int x0), (2, .int x1), (3, .int i11)]) 3 rfl dX11_shape_121 (congrArg (fun z => i6 + z) (ic_i_1)) (ltb rfl) rfl ?_
                refine jo_goto (pc := 124) dX11_shape_124 (tgt := 35) rfl ?_
                refine jo_lv (lv' := [(0, .ref (adr w 306)), (1, .int x0), (2, .int x1), (3, .int i11), (4, .int (i6 + 1))]) [1, 2, 3, 4, 0] rfl ?_
                exact jo_leaf (by rfl) (hF35_6 (i11, i6 + 1))
              · refine jo_icmp_ne (pc := 102) dX11_shape_102 (tgt := 121) rfl ?_ ?_
                · exact jo_leaf (by rfl) (h121_11 i10)
                · refine jo_iload_n (pc := 105) 4 rfl dX11_shape_105 rfl ?_
                  refine jo_aload_n (pc := 106) 0 rfl dX11_shape_106 rfl ?_
                  refine jo_getrE (pc := 107) ok_11_12 (ik_306 hw hN) rf_306_12 gw_1305 dX11_shape_107 ?_
                  refine jo_aload_n (pc := 110) 0 rfl dX11_shape_110 rfl ?_
                  refine jo_iload_n (pc := 111) 1 rfl dX11_shape_111 rfl ?_
                  refine jo_iload (pc := 112) 3 rfl dX11_shape_112 ?_
                  refine jo_cV_I_p (pc := 114) (μ' := mu_X11_termAt) (fx := f_X11_termAt σ3 x0 i6) (As := [.int x0, .int i6]) (c_X11_termAt hw hN) (ok_X11_termAt) (ltb rfl) (all3 gw_1770 gw_1772 gw_127) (ik_306 hw hN) (by decide) (q := (RX11, TX11, 39)) rfl rfl rfl rfl (Nat.le_of_ble_eq_true rfl) dX11_shape_114 (fun v12 => ?_)
                  refine jo_lald (pc := 117) (ik_312 hw hN) dX11_shape_117 (fun v13 => ?_)
                  refine jo_l2i (pc := 118) dX11_shape_118 ?_
                  refine jo_iadd (pc := 119) dX11_shape_119 ?_
                  refine jo_bd ?_
                  refine jo_istore_n (pc := 120) (lv' := [(3, .int (i10 + (Int64.toInt32 v13))), (0, .ref (adr w 306)), (1, .int x0), (2, .int x1), (4, .int i6)]) dX11_shape_120 rfl (ltb rfl) rfl ?_
                  generalize (i10 + (Int64.toInt32 v13)) = v14
                  refine jo_lv (lv' := [(0, .ref (adr w 306)), (1, .int x0), (2, .int x1), (4, .int i6), (3, .int v14)]) [1, 2, 3, 4, 0] rfl ?_
                  exact jo_leaf (by rfl) (h121_11 v14)
            · refine jo_icmp_ne (pc := 83) dX11_shape_83 (tgt := 100) rfl ?_ ?_
              · exact jo_leaf (by rfl) (h100_10 i9)
              · refine jo_aload_n (pc := 86) 0 rfl dX11_shape_86 rfl ?_
                refine jo_iload_n (pc := 87) 1 rfl dX11_shape_87 rfl ?_
                refine jo_iload (pc := 88) 3 rfl dX11_shape_88 ?_
                refine jo_cV_Z_p (pc := 90) (μ' := mu_X11_isInBoth) (fx := f_X11_isInBoth σ3 x0 i6) (As := [.int x0, .int i6]) (c_X11_isInBoth hw hN) (ok_X11_isInBoth) (ltb rfl) (all3 gw_1787 gw_1789 gw_130) (ik_306 hw hN) (by decide) (q := (RX11, TX11, 39)) rfl rfl rfl rfl (Nat.le_of_ble_eq_true rfl) dX11_shape_90 (fun b15 => ?_)
                refine jo_ifz_eq (pc := 93) dX11_shape_93 (tgt := 100) rfl ?_ ?_
                · exact jo_leaf (by rfl) (h100_10 i9)
                · refine jo_iload_n (pc := 96) 4 rfl dX11_shape_96 rfl ?_
                  refine jo_iconst (pc := 97) dX11_shape_97 (ic_i_1) ?_
                  refine jo_iadd (pc := 98) dX11_shape_98 ?_
                  refine jo_bd ?_
                  refine jo_istore_n (pc := 99) (lv' := [(3, .int (i9 + 1)), (0, .ref (adr w 306)), (1, .int x0), (2, .int x1), (4, .int i6)]) dX11_shape_99 rfl (ltb rfl) rfl ?_
                  generalize (i9 + 1) = v16
                  refine jo_lv (lv' := [(0, .ref (adr w 306)), (1, .int x0), (2, .int x1), (4, .int i6), (3, .int v16)]) [1, 2, 3, 4, 0] rfl ?_
                  exact jo_leaf (by rfl) (h100_10 v16)
          · refine jo_icmp_ne (pc := 66) dX11_shape_66 (tgt := 81) rfl ?_ ?_
            · exact jo_leaf (by rfl) (h81_9 i8)
            · refine jo_iload_n (pc := 69) 4 rfl dX11_shape_69 rfl ?_
              refine jo_aload_n (pc := 70) 0 rfl dX11_shape_70 rfl ?_
              refine jo_iload_n (pc := 71) 1 rfl dX11_shape_71 rfl ?_
              refine jo_iload (pc := 72) 3 rfl dX11_shape_72 ?_
              refine jo_cV_I_p (pc := 74) (μ' := mu_X11_weightOfTerm) (fx := f_X11_weightOfTerm σ3 x0 i6) (As := [.int x0, .int i6]) (c_X11_weightOfTerm hw hN) (ok_X11_weightOfTerm) (ltb rfl) (all3 gw_1783 gw_1785 gw_129) (ik_306 hw hN) (by decide) (q := (RX11, TX11, 39)) rfl rfl rfl rfl (Nat.le_of_ble_eq_true rfl) dX11_shape_74 (fun v17 => ?_)
              refine jo_cS_I_p (pc := 77) (μ' := mu_J9_max_7cf53) (fx := f_J9_max_7cf53 σ3 i8 v17) (As := [.int i8, .int v17]) (c_J9_max_7cf53 hw) (ok_J9_max_7cf53) (ltb rfl) (all2 gw_1782 gw_752) rfl rfl (Nat.le_of_ble_eq_true rfl) dX11_shape_77 (fun v18 => ?_)
              refine jo_istore_n (pc := 80) (lv' := [(3, .int v18), (0, .ref (adr w 306)), (1, .int x0), (2, .int x1), (4, .int i6)]) dX11_shape_80 rfl (ltb rfl) rfl ?_
              refine jo_lv (lv' := [(0, .ref (adr w 306)), (1, .int x0), (2, .int x1), (4, .int i6), (3, .int v18)]) [1, 2, 3, 4, 0] rfl ?_
              exact jo_leaf (by rfl) (h81_9 v18)
        · refine jo_if_ne (pc := 49) dX11_shape_49 (tgt := 64) rfl ?_ ?_
          · refine jo_lv (lv' := [(0, .ref (adr w 306)), (1, .int x0), (2, .int x1), (4, .int i6), (3, .int i5)]) [0, 1, 2, 4, 3] rfl ?_
            exact jo_leaf (by rfl) (h64_8 i5)
          · refine jo_iload_n (pc := 52) 3 rfl dX11_shape_52 rfl ?_
            refine jo_aload_n (pc := 53) 0 rfl dX11_shape_53 rfl ?_
            refine jo_iload_n (pc := 54) 1 rfl dX11_shape_54 rfl ?_
            refine jo_iload (pc := 55) 4 rfl dX11_shape_55 ?_
            refine jo_cV_I_p (pc := 57) (μ' := mu_X11_degreeOf) (fx := f_X11_degreeOf σ3 x0 i6) (As := [.int x0, .int i6]) (c_X11_degreeOf hw hN) (ok_X11_degreeOf) (ltb rfl) (all3 gw_1778 gw_1780 gw_128) (ik_306 hw hN) (by decide) (q := (RX11, TX11, 39)) rfl rfl rfl rfl (Nat.le_of_ble_eq_true rfl) dX11_shape_57 (fun v19 => ?_)
            refine jo_cS_I_p (pc := 60) (μ' := mu_J9_max_7cf53) (fx := f_J9_max_7cf53 σ3 i5 v19) (As := [.int i5, .int v19]) (c_J9_max_7cf53 hw) (ok_J9_max_7cf53) (ltb rfl) (all2 gw_1782 gw_752) rfl rfl (Nat.le_of_ble_eq_true rfl) dX11_shape_60 (fun v20 => ?_)
            refine jo_istore_n (pc := 63) (lv' := [(3, .int v20), (0, .ref (adr w 306)), (1, .int x0), (2, .int x1), (4, .int i6)]) dX11_shape_63 rfl (ltb rfl) rfl ?_
            refine jo_lv (lv' := [(0, .ref (adr w 306)), (1, .int x0), (2, .int x1), (4, .int i6), (3, .int v20)]) [1, 2, 3, 4, 0] rfl ?_
            exact jo_leaf (by rfl) (h64_8 v20)
    · refine jo_sipush (pc := 26) dX11_shape_26 (ic_s_m10000) ?_
      exact jo_ireturn (pc := 29) rfl rfl dX11_shape_29
theorem c_X11_shape {w : Wd} (hw : WOK w) (hN : wn w = NT) {σ : Mem} {x0 : Int32} {x1 : Int32} : ∀ r σ', f_X11_shape σ x0 x1 = some (r, σ') → MC w mu_X11_shape (vI r) [.ref (adr w 306), .int x0, .int x1] σ σ' := mc_of ok_X11_shape rfl (Nat.le_of_ble_eq_true rfl) (t_X11_shape hw hN)
