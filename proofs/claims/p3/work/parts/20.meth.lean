abbrev mu_X11_timesLetter : MD := (yX11_timesLetter, cX11_timesLetter, 8, none, 2)
theorem ok_X11_timesLetter : MOK mu_X11_timesLetter 3 := ⟨gw_1534, gw_171, (by decide +kernel : plainFor yX11_timesLetter = true), ⟨(by decide +kernel : yX11_timesLetter.cls ≠ "java/lang/invoke/MethodHandle"), (by decide +kernel : yX11_timesLetter.cls ≠ "java/lang/invoke/VarHandle"), (by decide +kernel : (parseMethodDescriptor yX11_timesLetter.desc).map (fun d => d.parameters.length) = some 3)⟩, Nat.le_of_ble_eq_true rfl⟩
noncomputable def j_X11_timesLetter_171 (x0 : Int32) (x1 : Int32) (x2 : Int64) (σ4 : Mem) : Option Mem :=
  (f_X11_of σ4 x0 x1).bind (fun (v5 : Int64) => (f_X11_puts σ4 x0 x1 (v5 + x2)).bind (fun (σ6 : Mem) => some σ6))
noncomputable def l_X11_timesLetter_128 (x0 : Int32) (σ9 : Mem) (i10 : Int32) : Option ((Mem × Int32) ⊕ Mem) :=
  if 6 ≤ i10 then (some (Sum.inr σ9)) else ((f_X11_of σ9 x0 i10).bind (fun (v11 : Int64) => gL σ9 314 i10 (fun (v12 : Int64) => (f_X11_puts σ9 x0 i10 (v11 + v12)).bind (fun (σ13 : Mem) => pL σ13 314 i10 0 (fun (σ14 : Mem) => some (Sum.inl (σ14, i10 + 1)))))))
noncomputable def j_X11_timesLetter_125 (x0 : Int32) (σ8 : Mem) : Option Mem :=
  loopO (fun (z10 : (Mem × Int32)) => l_X11_timesLetter_128 x0 z10.1 z10.2) (σ8, 0)
noncomputable def l_X11_timesLetter_91 (x0 : Int32) (x1 : Int32) (x2 : Int64) (σ15 : Mem) (i16 : Int32) : Option ((Mem × Int32) ⊕ Mem) :=
  (f_X11_n σ15).bind (fun (v17 : Int32) => if v17 ≤ i16 then (some (Sum.inr σ15)) else ((f_X11_weight σ15 i16).bind (fun (v18 : Int32) => if v18 = 1 then ((f_X11_passesOne σ15 x0 i16 x1 x2).bind (fun (σ19 : Mem) => some (Sum.inl (σ19, i16 + 1)))) else (some (Sum.inr σ15)))))
noncomputable def j_X11_timesLetter_77 (x0 : Int32) (x1 : Int32) (x2 : Int64) (σ2 : Mem) : Option Mem :=
  (f_X11_weight σ2 x1).bind (fun (v3 : Int32) => (if v3 = 1 then (bd (x1 + 1) (fun (v7 : Int32) => (loopO (fun (z16 : (Mem × Int32)) => l_X11_timesLetter_91 x0 x1 x2 z16.1 z16.2) (σ2, v7) : Option Mem).bind (fun (z8 : Mem) => j_X11_timesLetter_125 x0 z8))) else (some σ2) : Option Mem).bind (fun (z4 : Mem) => j_X11_timesLetter_171 x0 x1 x2 z4))
noncomputable def j_X11_timesLetter_71 (i22 : Int32) (σ27 : Mem) : Option ((Mem × Int32) ⊕ Mem) :=
  some (Sum.inl (σ27, i22 + 1))
noncomputable def l_X11_timesLetter_21 (x0 : Int32) (x1 : Int32) (x2 : Int64) (σ21 : Mem) (i22 : Int32) : Option ((Mem × Int32) ⊕ Mem) :=
  (f_X11_n σ21).bind (fun (v23 : Int32) => if v23 ≤ i22 then (some (Sum.inr σ21)) else ((f_X11_weight σ21 i22).bind (fun (v24 : Int32) => if 3 ≤ v24 then (some (Sum.inr σ21)) else ((f_X11_of σ21 x0 i22).bind (fun (v25 : Int64) => (f_X11_weight σ21 i22).bind (fun (v26 : Int32) => (if v26 = 2 then ((f_X11_passesTwo σ21 x0 i22 x1 (v25 * x2)).bind (fun (σ28 : Mem) => some σ28)) else (some σ21) : Option Mem).bind (fun (z27 : Mem) => j_X11_timesLetter_71 i22 z27)))))))
noncomputable def f_X11_timesLetter (σ : Mem) (x0 : Int32) (x1 : Int32) (x2 : Int64) : Option Mem :=
  if x2 = 0 then (some σ) else ((f_X11_weight σ x1).bind (fun (v1 : Int32) => (if v1 = 1 then (bd (x1 + 1) (fun (v20 : Int32) => loopO (fun (z22 : (Mem × Int32)) => l_X11_timesLetter_21 x0 x1 x2 z22.1 z22.2) (σ, v20))) else (some σ) : Option Mem).bind (fun (z2 : Mem) => j_X11_timesLetter_77 x0 x1 x2 z2)))
theorem t_X11_timesLetter {w : Wd} (hw : WOK w) (hN : wn w = NT) {σ : Mem} {x0 : Int32} {x1 : Int32} {x2 : Int64} : JO w mu_X11_timesLetter vV σ [(0, .ref (adr w 306)), (1, .int x0), (2, .int x1), (3, .long x2)] [] 0 (f_X11_timesLetter σ x0 x1 x2) (fun z => some ((), z)) := by
  unfold f_X11_timesLetter
  refine jo_lload_n (pc := 0) 3 rfl dX11_timesLetter_0 rfl ?_
  refine jo_lconst (pc := 1) dX11_timesLetter_1 (ic_l_0) ?_
  refine jo_lcmp_ne (pc := 2) dX11_timesLetter_2 dX11_timesLetter_3 (tgt := 7) rfl ?_ ?_
  · refine jo_aload_n (pc := 7) 0 rfl dX11_timesLetter_7 rfl ?_
    refine jo_iload_n (pc := 8) 2 rfl dX11_timesLetter_8 rfl ?_
    refine jo_cV_I_p (pc := 9) (μ' := mu_X11_weight) (fx := f_X11_weight σ x1) (As := [.int x1]) (c_X11_weight hw hN) (ok_X11_weight) (ltb rfl) (all3 gw_1446 gw_1448 gw_69) (ik_306 hw hN) (by decide) (q := (RX11, TX11, 39)) rfl rfl rfl rfl (Nat.le_of_ble_eq_true rfl) dX11_timesLetter_9 (fun v1 => ?_)
    refine jo_iconst (pc := 12) dX11_timesLetter_12 (ic_i_1) ?_
    refine jo_join1 (S := Mem) (fun (z2 : Mem) => z2) (fun (z2 : Mem) => [(0, .ref (adr w 306)), (1, .int x0), (2, .int x1), (3, .long x2)]) (fun (z2 : Mem) => []) 77 ?_ (fun h77_2 => ?_)
    · intro σ2
      show JO w mu_X11_timesLetter vV σ2 [(0, .ref (adr w 306)), (1, .int x0), (2, .int x1), (3, .long x2)] [] 77 (j_X11_timesLetter_77 x0 x1 x2 σ2) _
      unfold j_X11_timesLetter_77
      refine jo_aload_n (pc := 77) 0 rfl dX11_timesLetter_77 rfl ?_
      refine jo_iload_n (pc := 78) 2 rfl dX11_timesLetter_78 rfl ?_
      refine jo_cV_I_p (pc := 79) (μ' := mu_X11_weight) (fx := f_X11_weight σ2 x1) (As := [.int x1]) (c_X11_weight hw hN) (ok_X11_weight) (ltb rfl) (all3 gw_1446 gw_1448 gw_69) (ik_306 hw hN) (by decide) (q := (RX11, TX11, 39)) rfl rfl rfl rfl (Nat.le_of_ble_eq_true rfl) dX11_timesLetter_79 (fun v3 => ?_)
      refine jo_iconst (pc := 82) dX11_timesLetter_82 (ic_i_1) ?_
      refine jo_join1 (S := Mem) (fun (z4 : Mem) => z4) (fun (z4 : Mem) => [(0, .ref (adr w 306)), (1, .int x0), (2, .int x1), (3, .long x2)]) (fun (z4 : Mem) => []) 171 ?_ (fun h171_4 => ?_)
      · intro σ4
        show JO w mu_X11_timesLetter vV σ4 [(0, .ref (adr w 306)), (1, .int x0), (2, .int x1), (3, .long x2)] [] 171 (j_X11_timesLetter_171 x0 x1 x2 σ4) _
        unfold j_X11_timesLetter_171
        refine jo_aload_n (pc := 171) 0 rfl dX11_timesLetter_171 rfl ?_
        refine jo_iload_n (pc := 172) 1 rfl dX11_timesLetter_172 rfl ?_
        refine jo_iload_n (pc := 173) 2 rfl dX11_timesLetter_173 rfl ?_
        refine jo_aload_n (pc := 174) 0 rfl dX11_timesLetter_174 rfl ?_
        refine jo_iload_n (pc := 175) 1 rfl dX11_timesLetter_175 rfl ?_
        refine jo_iload_n (pc := 176) 2 rfl dX11_timesLetter_176 rfl ?_
        refine jo_cV_J_p (pc := 177) (μ' := mu_X11_of) (fx := f_X11_of σ4 x0 x1) (As := [.int x0, .int x1]) (c_X11_of hw hN) (ok_X11_of) (ltb rfl) (all3 gw_1527 gw_1529 gw_87) (ik_306 hw hN) (by decide) (q := (RX11, TX11, 39)) rfl rfl rfl rfl (Nat.le_of_ble_eq_true rfl) dX11_timesLetter_177 (fun v5 => ?_)
        refine jo_lload_n (pc := 180) 3 rfl dX11_timesLetter_180 rfl ?_
        refine jo_ladd (pc := 181) dX11_timesLetter_181 ?_
        refine jo_cV_V_i (pc := 182) (μ' := mu_X11_puts) (fx := f_X11_puts σ4 x0 x1 (v5 + x2)) (As := [.int x0, .int x1, .long (v5 + x2)]) (c_X11_puts hw hN) (ok_X11_puts) (ltb rfl) (all3 gw_1519 gw_1521 gw_85) (ik_306 hw hN) (by decide) (q := (RX11, TX11, 39)) rfl rfl rfl rfl (Nat.le_of_ble_eq_true rfl) dX11_timesLetter_182 (fun σ6 => ?_)
        exact jo_return (pc := 185) rfl rfl dX11_timesLetter_185
      · refine jo_icmp_ne (pc := 83) dX11_timesLetter_83 (tgt := 171) rfl ?_ ?_
        · exact jo_leaf (by rfl) (h171_4 σ2)
        · refine jo_iload_n (pc := 86) 2 rfl dX11_timesLetter_86 rfl ?_
          refine jo_iconst (pc := 87) dX11_timesLetter_87 (ic_i_1) ?_
          refine jo_iadd (pc := 88) dX11_timesLetter_88 ?_
          refine jo_bd ?_
          refine jo_istore (pc := 89) (lv' := [(5, .int (x1 + 1)), (0, .ref (adr w 306)), (1, .int x0), (2, .int x1), (3, .long x2)]) dX11_timesLetter_89 (ltb rfl) rfl ?_
          generalize (x1 + 1) = v7
          refine jo_join1 (S := Mem) (fun (z8 : Mem) => z8) (fun (z8 : Mem) => [(0, .ref (adr w 306)), (1, .int x0), (2, .int x1), (3, .long x2)]) (fun (z8 : Mem) => []) 125 ?_ (fun h125_8 => ?_)
          · intro σ8
            show JO w mu_X11_timesLetter vV σ8 [(0, .ref (adr w 306)), (1, .int x0), (2, .int x1), (3, .long x2)] [] 125 (j_X11_timesLetter_125 x0 σ8) _
            unfold j_X11_timesLetter_125
            refine jo_iconst (pc := 125) dX11_timesLetter_125 (ic_i_0) ?_
            refine jo_istore (pc := 126) (lv' := [(5, .int 0), (0, .ref (adr w 306)), (1, .int x0), (2, .int x1), (3, .long x2)]) dX11_timesLetter_126 (ltb rfl) rfl ?_
            refine jo_lv (lv' := [(0, .ref (adr w 306)), (1, .int x0), (2, .int x1), (3, .long x2), (5, .int 0)]) [1, 2, 3, 4, 0] rfl ?_
            refine jo_loop (X := Mem) (fun (z10 : (Mem × Int32)) => z10.1) (fun (z10 : (Mem × Int32)) => [(0, .ref (adr w 306)), (1, .int x0), (2, .int x1), (3, .long x2), (5, .int z10.2)]) (body := (fun (z10 : (Mem × Int32)) => l_X11_timesLetter_128 x0 z10.1 z10.2)) (fun F128_10 hF128_10 s => ?_) (σ8, 0)
            obtain ⟨σ9, i10⟩ := s
            show JO w mu_X11_timesLetter vV σ9 [(0, .ref (adr w 306)), (1, .int x0), (2, .int x1), (3, .long x2), (5, .int i10)] [] 128 (l_X11_timesLetter_128 x0 σ9 i10) _
            unfold l_X11_timesLetter_128
            refine jo_iload (pc := 128) 4 rfl dX11_timesLetter_128 ?_
            refine jo_bipush (pc := 130) dX11_timesLetter_130 (ic_b_6) ?_
            refine jo_icmp_ge (pc := 132) dX11_timesLetter_132 (tgt := 171) rfl ?_ ?_
            · refine jo_lv (lv' := [(0, .ref (adr w 306)), (1, .int x0), (2, .int x1), (3, .long x2)]) [0, 1, 2, 3] rfl ?_
              exact jo_leaf (by rfl) (h171_4 σ9)
            · refine jo_aload_n (pc := 135) 0 rfl dX11_timesLetter_135 rfl ?_
              refine jo_iload_n (pc := 136) 1 rfl dX11_timesLetter_136 rfl ?_
              refine jo_iload (pc := 137) 4 rfl dX11_timesLetter_137 ?_
              refine jo_aload_n (pc := 139) 0 rfl dX11_timesLetter_139 rfl ?_
              refine jo_iload_n (pc := 140) 1 rfl dX11_timesLetter_140 rfl ?_
              refine jo_iload (pc := 141) 4 rfl dX11_timesLetter_141 ?_
              refine jo_cV_J_p (pc := 143) (μ' := mu_X11_of) (fx := f_X11_of σ9 x0 i10) (As := [.int x0, .int i10]) (c_X11_of hw hN) (ok_X11_of) (ltb rfl) (all3 gw_1527 gw_1529 gw_87) (ik_306 hw hN) (by decide) (q := (RX11, TX11, 39)) rfl rfl rfl rfl (Nat.le_of_ble_eq_true rfl) dX11_timesLetter_143 (fun v11 => ?_)
              refine jo_aload_n (pc := 146) 0 rfl dX11_timesLetter_146 rfl ?_
              refine jo_getrE (pc := 147) ok_11_14 (ik_306 hw hN) rf_306_14 gw_1307 dX11_timesLetter_147 ?_
              refine jo_iload (pc := 150) 4 rfl dX11_timesLetter_150 ?_
              refine jo_lald (pc := 152) (ik_314 hw hN) dX11_timesLetter_152 (fun v12 => ?_)
              refine jo_ladd (pc := 153) dX11_timesLetter_153 ?_
              refine jo_cV_V_i (pc := 154) (μ' := mu_X11_puts) (fx := f_X11_puts σ9 x0 i10 (v11 + v12)) (As := [.int x0, .int i10, .long (v11 + v12)]) (c_X11_puts hw hN) (ok_X11_puts) (ltb rfl) (all3 gw_1519 gw_1521 gw_85) (ik_306 hw hN) (by decide) (q := (RX11, TX11, 39)) rfl rfl rfl rfl (Nat.le_of_ble_eq_true rfl) dX11_timesLetter_154 (fun σ13 => ?_)
              refine jo_aload_n (pc := 157) 0 rfl dX11_timesLetter_157 rfl ?_
              refine jo_getrE (pc := 158) ok_11_14 (ik_306 hw hN) rf_306_14 gw_1307 dX11_timesLetter_158 ?_
              refine jo_iload (pc := 161) 4 rfl dX11_timesLetter_161 ?_
              refine jo_lconst (pc := 163) dX11_timesLetter_163 (ic_l_0) ?_
              refine jo_last (pc := 164) (ik_314 hw hN) dX11_timesLetter_164 (fun σ14 => ?_)
              refine jo_iinc (pc := 165) (lv' := [(5, .int (i10 + 1)), (0, .ref (adr w 306)), (1, .int x0), (2, .int x1), (3, .long x2)]) 4 rfl dX11_timesLetter_165 (congrArg (fun z => i10 + z) (ic_i_1)) (ltb rfl) rfl ?_
              refine jo_goto (pc := 168) dX11_timesLetter_168 (tgt := 128) rfl ?_
              refine jo_lv (lv' := [(0, .ref (adr w 306)), (1, .int x0), (2, .int x1), (3, .long x2), (5, .int (i10 + 1))]) [1, 2, 3, 4, 0] rfl ?_
              exact jo_leaf (by rfl) (hF128_10 (σ14, i10 + 1))
          · refine jo_lv (lv' := [(0, .ref (adr w 306)), (1, .int x0), (2, .int x1), (3, .long x2), (5, .int v7)]) [1, 2, 3, 4, 0] rfl ?_
            refine jo_loop (X := Mem) (fun (z16 : (Mem × Int32)) => z16.1) (fun (z16 : (Mem × Int32)) => [(0, .ref (adr w 306)), (1, .int x0), (2, .int x1), (3, .long x2), (5, .int z16.2)]) (body := (fun (z16 : (Mem × Int32)) => l_X11_timesLetter_91 x0 x1 x2 z16.1 z16.2)) (fun F91_16 hF91_16 s => ?_) (σ2, v7)
            obtain ⟨σ15, i16⟩ := s
            show JO w mu_X11_timesLetter vV σ15 [(0, .ref (adr w 306)), (1, .int x0), (2, .int x1), (3, .long x2), (5, .int i16)] [] 91 (l_X11_timesLetter_91 x0 x1 x2 σ15 i16) _
            unfold l_X11_timesLetter_91
            refine jo_iload (pc := 91) 4 rfl dX11_timesLetter_91 ?_
            refine jo_aload_n (pc := 93) 0 rfl dX11_timesLetter_93 rfl ?_
            refine jo_cV_I_p (pc := 94) (μ' := mu_X11_n) (fx := f_X11_n σ15) (As := []) (c_X11_n hw hN) (ok_X11_n) (ltb rfl) (all3 gw_1441 gw_1443 gw_68) (ik_306 hw hN) (by decide) (q := (RX11, TX11, 39)) rfl rfl rfl rfl (Nat.le_of_ble_eq_true rfl) dX11_timesLetter_94 (fun v17 => ?_)
            refine jo_icmp_ge (pc := 97) dX11_timesLetter_97 (tgt := 125) rfl ?_ ?_
            · refine jo_lv (lv' := [(0, .ref (adr w 306)), (1, .int x0), (2, .int x1), (3, .long x2)]) [0, 1, 2, 3] rfl ?_
              exact jo_leaf (by rfl) (h125_8 σ15)
            · refine jo_aload_n (pc := 100) 0 rfl dX11_timesLetter_100 rfl ?_
              refine jo_iload (pc := 101) 4 rfl dX11_timesLetter_101 ?_
              refine jo_cV_I_p (pc := 103) (μ' := mu_X11_weight) (fx := f_X11_weight σ15 i16) (As := [.int i16]) (c_X11_weight hw hN) (ok_X11_weight) (ltb rfl) (all3 gw_1446 gw_1448 gw_69) (ik_306 hw hN) (by decide) (q := (RX11, TX11, 39)) rfl rfl rfl rfl (Nat.le_of_ble_eq_true rfl) dX11_timesLetter_103 (fun v18 => ?_)
              refine jo_iconst (pc := 106) dX11_timesLetter_106 (ic_i_1) ?_
              refine jo_icmp_ne (pc := 107) dX11_timesLetter_107 (tgt := 125) rfl ?_ ?_
              · refine jo_lv (lv' := [(0, .ref (adr w 306)), (1, .int x0), (2, .int x1), (3, .long x2)]) [0, 1, 2, 3] rfl ?_
                exact jo_leaf (by rfl) (h125_8 σ15)
              · refine jo_aload_n (pc := 110) 0 rfl dX11_timesLetter_110 rfl ?_
                refine jo_iload_n (pc := 111) 1 rfl dX11_timesLetter_111 rfl ?_
                refine jo_iload (pc := 112) 4 rfl dX11_timesLetter_112 ?_
                refine jo_iload_n (pc := 114) 2 rfl dX11_timesLetter_114 rfl ?_
                refine jo_lload_n (pc := 115) 3 rfl dX11_timesLetter_115 rfl ?_
                refine jo_cV_V_i (pc := 116) (μ' := mu_X11_passesOne) (fx := f_X11_passesOne σ15 x0 i16 x1 x2) (As := [.int x0, .int i16, .int x1, .long x2]) (c_X11_passesOne hw hN) (ok_X11_passesOne) (ltb rfl) (all3 gw_1539 gw_1541 gw_90) (ik_306 hw hN) (by decide) (q := (RX11, TX11, 39)) rfl rfl rfl rfl (Nat.le_of_ble_eq_true rfl) dX11_timesLetter_116 (fun σ19 => ?_)
                refine jo_iinc (pc := 119) (lv' := [(5, .int (i16 + 1)), (0, .ref (adr w 306)), (1, .int x0), (2, .int x1), (3, .long x2)]) 4 rfl dX11_timesLetter_119 (congrArg (fun z => i16 + z) (ic_i_1)) (ltb rfl) rfl ?_
                refine jo_goto (pc := 122) dX11_timesLetter_122 (tgt := 91) rfl ?_
                refine jo_lv (lv' := [(0, .ref (adr w 306)), (1, .int x0), (2, .int x1), (3, .long x2), (5, .int (i16 + 1))]) [1, 2, 3, 4, 0] rfl ?_
                exact jo_leaf (by rfl) (hF91_16 (σ19, i16 + 1))
    · refine jo_icmp_ne (pc := 13) dX11_timesLetter_13 (tgt := 77) rfl ?_ ?_
      · exact jo_leaf (by rfl) (h77_2 σ)
      · refine jo_iload_n (pc := 16) 2 rfl dX11_timesLetter_16 rfl ?_
        refine jo_iconst (pc := 17) dX11_timesLetter_17 (ic_i_1) ?_
        refine jo_iadd (pc := 18) dX11_timesLetter_18 ?_
        refine jo_bd ?_
        refine jo_istore (pc := 19) (lv' := [(5, .int (x1 + 1)), (0, .ref (adr w 306)), (1, .int x0), (2, .int x1), (3, .long x2)]) dX11_timesLetter_19 (ltb rfl) rfl ?_
        generalize (x1 + 1) = v20
        refine jo_lv (lv' := [(0, .ref (adr w 306)), (1, .int x0), (2, .int x1), (3, .long x2), (5, .int v20)]) [1, 2, 3, 4, 0] rfl ?_
        refine jo_loop (X := Mem) (fun (z22 : (Mem × Int32)) => z22.1) (fun (z22 : (Mem × Int32)) => [(0, .ref (adr w 306)), (1, .int x0), (2, .int x1), (3, .long x2), (5, .int z22.2)]) (body := (fun (z22 : (Mem × Int32)) => l_X11_timesLetter_21 x0 x1 x2 z22.1 z22.2)) (fun F21_22 hF21_22 s => ?_) (σ, v20)
        obtain ⟨σ21, i22⟩ := s
        show JO w mu_X11_timesLetter vV σ21 [(0, .ref (adr w 306)), (1, .int x0), (2, .int x1), (3, .long x2), (5, .int i22)] [] 21 (l_X11_timesLetter_21 x0 x1 x2 σ21 i22) _
        unfold l_X11_timesLetter_21
        refine jo_iload (pc := 21) 4 rfl dX11_timesLetter_21 ?_
        refine jo_aload_n (pc := 23) 0 rfl dX11_timesLetter_23 rfl ?_
        refine jo_cV_I_p (pc := 24) (μ' := mu_X11_n) (fx := f_X11_n σ21) (As := []) (c_X11_n hw hN) (ok_X11_n) (ltb rfl) (all3 gw_1441 gw_1443 gw_68) (ik_306 hw hN) (by decide) (q := (RX11, TX11, 39)) rfl rfl rfl rfl (Nat.le_of_ble_eq_true rfl) dX11_timesLetter_24 (fun v23 => ?_)
        refine jo_icmp_ge (pc := 27) dX11_timesLetter_27 (tgt := 77) rfl ?_ ?_
        · refine jo_lv (lv' := [(0, .ref (adr w 306)), (1, .int x0), (2, .int x1), (3, .long x2)]) [0, 1, 2, 3] rfl ?_
          exact jo_leaf (by rfl) (h77_2 σ21)
        · refine jo_aload_n (pc := 30) 0 rfl dX11_timesLetter_30 rfl ?_
          refine jo_iload (pc := 31) 4 rfl dX11_timesLetter_31 ?_
          refine jo_cV_I_p (pc := 33) (μ' := mu_X11_weight) (fx := f_X11_weight σ21 i22) (As := [.int i22]) (c_X11_weight hw hN) (ok_X11_weight) (ltb rfl) (all3 gw_1446 gw_1448 gw_69) (ik_306 hw hN) (by decide) (q := (RX11, TX11, 39)) rfl rfl rfl rfl (Nat.le_of_ble_eq_true rfl) dX11_timesLetter_33 (fun v24 => ?_)
          refine jo_iconst (pc := 36) dX11_timesLetter_36 (ic_i_3) ?_
          refine jo_icmp_ge (pc := 37) dX11_timesLetter_37 (tgt := 77) rfl ?_ ?_
          · refine jo_lv (lv' := [(0, .ref (adr w 306)), (1, .int x0), (2, .int x1), (3, .long x2)]) [0, 1, 2, 3] rfl ?_
            exact jo_leaf (by rfl) (h77_2 σ21)
          · refine jo_aload_n (pc := 40) 0 rfl dX11_timesLetter_40 rfl ?_
            refine jo_iload_n (pc := 41) 1 rfl dX11_timesLetter_41 rfl ?_
            refine jo_iload (pc := 42) 4 rfl dX11_timesLetter_42 ?_
            refine jo_cV_J_p (pc := 44) (μ' := mu_X11_of) (fx := f_X11_of σ21 x0 i22) (As := [.int x0, .int i22]) (c_X11_of hw hN) (ok_X11_of) (ltb rfl) (all3 gw_1527 gw_1529 gw_87) (ik_306 hw hN) (by decide) (q := (RX11, TX11, 39)) rfl rfl rfl rfl (Nat.le_of_ble_eq_true rfl) dX11_timesLetter_44 (fun v25 => ?_)
            refine jo_lstore (pc := 47) (lv' := [(6, .long v25), (0, .ref (adr w 306)), (1, .int x0), (2, .int x1), (3, .long x2), (5, .int i22)]) dX11_timesLetter_47 (ltb rfl) rfl ?_
            refine jo_aload_n (pc := 49) 1 rfl dX11_timesLetter_49 rfl ?_
            refine jo_iload (pc := 50) 5 rfl dX11_timesLetter_50 ?_
            refine jo_cV_I_p (pc := 52) (μ' := mu_X11_weight) (fx := f_X11_weight σ21 i22) (As := [.int i22]) (c_X11_weight hw hN) (ok_X11_weight) (ltb rfl) (all3 gw_1446 gw_1448 gw_69) (ik_306 hw hN) (by decide) (q := (RX11, TX11, 39)) rfl rfl rfl rfl (Nat.le_of_ble_eq_true rfl) dX11_timesLetter_52 (fun v26 => ?_)
            refine jo_iconst (pc := 55) dX11_timesLetter_55 (ic_i_2) ?_
            refine jo_join1 (S := Mem) (fun (z27 : Mem) => z27) (fun (z27 : Mem) => [(0, .ref (adr w 306)), (1, .int x0), (2, .int x1), (3, .long x2), (5, .int i22)]) (fun (z27 : Mem) => []) 71 ?_ (fun h71_27 => ?_)
            · intro σ27
              show JO w mu_X11_timesLetter vV σ27 [(0, .ref (adr w 306)), (1, .int x0), (2, .int x1), (3, .long x2), (5, .int i22)] [] 71 (j_X11_timesLetter_71 i22 σ27) _
              unfold j_X11_timesLetter_71
              refine jo_iinc (pc := 71) (lv' := [(5, .int (i22 + 1)), (0, .ref (adr w 306)), (1, .int x0), (2, .int x1), (3, .long x2)]) 4 rfl dX11_timesLetter_71 (congrArg (fun z => i22 + z) (ic_i_1)) (ltb rfl) rfl ?_
              refine jo_goto (pc := 74) dX11_timesLetter_74 (tgt := 21) rfl ?_
              refine jo_lv (lv' := [(0, .ref (adr w 306)), (1, .int x0), (2, .int x1), (3, .long x2), (5, .int (i22 + 1))]) [1, 2, 3, 4, 0] rfl ?_
              exact jo_leaf (by rfl) (hF21_22 (σ27, i22 + 1))
            · refine jo_icmp_ne (pc := 56) dX11_timesLetter_56 (tgt := 71) rfl ?_ ?_
              · refine jo_lv (lv' := [(0, .ref (adr w 306)), (1, .int x0), (2, .int x1), (3, .long x2), (5, .int i22)]) [1, 2, 3, 4, 5] rfl ?_
                exact jo_leaf (by rfl) (h71_27 σ21)
              · refine jo_aload_n (pc := 59) 1 rfl dX11_timesLetter_59 rfl ?_
                refine jo_iload_n (pc := 60) 2 rfl dX11_timesLetter_60 rfl ?_
                refine jo_iload (pc := 61) 5 rfl dX11_timesLetter_61 ?_
                refine jo_iload_n (pc := 63) 3 rfl dX11_timesLetter_63 rfl ?_
                refine jo_lload (pc := 64) 0 rfl dX11_timesLetter_64 ?_
                refine jo_lload_n (pc := 66) 4 rfl dX11_timesLetter_66 rfl ?_
                refine jo_lmul (pc := 67) dX11_timesLetter_67 ?_
                refine jo_cV_V_i (pc := 68) (μ' := mu_X11_passesTwo) (fx := f_X11_passesTwo σ21 x0 i22 x1 (v25 * x2)) (As := [.int x0, .int i22, .int x1, .long (v25 * x2)]) (c_X11_passesTwo hw hN) (ok_X11_passesTwo) (ltb rfl) (all3 gw_1535 gw_1537 gw_89) (ik_306 hw hN) (by decide) (q := (RX11, TX11, 39)) rfl rfl rfl rfl (Nat.le_of_ble_eq_true rfl) dX11_timesLetter_68 (fun σ28 => ?_)
                refine jo_lv (lv' := [(0, .ref (adr w 306)), (1, .int x0), (2, .int x1), (3, .long x2), (5, .int i22)]) [1, 2, 3, 4, 5] rfl ?_
                exact jo_leaf (by rfl) (h71_27 σ28)
  · exact jo_return (pc := 6) rfl rfl dX11_timesLetter_6
theorem c_X11_timesLetter {w : Wd} (hw : WOK w) (hN : wn w = NT) {σ : Mem} {x0 : Int32} {x1 : Int32} {x2 : Int64} : ∀ σ', f_X11_timesLetter σ x0 x1 x2 = some σ' → MC w mu_X11_timesLetter none [.ref (adr w 306), .int x0, .int x1, .long x2] σ σ' := mc_ofV ok_X11_timesLetter rfl (Nat.le_of_ble_eq_true rfl) (t_X11_timesLetter hw hN)
abbrev mu_X11_times : MD := (yX11_times, cX11_times, 4, none, 3)
theorem ok_X11_times : MOK mu_X11_times 2 := ⟨gw_1526, gw_171, (by decide +kernel : plainFor yX11_times = true), ⟨(by decide +kernel : yX11_times.cls ≠ "java/lang/invoke/MethodHandle"), (by decide +kernel : yX11_times.cls ≠ "java/lang/invoke/VarHandle"), (by decide +kernel : (parseMethodDescriptor yX11_times.desc).map (fun d => d.parameters.length) = some 2)⟩, Nat.le_of_ble_eq_true rfl⟩
noncomputable def l_X11_times_2 (x0 : Int32) (x1 : Int32) (σ1 : Mem) (i2 : Int32) : Option ((Mem × Int32) ⊕ Mem) :=
  (f_X11_n σ1).bind (fun (v3 : Int32) => if v3 ≤ i2 then (some (Sum.inr σ1)) else ((f_X11_of σ1 x1 i2).bind (fun (v4 : Int64) => (f_X11_timesLetter σ1 x0 i2 v4).bind (fun (σ5 : Mem) => some (Sum.inl (σ5, i2 + 1))))))
noncomputable def f_X11_times (σ : Mem) (x0 : Int32) (x1 : Int32) : Option Mem :=
  loopO (fun (z2 : (Mem × Int32)) => l_X11_times_2 x0 x1 z2.1 z2.2) (σ, 0)
theorem t_X11_times {w : Wd} (hw : WOK w) (hN : wn w = NT) {σ : Mem} {x0 : Int32} {x1 : Int32} : JO w mu_X11_times vV σ [(0, .ref (adr w 306)), (1, .int x0), (2, .int x1)] [] 0 (f_X11_times σ x0 x1) (fun z => some ((), z)) := by
  unfold f_X11_times
  refine jo_iconst (pc := 0) dX11_times_0 (ic_i_0) ?_
  refine jo_istore_n (pc := 1) (lv' := [(3, .int 0), (0, .ref (adr w 306)), (1, .int x0), (2, .int x1)]) dX11_times_1 rfl (ltb rfl) rfl ?_
  refine jo_lv (lv' := [(0, .ref (adr w 306)), (1, .int x0), (2, .int x1), (3, .int 0)]) [1, 2, 3, 0] rfl ?_
  refine jo_loop (X := Mem) (fun (z2 : (Mem × Int32)) => z2.1) (fun (z2 : (Mem × Int32)) => [(0, .ref (adr w 306)), (1, .int x0), (2, .int x1), (3, .int z2.2)]) (body := (fun (z2 : (Mem × Int32)) => l_X11_times_2 x0 x1 z2.1 z2.2)) (fun F2_2 hF2_2 s => ?_) (σ, 0)
  obtain ⟨σ1, i2⟩ := s
  show JO w mu_X11_times vV σ1 [(0, .ref (adr w 306)), (1, .int x0), (2, .int x1), (3, .int i2)] [] 2 (l_X11_times_2 x0 x1 σ1 i2) _
  unfold l_X11_times_2
  refine jo_iload_n (pc := 2) 3 rfl dX11_times_2 rfl ?_
  refine jo_aload_n (pc := 3) 0 rfl dX11_times_3 rfl ?_
  refine jo_cV_I_p (pc := 4) (μ' := mu_X11_n) (fx := f_X11_n σ1) (As := []) (c_X11_n hw hN) (ok_X11_n) (ltb rfl) (all3 gw_1441 gw_1443 gw_68) (ik_306 hw hN) (by decide) (q := (RX11, TX11, 39)) rfl rfl rfl rfl (Nat.le_of_ble_eq_true rfl) dX11_times_4 (fun v3 => ?_)
  refine jo_icmp_ge (pc := 7) dX11_times_7 (tgt := 28) rfl ?_ ?_
  · exact jo_return (pc := 28) rfl rfl dX11_times_28
  · refine jo_aload_n (pc := 10) 0 rfl dX11_times_10 rfl ?_
    refine jo_iload_n (pc := 11) 1 rfl dX11_times_11 rfl ?_
    refine jo_iload_n (pc := 12) 3 rfl dX11_times_12 rfl ?_
    refine jo_aload_n (pc := 13) 0 rfl dX11_times_13 rfl ?_
    refine jo_iload_n (pc := 14) 2 rfl dX11_times_14 rfl ?_
    refine jo_iload_n (pc := 15) 3 rfl dX11_times_15 rfl ?_
    refine jo_cV_J_p (pc := 16) (μ' := mu_X11_of) (fx := f_X11_of σ1 x1 i2) (As := [.int x1, .int i2]) (c_X11_of hw hN) (ok_X11_of) (ltb rfl) (all3 gw_1527 gw_1529 gw_87) (ik_306 hw hN) (by decide) (q := (RX11, TX11, 39)) rfl rfl rfl rfl (Nat.le_of_ble_eq_true rfl) dX11_times_16 (fun v4 => ?_)
    refine jo_cV_V_i (pc := 19) (μ' := mu_X11_timesLetter) (fx := f_X11_timesLetter σ1 x0 i2 v4) (As := [.int x0, .int i2, .long v4]) (c_X11_timesLetter hw hN) (ok_X11_timesLetter) (ltb rfl) (all3 gw_1531 gw_1533 gw_88) (ik_306 hw hN) (by decide) (q := (RX11, TX11, 39)) rfl rfl rfl rfl (Nat.le_of_ble_eq_true rfl) dX11_times_19 (fun σ5 => ?_)
    refine jo_iinc (pc := 22) (lv' := [(3, .int (i2 + 1)), (0, .ref (adr w 306)), (1, .int x0), (2, .int x1)]) 3 rfl dX11_times_22 (congrArg (fun z => i2 + z) (ic_i_1)) (ltb rfl) rfl ?_
    refine jo_goto (pc := 25) dX11_times_25 (tgt := 2) rfl ?_
    refine jo_lv (lv' := [(0, .ref (adr w 306)), (1, .int x0), (2, .int x1), (3, .int (i2 + 1))]) [1, 2, 3, 0] rfl ?_
    exact jo_leaf (by rfl) (hF2_2 (σ5, i2 + 1))
theorem c_X11_times {w : Wd} (hw : WOK w) (hN : wn w = NT) {σ : Mem} {x0 : Int32} {x1 : Int32} : ∀ σ', f_X11_times σ x0 x1 = some σ' → MC w mu_X11_times none [.ref (adr w 306), .int x0, .int x1] σ σ' := mc_ofV ok_X11_times rfl (Nat.le_of_ble_eq_true rfl) (t_X11_times hw hN)
abbrev mu_X11_choose : MD := (yX11_choose, cX11_choose, 6, some .long, 0)
theorem ok_X11_choose : MOK mu_X11_choose 2 := ⟨gw_1551, gw_171, (by decide +kernel : plainFor yX11_choose = true), ⟨(by decide +kernel : yX11_choose.cls ≠ "java/lang/invoke/MethodHandle"), (by decide +kernel : yX11_choose.cls ≠ "java/lang/invoke/VarHandle"), (by decide +kernel : (parseMethodDescriptor yX11_choose.desc).map (fun d => d.parameters.length) = some 2)⟩, Nat.le_of_ble_eq_true rfl⟩
noncomputable def l_X11_choose_5 (x0 : Int32) (x1 : Int32) (l1 : Int64) (i2 : Int32) : Option ((Int64 × Int32) ⊕ Int64) :=
  if x1 ≤ i2 then (some (Sum.inr l1)) else (nzL (Int32.toInt64 (i2 + 1)) (bd ((l1 * (Int32.toInt64 (x0 - i2))) / (Int32.toInt64 (i2 + 1))) (fun (v3 : Int64) => some (Sum.inl (v3, i2 + 1)))))
noncomputable def f_X11_choose (σ : Mem) (x0 : Int32) (x1 : Int32) : Option Int64 :=
  loopO (fun (z2 : (Int64 × Int32)) => l_X11_choose_5 x0 x1 z2.1 z2.2) (1, 0)
theorem t_X11_choose {w : Wd} (hw : WOK w) (hN : wn w = NT) {σ : Mem} {x0 : Int32} {x1 : Int32} : JO w mu_X11_choose vL σ [(0, .ref (adr w 306)), (1, .int x0), (2, .int x1)] [] 0 (f_X11_choose σ x0 x1) (fun z => some (z, σ)) := by
  unfold f_X11_choose
  refine jo_lconst (pc := 0) dX11_choose_0 (ic_l_1) ?_
  refine jo_lstore_n (pc := 1) (lv' := [(3, .long 1), (0, .ref (adr w 306)), (1, .int x0), (2, .int x1)]) dX11_choose_1 rfl (ltb rfl) rfl ?_
  refine jo_iconst (pc := 2) dX11_choose_2 (ic_i_0) ?_
  refine jo_istore (pc := 3) (lv' := [(5, .int 0), (3, .long 1), (0, .ref (adr w 306)), (1, .int x0), (2, .int x1)]) dX11_choose_3 (ltb rfl) rfl ?_
  refine jo_lv (lv' := [(1, .int x0), (2, .int x1), (3, .long 1), (5, .int 0)]) [3, 4, 1, 0] rfl ?_
  refine jo_loop (X := Int64) (fun (z2 : (Int64 × Int32)) => σ) (fun (z2 : (Int64 × Int32)) => [(1, .int x0), (2, .int x1), (3, .long z2.1), (5, .int z2.2)]) (body := (fun (z2 : (Int64 × Int32)) => l_X11_choose_5 x0 x1 z2.1 z2.2)) (fun F5_2 hF5_2 s => ?_) (1, 0)
  obtain ⟨l1, i2⟩ := s
  show JO w mu_X11_choose vL σ [(1, .int x0), (2, .int x1), (3, .long l1), (5, .int i2)] [] 5 (l_X11_choose_5 x0 x1 l1 i2) _
  unfold l_X11_choose_5
  refine jo_iload (pc := 5) 3 rfl dX11_choose_5 ?_
  refine jo_iload_n (pc := 7) 1 rfl dX11_choose_7 rfl ?_
  refine jo_icmp_ge (pc := 8) dX11_choose_8 (tgt := 31) rfl ?_ ?_
  · refine jo_lload_n (pc := 31) 2 rfl dX11_choose_31 rfl ?_
    exact jo_lreturn (pc := 32) rfl rfl dX11_choose_32
  · refine jo_lload_n (pc := 11) 2 rfl dX11_choose_11 rfl ?_
    refine jo_iload_n (pc := 12) 0 rfl dX11_choose_12 rfl ?_
    refine jo_iload (pc := 13) 3 rfl dX11_choose_13 ?_
    refine jo_isub (pc := 15) dX11_choose_15 ?_
    refine jo_i2l (pc := 16) dX11_choose_16 ?_
    refine jo_lmul (pc := 17) dX11_choose_17 ?_
    refine jo_iload (pc := 18) 3 rfl dX11_choose_18 ?_
    refine jo_iconst (pc := 20) dX11_choose_20 (ic_i_1) ?_
    refine jo_iadd (pc := 21) dX11_choose_21 ?_
    refine jo_i2l (pc := 22) dX11_choose_22 ?_
    refine jo_ldiv (pc := 23) dX11_choose_23 ?_
    refine jo_bd ?_
    refine jo_lstore_n (pc := 24) (lv' := [(3, .long ((l1 * (Int32.toInt64 (x0 - i2))) / (Int32.toInt64 (i2 + 1)))), (1, .int x0), (2, .int x1), (5, .int i2)]) dX11_choose_24 rfl (ltb rfl) rfl ?_
    generalize ((l1 * (Int32.toInt64 (x0 - i2))) / (Int32.toInt64 (i2 + 1))) = v3
    refine jo_iinc (pc := 25) (lv' := [(5, .int (i2 + 1)), (3, .long v3), (1, .int x0), (2, .int x1)]) 3 rfl dX11_choose_25 (congrArg (fun z => i2 + z) (ic_i_1)) (ltb rfl) rfl ?_
    refine jo_goto (pc := 28) dX11_choose_28 (tgt := 5) rfl ?_
    refine jo_lv (lv' := [(1, .int x0), (2, .int x1), (3, .long v3), (5, .int (i2 + 1))]) [2, 3, 1, 0] rfl ?_
    exact jo_leaf (by rfl) (hF5_2 (v3, i2 + 1))
theorem c_X11_choose {w : Wd} (hw : WOK w) (hN : wn w = NT) {σ : Mem} {x0 : Int32} {x1 : Int32} : ∀ r, f_X11_choose σ x0 x1 = some r → MC w mu_X11_choose (vL r) [.ref (adr w 306), .int x0, .int x1] σ σ := mc_ofP ok_X11_choose rfl (Nat.le_of_ble_eq_true rfl) (t_X11_choose hw hN)
abbrev mu_X11_difference (d : Nat) : MD := (yX11_difference, cX11_difference, 9, some .long, 4 + d)
theorem ok_X11_difference (d : Nat) : MOK (mu_X11_difference d) 3 := ⟨gw_1518, gw_171, (by decide +kernel : plainFor yX11_difference = true), ⟨(by decide +kernel : yX11_difference.cls ≠ "java/lang/invoke/MethodHandle"), (by decide +kernel : yX11_difference.cls ≠ "java/lang/invoke/VarHandle"), (by decide +kernel : (parseMethodDescriptor yX11_difference.desc).map (fun d => d.parameters.length) = some 3)⟩, Nat.le_of_ble_eq_true rfl⟩
noncomputable def j_X11_difference_170 (rec : Mem → Int32 → Int32 → Int64 → Option (Int64 × Mem)) (x0 : Int32) (x1 : Int32) (x2 : Int64) (l4 : Int64) (i5 : Int32) (σ6 : Mem) (v7 : Int64) (l8 : Int64) : Option ((Mem × Int64 × Int32) ⊕ (Int64 × Mem)) :=
  bq (rec σ6 x0 (x1 + 1) ((x2 * v7) * l8)) (fun (v9 : Int64) (σ10 : Mem) => bd (l4 + v9) (fun (v11 : Int64) => some (Sum.inl (σ10, v11, i5 + 1))))
noncomputable def l_X11_difference_121 (rec : Mem → Int32 → Int32 → Int64 → Option (Int64 × Mem)) (x0 : Int32) (x1 : Int32) (x2 : Int64) (v2 : Int32) (σ3 : Mem) (l4 : Int64) (i5 : Int32) : Option ((Mem × Int64 × Int32) ⊕ (Int64 × Mem)) :=
  if v2 < i5 then (some (Sum.inr (l4, σ3))) else (pI σ3 316 x1 i5 (fun (σ6 : Mem) => (f_X11_choose σ6 v2 i5).bind (fun (v7 : Int64) => nzI 2 ((if ((v2 - i5) - (v2 - i5) / 2 * 2) = 0 then (some 1) else (some (-1)) : Option Int64).bind (fun (z8 : Int64) => j_X11_difference_170 rec x0 x1 x2 l4 i5 σ6 v7 z8)))))
noncomputable def j_X11_difference_89 (rec : Mem → Int32 → Int32 → Int64 → Option (Int64 × Mem)) (x0 : Int32) (x2 : Int64) (σ12 : Mem) : Option (Int64 × Mem) :=
  (f_X11_times σ12 90 91).bind (fun (σ13 : Mem) => (f_X11_of σ13 90 x0).bind (fun (v14 : Int64) => some (x2 * v14, σ13)))
noncomputable def j_X11_difference_80 (rec : Mem → Int32 → Int32 → Int64 → Option (Int64 × Mem)) (i16 : Int32) (σ19 : Mem) (l21 : Int64) : Option ((Mem × Int32) ⊕ Mem) :=
  (f_X11_puts σ19 91 i16 l21).bind (fun (σ22 : Mem) => some (Sum.inl (σ22, i16 + 1)))
noncomputable def j_X11_difference_46 (rec : Mem → Int32 → Int32 → Int64 → Option (Int64 × Mem)) (σ15 : Mem) (i16 : Int32) (l18 : Int64) : Option ((Mem × Int32) ⊕ Mem) :=
  (f_X11_puts σ15 90 i16 l18).bind (fun (σ19 : Mem) => (f_X11_n σ19).bind (fun (v20 : Int32) => (if v20 ≤ i16 then (some 0) else ((f_X11_n σ19).bind (fun (v23 : Int32) => gI σ19 316 (v23 + i16) (fun (v24 : Int32) => some (Int32.toInt64 v24)))) : Option Int64).bind (fun (z21 : Int64) => j_X11_difference_80 rec i16 σ19 z21)))
noncomputable def l_X11_difference_13 (rec : Mem → Int32 → Int32 → Int64 → Option (Int64 × Mem)) (σ15 : Mem) (i16 : Int32) : Option ((Mem × Int32) ⊕ Mem) :=
  if 6 ≤ i16 then (some (Sum.inr σ15)) else ((f_X11_n σ15).bind (fun (v17 : Int32) => (if v17 ≤ i16 then (some 0) else (gI σ15 316 i16 (fun (v25 : Int32) => some (Int32.toInt64 v25))) : Option Int64).bind (fun (z18 : Int64) => j_X11_difference_46 rec σ15 i16 z18)))
noncomputable def o_X11_difference (rec : Mem → Int32 → Int32 → Int64 → Option (Int64 × Mem)) (σ : Mem) (x0 : Int32) (x1 : Int32) (x2 : Int64) : Option (Int64 × Mem) :=
  (f_X11_n σ).bind (fun (v1 : Int32) => if x1 = (2 * v1) then ((loopO (fun (z16 : (Mem × Int32)) => l_X11_difference_13 rec z16.1 z16.2) (σ, 0) : Option Mem).bind (fun (z12 : Mem) => j_X11_difference_89 rec x0 x2 z12)) else (gI σ 315 x1 (fun (v2 : Int32) => loopO (fun (z5 : (Mem × Int64 × Int32)) => l_X11_difference_121 rec x0 x1 x2 v2 z5.1 z5.2.1 z5.2.2) (σ, 0, 0))))
theorem t_X11_difference {w : Wd} (hw : WOK w) (hN : wn w = NT) {d : Nat} {rec : Mem → Int32 → Int32 → Int64 → Option (Int64 × Mem)} (hrec : ∀ {τ0 : Mem} {y0 : Int32} {y1 : Int32} {y2 : Int64}, ∀ r τ, rec τ0 y0 y1 y2 = some (r, τ) → MC w (mu_X11_difference d) (vL r) [.ref (adr w 306), .int y0, .int y1, .long y2] τ0 τ) {σ : Mem} {x0 : Int32} {x1 : Int32} {x2 : Int64} : JO w (mu_X11_difference (d + 1)) vL σ [(0, .ref (adr w 306)), (1, .int x0), (2, .int x1), (3, .long x2)] [] 0 (o_X11_difference rec σ x0 x1 x2) some := by
  unfold o_X11_difference
  refine jo_iload_n (pc := 0) 2 rfl dX11_difference_0 rfl ?_
  refine jo_iconst (pc := 1) dX11_difference_1 (ic_i_2) ?_
  refine jo_aload_n (pc := 2) 0 rfl dX11_difference_2 rfl ?_
  refine jo_cV_I_p (pc := 3) (μ' := mu_X11_n) (fx := f_X11_n σ) (As := []) (c_X11_n hw hN) (ok_X11_n) (by simp only [mu_X11_difference, mu_X11_n]; omega) (all3 gw_1441 gw_1443 gw_68) (ik_306 hw hN) (by decide) (q := (RX11, TX11, 39)) rfl rfl rfl rfl (Nat.le_of_ble_eq_true rfl) dX11_difference_3 (fun v1 => ?_)
  refine jo_imul (pc := 6) dX11_difference_6 ?_
  refine jo_icmp_ne (pc := 7) dX11_difference_7 (tgt := 107) rfl ?_ ?_
  · refine jo_lconst (pc := 107) dX11_difference_107 (ic_l_0) ?_
    refine jo_lstore (pc := 108) (lv' := [(5, .long 0), (0, .ref (adr w 306)), (1, .int x0), (2, .int x1), (3, .long x2)]) dX11_difference_108 (ltb rfl) rfl ?_
    refine jo_aload_n (pc := 110) 1 rfl dX11_difference_110 rfl ?_
    refine jo_getrE (pc := 111) ok_11_15 (ik_306 hw hN) rf_306_15 gw_1308 dX11_difference_111 ?_
    refine jo_iload_n (pc := 114) 3 rfl dX11_difference_114 rfl ?_
    refine jo_iald (pc := 115) (ik_315 hw hN) dX11_difference_115 (fun v2 => ?_)
    refine jo_istore (pc := 116) (lv' := [(7, .int v2), (5, .long 0), (0, .ref (adr w 306)), (1, .int x0), (2, .int x1), (3, .long x2)]) dX11_difference_116 (ltb rfl) rfl ?_
    refine jo_iconst (pc := 118) dX11_difference_118 (ic_i_0) ?_
    refine jo_istore (pc := 119) (lv' := [(8, .int 0), (7, .int v2), (5, .long 0), (0, .ref (adr w 306)), (1, .int x0), (2, .int x1), (3, .long x2)]) dX11_difference_119 (ltb rfl) rfl ?_
    refine jo_lv (lv' := [(7, .int v2), (0, .ref (adr w 306)), (1, .int x0), (2, .int x1), (3, .long x2), (5, .long 0), (8, .int 0)]) [1, 3, 4, 5, 6, 2, 0] rfl ?_
    refine jo_loop (X := (Int64 × Mem)) (fun (z5 : (Mem × Int64 × Int32)) => z5.1) (fun (z5 : (Mem × Int64 × Int32)) => [(7, .int v2), (0, .ref (adr w 306)), (1, .int x0), (2, .int x1), (3, .long x2), (5, .long z5.2.1), (8, .int z5.2.2)]) (body := (fun (z5 : (Mem × Int64 × Int32)) => l_X11_difference_121 rec x0 x1 x2 v2 z5.1 z5.2.1 z5.2.2)) (fun F121_5 hF121_5 s => ?_) (σ, 0, 0)
    obtain ⟨σ3, l4, i5⟩ := s
    show JO w (mu_X11_difference (d + 1)) vL σ3 [(7, .int v2), (0, .ref (adr w 306)), (1, .int x0), (2, .int x1), (3, .long x2), (5, .long l4), (8, .int i5)] [] 121 (l_X11_difference_121 rec x0 x1 x2 v2 σ3 l4 i5) _
    unfold l_X11_difference_121
    refine jo_iload (pc := 121) 6 rfl dX11_difference_121 ?_
    refine jo_iload (pc := 123) 0 rfl dX11_difference_123 ?_
    refine jo_icmp_gt (pc := 125) dX11_difference_125 (tgt := 183) rfl ?_ ?_
    · refine jo_lload (pc := 183) 5 rfl dX11_difference_183 ?_
      exact jo_lreturn (pc := 185) rfl rfl dX11_difference_185
    · refine jo_aload_n (pc := 128) 1 rfl dX11_difference_128 rfl ?_
      refine jo_getrE (pc := 129) ok_11_16 (ik_306 hw hN) rf_306_16 gw_1309 dX11_difference_129 ?_
      refine jo_iload_n (pc := 132) 3 rfl dX11_difference_132 rfl ?_
      refine jo_iload (pc := 133) 6 rfl dX11_difference_133 ?_
      refine jo_iast (pc := 135) (ik_316 hw hN) dX11_difference_135 (fun σ6 => ?_)
      refine jo_lload (pc := 136) 5 rfl dX11_difference_136 ?_
      refine jo_aload_n (pc := 138) 1 rfl dX11_difference_138 rfl ?_
      refine jo_iload_n (pc := 139) 2 rfl dX11_difference_139 rfl ?_
      refine jo_iload_n (pc := 140) 3 rfl dX11_difference_140 rfl ?_
      refine jo_iconst (pc := 141) dX11_difference_141 (ic_i_1) ?_
      refine jo_iadd (pc := 142) dX11_difference_142 ?_
      refine jo_lload_n (pc := 143) 4 rfl dX11_difference_143 rfl ?_
      refine jo_aload_n (pc := 144) 1 rfl dX11_difference_144 rfl ?_
      refine jo_iload (pc := 145) 0 rfl dX11_difference_145 ?_
      refine jo_iload (pc := 147) 6 rfl dX11_difference_147 ?_
      refine jo_cV_J_p (pc := 149) (μ' := mu_X11_choose) (fx := f_X11_choose σ6 v2 i5) (As := [.int v2, .int i5]) (c_X11_choose hw hN) (ok_X11_choose) (by simp only [mu_X11_difference, mu_X11_choose]; omega) (all3 gw_1548 gw_1550 gw_92) (ik_306 hw hN) (by decide) (q := (RX11, TX11, 39)) rfl rfl rfl rfl (Nat.le_of_ble_eq_true rfl) dX11_difference_149 (fun v7 => ?_)
      refine jo_lmul (pc := 152) dX11_difference_152 ?_
      refine jo_iload (pc := 153) 0 rfl dX11_difference_153 ?_
      refine jo_iload (pc := 155) 6 rfl dX11_difference_155 ?_
      refine jo_isub (pc := 157) dX11_difference_157 ?_
      refine jo_iconst (pc := 158) dX11_difference_158 (ic_i_2) ?_
      refine jo_irem (pc := 159) dX11_difference_159 ?_
      refine jo_join1 (S := Int64) (fun (z8 : Int64) => σ6) (fun (z8 : Int64) => [(7, .int v2), (0, .ref (adr w 306)), (1, .int x0), (2, .int x1), (3, .long x2), (8, .int i5)]) (fun (z8 : Int64) => [.long z8, .long (x2 * v7), .int (x1 + 1), .int x0, .ref (adr w 306), .long l4]) 170 ?_ (fun h170_8 => ?_)
      · intro l8
        show JO w (mu_X11_difference (d + 1)) vL σ6 [(7, .int v2), (0, .ref (adr w 306)), (1, .int x0), (2, .int x1), (3, .long x2), (8, .int i5)] [.long l8, .long (x2 * v7), .int (x1 + 1), .int x0, .ref (adr w 306), .long l4] 170 (j_X11_difference_170 rec x0 x1 x2 l4 i5 σ6 v7 l8) _
        unfold j_X11_difference_170
        refine jo_lmul (pc := 170) dX11_difference_170 ?_
        refine jo_cV_J_i (pc := 171) (μ' := (mu_X11_difference d)) (fx := rec σ6 x0 (x1 + 1) ((x2 * v7) * l8)) (As := [.int x0, .int (x1 + 1), .long ((x2 * v7) * l8)]) (hrec) (ok_X11_difference _) (by simp only [mu_X11_difference, mu_X11_difference]; omega) (all3 gw_1515 gw_1517 gw_84) (ik_306 hw hN) (by decide) (q := (RX11, TX11, 39)) rfl rfl rfl rfl (Nat.le_of_ble_eq_true rfl) dX11_difference_171 (fun v9 σ10 => ?_)
        refine jo_ladd (pc := 174) dX11_difference_174 ?_
        refine jo_bd ?_
        refine jo_lstore (pc := 175) (lv' := [(5, .long (l4 + v9)), (7, .int v2), (0, .ref (adr w 306)), (1, .int x0), (2, .int x1), (3, .long x2), (8, .int i5)]) dX11_difference_175 (ltb rfl) rfl ?_
        generalize (l4 + v9) = v11
        refine jo_iinc (pc := 177) (lv' := [(8, .int (i5 + 1)), (5, .long v11), (7, .int v2), (0, .ref (adr w 306)), (1, .int x0), (2, .int x1), (3, .long x2)]) 6 rfl dX11_difference_177 (congrArg (fun z => i5 + z) (ic_i_1)) (ltb rfl) rfl ?_
        refine jo_goto (pc := 180) dX11_difference_180 (tgt := 121) rfl ?_
        refine jo_lv (lv' := [(7, .int v2), (0, .ref (adr w 306)), (1, .int x0), (2, .int x1), (3, .long x2), (5, .long v11), (8, .int (i5 + 1))]) [2, 3, 4, 5, 6, 1, 0] rfl ?_
        exact jo_leaf (by rfl) (hF121_5 (σ10, v11, i5 + 1))
      · refine jo_if_ne (pc := 160) dX11_difference_160 (tgt := 167) rfl ?_ ?_
        · refine jo_ldc2 (pc := 167) dX11_difference_167 gw_1552 ?_
          refine jo_lv (lv' := [(7, .int v2), (0, .ref (adr w 306)), (1, .int x0), (2, .int x1), (3, .long x2), (8, .int i5)]) [0, 1, 2, 3, 4, 6] rfl ?_
          exact jo_leaf (by rfl) (h170_8 (-1))
        · refine jo_lconst (pc := 163) dX11_difference_163 (ic_l_1) ?_
          refine jo_goto (pc := 164) dX11_difference_164 (tgt := 170) rfl ?_
          refine jo_lv (lv' := [(7, .int v2), (0, .ref (adr w 306)), (1, .int x0), (2, .int x1), (3, .long x2), (8, .int i5)]) [0, 1, 2, 3, 4, 6] rfl ?_
          exact jo_leaf (by rfl) (h170_8 1)
  · refine jo_iconst (pc := 10) dX11_difference_10 (ic_i_0) ?_
    refine jo_istore (pc := 11) (lv' := [(5, .int 0), (0, .ref (adr w 306)), (1, .int x0), (2, .int x1), (3, .long x2)]) dX11_difference_11 (ltb rfl) rfl ?_
    refine jo_join1 (S := Mem) (fun (z12 : Mem) => z12) (fun (z12 : Mem) => [(0, .ref (adr w 306)), (1, .int x0), (3, .long x2)]) (fun (z12 : Mem) => []) 89 ?_ (fun h89_12 => ?_)
    · intro σ12
      show JO w (mu_X11_difference (d + 1)) vL σ12 [(0, .ref (adr w 306)), (1, .int x0), (3, .long x2)] [] 89 (j_X11_difference_89 rec x0 x2 σ12) _
      unfold j_X11_difference_89
      refine jo_aload_n (pc := 89) 0 rfl dX11_difference_89 rfl ?_
      refine jo_bipush (pc := 90) dX11_difference_90 (ic_b_90) ?_
      refine jo_bipush (pc := 92) dX11_difference_92 (ic_b_91) ?_
      refine jo_cV_V_i (pc := 94) (μ' := mu_X11_times) (fx := f_X11_times σ12 90 91) (As := [.int 90, .int 91]) (c_X11_times hw hN) (ok_X11_times) (by simp only [mu_X11_difference, mu_X11_times]; omega) (all3 gw_1523 gw_1525 gw_86) (ik_306 hw hN) (by decide) (q := (RX11, TX11, 39)) rfl rfl rfl rfl (Nat.le_of_ble_eq_true rfl) dX11_difference_94 (fun σ13 => ?_)
      refine jo_lload_n (pc := 97) 2 rfl dX11_difference_97 rfl ?_
      refine jo_aload_n (pc := 98) 0 rfl dX11_difference_98 rfl ?_
      refine jo_bipush (pc := 99) dX11_difference_99 (ic_b_90) ?_
      refine jo_iload_n (pc := 101) 1 rfl dX11_difference_101 rfl ?_
      refine jo_cV_J_p (pc := 102) (μ' := mu_X11_of) (fx := f_X11_of σ13 90 x0) (As := [.int 90, .int x0]) (c_X11_of hw hN) (ok_X11_of) (by simp only [mu_X11_difference, mu_X11_of]; omega) (all3 gw_1527 gw_1529 gw_87) (ik_306 hw hN) (by decide) (q := (RX11, TX11, 39)) rfl rfl rfl rfl (Nat.le_of_ble_eq_true rfl) dX11_difference_102 (fun v14 => ?_)
      refine jo_lmul (pc := 105) dX11_difference_105 ?_
      exact jo_lreturn (pc := 106) rfl rfl dX11_difference_106
    · refine jo_lv (lv' := [(0, .ref (adr w 306)), (1, .int x0), (3, .long x2), (5, .int 0)]) [1, 2, 4, 0] rfl ?_
      refine jo_loop (X := Mem) (fun (z16 : (Mem × Int32)) => z16.1) (fun (z16 : (Mem × Int32)) => [(0, .ref (adr w 306)), (1, .int x0), (3, .long x2), (5, .int z16.2)]) (body := (fun (z16 : (Mem × Int32)) => l_X11_difference_13 rec z16.1 z16.2)) (fun F13_16 hF13_16 s => ?_) (σ, 0)
      obtain ⟨σ15, i16⟩ := s
      show JO w (mu_X11_difference (d + 1)) vL σ15 [(0, .ref (adr w 306)), (1, .int x0), (3, .long x2), (5, .int i16)] [] 13 (l_X11_difference_13 rec σ15 i16) _
      unfold l_X11_difference_13
      refine jo_iload (pc := 13) 3 rfl dX11_difference_13 ?_
      refine jo_bipush (pc := 15) dX11_difference_15 (ic_b_6) ?_
      refine jo_icmp_ge (pc := 17) dX11_difference_17 (tgt := 89) rfl ?_ ?_
      · refine jo_lv (lv' := [(0, .ref (adr w 306)), (1, .int x0), (3, .long x2)]) [0, 1, 2] rfl ?_
        exact jo_leaf (by rfl) (h89_12 σ15)
      · refine jo_aload_n (pc := 20) 0 rfl dX11_difference_20 rfl ?_
        refine jo_bipush (pc := 21) dX11_difference_21 (ic_b_90) ?_
        refine jo_iload (pc := 23) 3 rfl dX11_difference_23 ?_
        refine jo_iload (pc := 25) 3 rfl dX11_difference_25 ?_
        refine jo_aload_n (pc := 27) 0 rfl dX11_difference_27 rfl ?_
        refine jo_cV_I_p (pc := 28) (μ' := mu_X11_n) (fx := f_X11_n σ15) (As := []) (c_X11_n hw hN) (ok_X11_n) (by simp only [mu_X11_difference, mu_X11_n]; omega) (all3 gw_1441 gw_1443 gw_68) (ik_306 hw hN) (by decide) (q := (RX11, TX11, 39)) rfl rfl rfl rfl (Nat.le_of_ble_eq_true rfl) dX11_difference_28 (fun v17 => ?_)
        refine jo_join1 (S := Int64) (fun (z18 : Int64) => σ15) (fun (z18 : Int64) => [(0, .ref (adr w 306)), (1, .int x0), (3, .long x2), (5, .int i16)]) (fun (z18 : Int64) => [.long z18, .int i16, .int 90, .ref (adr w 306)]) 46 ?_ (fun h46_18 => ?_)
        · intro l18
          show JO w (mu_X11_difference (d + 1)) vL σ15 [(0, .ref (adr w 306)), (1, .int x0), (3, .long x2), (5, .int i16)] [.long l18, .int i16, .int 90, .ref (adr w 306)] 46 (j_X11_difference_46 rec σ15 i16 l18) _
          unfold j_X11_difference_46
          refine jo_cV_V_i (pc := 46) (μ' := mu_X11_puts) (fx := f_X11_puts σ15 90 i16 l18) (As := [.int 90, .int i16, .long l18]) (c_X11_puts hw hN) (ok_X11_puts) (by simp only [mu_X11_difference, mu_X11_puts]; omega) (all3 gw_1519 gw_1521 gw_85) (ik_306 hw hN) (by decide) (q := (RX11, TX11, 39)) rfl rfl rfl rfl (Nat.le_of_ble_eq_true rfl) dX11_difference_46 (fun σ19 => ?_)
          refine jo_aload_n (pc := 49) 0 rfl dX11_difference_49 rfl ?_
          refine jo_bipush (pc := 50) dX11_difference_50 (ic_b_91) ?_
          refine jo_iload (pc := 52) 3 rfl dX11_difference_52 ?_
          refine jo_iload (pc := 54) 3 rfl dX11_difference_54 ?_
          refine jo_aload_n (pc := 56) 0 rfl dX11_difference_56 rfl ?_
          refine jo_cV_I_p (pc := 57) (μ' := mu_X11_n) (fx := f_X11_n σ19) (As := []) (c_X11_n hw hN) (ok_X11_n) (by simp only [mu_X11_difference, mu_X11_n]; omega) (all3 gw_1441 gw_1443 gw_68) (ik_306 hw hN) (by decide) (q := (RX11, TX11, 39)) rfl rfl rfl rfl (Nat.le_of_ble_eq_true rfl) dX11_difference_57 (fun v20 => ?_)
          refine jo_join1 (S := Int64) (fun (z21 : Int64) => σ19) (fun (z21 : Int64) => [(0, .ref (adr w 306)), (1, .int x0), (3, .long x2), (5, .int i16)]) (fun (z21 : Int64) => [.long z21, .int i16, .int 91, .ref (adr w 306)]) 80 ?_ (fun h80_21 => ?_)
          · intro l21
            show JO w (mu_X11_difference (d + 1)) vL σ19 [(0, .ref (adr w 306)), (1, .int x0), (3, .long x2), (5, .int i16)] [.long l21, .int i16, .int 91, .ref (adr w 306)] 80 (j_X11_difference_80 rec i16 σ19 l21) _
            unfold j_X11_difference_80
            refine jo_cV_V_i (pc := 80) (μ' := mu_X11_puts) (fx := f_X11_puts σ19 91 i16 l21) (As := [.int 91, .int i16, .long l21]) (c_X11_puts hw hN) (ok_X11_puts) (by simp only [mu_X11_difference, mu_X11_puts]; omega) (all3 gw_1519 gw_1521 gw_85) (ik_306 hw hN) (by decide) (q := (RX11, TX11, 39)) rfl rfl rfl rfl (Nat.le_of_ble_eq_true rfl) dX11_difference_80 (fun σ22 => ?_)
            refine jo_iinc (pc := 83) (lv' := [(5, .int (i16 + 1)), (0, .ref (adr w 306)), (1, .int x0), (3, .long x2)]) 3 rfl dX11_difference_83 (congrArg (fun z => i16 + z) (ic_i_1)) (ltb rfl) rfl ?_
            refine jo_goto (pc := 86) dX11_difference_86 (tgt := 13) rfl ?_
            refine jo_lv (lv' := [(0, .ref (adr w 306)), (1, .int x0), (3, .long x2), (5, .int (i16 + 1))]) [1, 2, 3, 0] rfl ?_
            exact jo_leaf (by rfl) (hF13_16 (σ22, i16 + 1))
          · refine jo_icmp_ge (pc := 60) dX11_difference_60 (tgt := 79) rfl ?_ ?_
            · refine jo_lconst (pc := 79) dX11_difference_79 (ic_l_0) ?_
              exact jo_leaf (by rfl) (h80_21 0)
            · refine jo_aload_n (pc := 63) 0 rfl dX11_difference_63 rfl ?_
              refine jo_getrE (pc := 64) ok_11_16 (ik_306 hw hN) rf_306_16 gw_1309 dX11_difference_64 ?_
              refine jo_aload_n (pc := 67) 0 rfl dX11_difference_67 rfl ?_
              refine jo_cV_I_p (pc := 68) (μ' := mu_X11_n) (fx := f_X11_n σ19) (As := []) (c_X11_n hw hN) (ok_X11_n) (by simp only [mu_X11_difference, mu_X11_n]; omega) (all3 gw_1441 gw_1443 gw_68) (ik_306 hw hN) (by decide) (q := (RX11, TX11, 39)) rfl rfl rfl rfl (Nat.le_of_ble_eq_true rfl) dX11_difference_68 (fun v23 => ?_)
              refine jo_iload (pc := 71) 3 rfl dX11_difference_71 ?_
              refine jo_iadd (pc := 73) dX11_difference_73 ?_
              refine jo_iald (pc := 74) (ik_316 hw hN) dX11_difference_74 (fun v24 => ?_)
              refine jo_i2l (pc := 75) dX11_difference_75 ?_
              refine jo_goto (pc := 76) dX11_difference_76 (tgt := 80) rfl ?_
              exact jo_leaf (by rfl) (h80_21 (Int32.toInt64 v24))
        · refine jo_icmp_ge (pc := 31) dX11_difference_31 (tgt := 45) rfl ?_ ?_
          · refine jo_lconst (pc := 45) dX11_difference_45 (ic_l_0) ?_
            exact jo_leaf (by rfl) (h46_18 0)
          · refine jo_aload_n (pc := 34) 0 rfl dX11_difference_34 rfl ?_
            refine jo_getrE (pc := 35) ok_11_16 (ik_306 hw hN) rf_306_16 gw_1309 dX11_difference_35 ?_
            refine jo_iload (pc := 38) 3 rfl dX11_difference_38 ?_
            refine jo_iald (pc := 40) (ik_316 hw hN) dX11_difference_40 (fun v25 => ?_)
            refine jo_i2l (pc := 41) dX11_difference_41 ?_
            refine jo_goto (pc := 42) dX11_difference_42 (tgt := 46) rfl ?_
            exact jo_leaf (by rfl) (h46_18 (Int32.toInt64 v25))
theorem co_X11_difference {w : Wd} (hw : WOK w) (hN : wn w = NT) {d : Nat} {rec : Mem → Int32 → Int32 → Int64 → Option (Int64 × Mem)} (hrec : ∀ {τ0 : Mem} {y0 : Int32} {y1 : Int32} {y2 : Int64}, ∀ r τ, rec τ0 y0 y1 y2 = some (r, τ) → MC w (mu_X11_difference d) (vL r) [.ref (adr w 306), .int y0, .int y1, .long y2] τ0 τ) {σ : Mem} {x0 : Int32} {x1 : Int32} {x2 : Int64} : ∀ r σ', o_X11_difference rec σ x0 x1 x2 = some (r, σ') → MC w (mu_X11_difference (d + 1)) (vL r) [.ref (adr w 306), .int x0, .int x1, .long x2] σ σ' := mc_of (ok_X11_difference _) rfl (Nat.le_of_ble_eq_true rfl) (t_X11_difference hw hN hrec)
noncomputable def f_X11_difference : Nat → Mem → Int32 → Int32 → Int64 → Option (Int64 × Mem)
  | 0 => fun _ _ _ _ => none
  | n + 1 => fun σ x0 x1 x2 => o_X11_difference (f_X11_difference n) σ x0 x1 x2
theorem c_X11_difference (n : Nat) {w : Wd} (hw : WOK w) (hN : wn w = NT) {σ : Mem} {x0 : Int32} {x1 : Int32} {x2 : Int64} : ∀ r σ', f_X11_difference n σ x0 x1 x2 = some (r, σ') → MC w (mu_X11_difference (1 * n)) (vL r) [.ref (adr w 306), .int x0, .int x1, .long x2] σ σ' := by
  induction n generalizing σ x0 x1 x2 with
  | zero => intro r σ' h; cases h
  | succ n ih => exact co_X11_difference hw hN (rec := f_X11_difference n) (d := 1 * n) ih
abbrev mu_X11_weightOf : MD := (yX11_weightOf, cX11_weightOf, 2, some .int, 1)
theorem ok_X11_weightOf : MOK mu_X11_weightOf 1 := ⟨gw_1556, gw_171, (by decide +kernel : plainFor yX11_weightOf = true), ⟨(by decide +kernel : yX11_weightOf.cls ≠ "java/lang/invoke/MethodHandle"), (by decide +kernel : yX11_weightOf.cls ≠ "java/lang/invoke/VarHandle"), (by decide +kernel : (parseMethodDescriptor yX11_weightOf.desc).map (fun d => d.parameters.length) = some 1)⟩, Nat.le_of_ble_eq_true rfl⟩
noncomputable def f_X11_weightOf (σ : Mem) (x0 : Int32) : Option Int32 :=
  (f_X11_n σ).bind (fun (v1 : Int32) => nzI v1 ((f_X11_weight σ (x0 - x0 / v1 * v1)).bind (fun (v2 : Int32) => some v2)))
theorem t_X11_weightOf {w : Wd} (hw : WOK w) (hN : wn w = NT) {σ : Mem} {x0 : Int32} : JO w mu_X11_weightOf vI σ [(0, .ref (adr w 306)), (1, .int x0)] [] 0 (f_X11_weightOf σ x0) (fun z => some (z, σ)) := by
  unfold f_X11_weightOf
  refine jo_aload_n (pc := 0) 0 rfl dX11_weightOf_0 rfl ?_
  refine jo_iload_n (pc := 1) 1 rfl dX11_weightOf_1 rfl ?_
  refine jo_aload_n (pc := 2) 0 rfl dX11_weightOf_2 rfl ?_
  refine jo_cV_I_p (pc := 3) (μ' := mu_X11_n) (fx := f_X11_n σ) (As := []) (c_X11_n hw hN) (ok_X11_n) (ltb rfl) (all3 gw_1441 gw_1443 gw_68) (ik_306 hw hN) (by decide) (q := (RX11, TX11, 39)) rfl rfl rfl rfl (Nat.le_of_ble_eq_true rfl) dX11_weightOf_3 (fun v1 => ?_)
  refine jo_irem (pc := 6) dX11_weightOf_6 ?_
  refine jo_cV_I_p (pc := 7) (μ' := mu_X11_weight) (fx := f_X11_weight σ (x0 - x0 / v1 * v1)) (As := [.int (x0 - x0 / v1 * v1)]) (c_X11_weight hw hN) (ok_X11_weight) (ltb rfl) (all3 gw_1446 gw_1448 gw_69) (ik_306 hw hN) (by decide) (q := (RX11, TX11, 39)) rfl rfl rfl rfl (Nat.le_of_ble_eq_true rfl) dX11_weightOf_7 (fun v2 => ?_)
  exact jo_ireturn (pc := 10) rfl rfl dX11_weightOf_10
theorem c_X11_weightOf {w : Wd} (hw : WOK w) (hN : wn w = NT) {σ : Mem} {x0 : Int32} : ∀ r, f_X11_weightOf σ x0 = some r → MC w mu_X11_weightOf (vI r) [.ref (adr w 306), .int x0] σ σ := mc_ofP ok_X11_weightOf rfl (Nat.le_of_ble_eq_true rfl) (t_X11_weightOf hw hN)
abbrev mu_X11_rows (d : Nat) : MD := (yX11_rows, cX11_rows, 8, none, 19 + d)
theorem ok_X11_rows (d : Nat) : MOK (mu_X11_rows d) 3 := ⟨gw_1514, gw_171, (by decide +kernel : plainFor yX11_rows = true), ⟨(by decide +kernel : yX11_rows.cls ≠ "java/lang/invoke/MethodHandle"), (by decide +kernel : yX11_rows.cls ≠ "java/lang/invoke/VarHandle"), (by decide +kernel : (parseMethodDescriptor yX11_rows.desc).map (fun d => d.parameters.length) = some 3)⟩, Nat.le_of_ble_eq_true rfl⟩
noncomputable def j_X11_rows_155 (rec : Mem → Int32 → Int32 → Int32 → Option Mem) (x1 : Int32) (σ2 : Mem) : Option Mem :=
  pI σ2 315 x1 0 (fun (σ3 : Mem) => some σ3)
noncomputable def l_X11_rows_111 (rec : Mem → Int32 → Int32 → Int32 → Option Mem) (x0 : Int32) (x1 : Int32) (x2 : Int32) (σ4 : Mem) (i5 : Int32) : Option ((Mem × Int32) ⊕ Mem) :=
  (f_X11_weightOf σ4 x1).bind (fun (v6 : Int32) => if x2 < (i5 * v6) then (some (Sum.inr σ4)) else (pI σ4 315 x1 i5 (fun (σ7 : Mem) => (f_X11_weightOf σ7 x1).bind (fun (v8 : Int32) => (rec σ7 x0 (x1 + 1) (x2 - (i5 * v8))).bind (fun (σ9 : Mem) => some (Sum.inl (σ9, i5 + 1)))))))
noncomputable def j_X11_rows_93 (rec : Mem → Int32 → Int32 → Int32 → Option Mem) (x0 : Int32) (σ15 : Mem) : Option Mem :=
  gI σ15 311 x0 (fun (v16 : Int32) => pI σ15 311 x0 (v16 + 1) (fun (σ17 : Mem) => some σ17))
noncomputable def l_X11_rows_56 (rec : Mem → Int32 → Int32 → Int32 → Option Mem) (v13 : Int32) (σ18 : Mem) (i19 : Int32) : Option ((Mem × Int32) ⊕ Mem) :=
  (f_X11_n σ18).bind (fun (v20 : Int32) => if (2 * v20) ≤ i19 then (some (Sum.inr σ18)) else (gI σ18 315 i19 (fun (v21 : Int32) => pL σ18 312 ((v13 + 1) + i19) (Int32.toInt64 v21) (fun (σ22 : Mem) => some (Sum.inl (σ22, i19 + 1))))))
noncomputable def o_X11_rows (rec : Mem → Int32 → Int32 → Int32 → Option Mem) (σ : Mem) (x0 : Int32) (x1 : Int32) (x2 : Int32) : Option Mem :=
  (f_X11_n σ).bind (fun (v1 : Int32) => if x1 = (2 * v1) then (bq (f_X11_difference 14 σ x0 0 1) (fun (v10 : Int64) (σ11 : Mem) => if v10 = 0 then (some σ11) else (gI σ11 311 x0 (fun (v12 : Int32) => bd ((9100 * x0) + (13 * v12)) (fun (v13 : Int32) => pL σ11 312 v13 v10 (fun (σ14 : Mem) => (loopO (fun (z19 : (Mem × Int32)) => l_X11_rows_56 rec v13 z19.1 z19.2) (σ14, 0) : Option Mem).bind (fun (z15 : Mem) => j_X11_rows_93 rec x0 z15))))))) else ((loopO (fun (z5 : (Mem × Int32)) => l_X11_rows_111 rec x0 x1 x2 z5.1 z5.2) (σ, 0) : Option Mem).bind (fun (z2 : Mem) => j_X11_rows_155 rec x1 z2)))
theorem t_X11_rows {w : Wd} (hw : WOK w) (hN : wn w = NT) {d : Nat} {rec : Mem → Int32 → Int32 → Int32 → Option Mem} (hrec : ∀ {τ0 : Mem} {y0 : Int32} {y1 : Int32} {y2 : Int32}, ∀ τ, rec τ0 y0 y1 y2 = some τ → MC w (mu_X11_rows d) none [.ref (adr w 306), .int y0, .int y1, .int y2] τ0 τ) {σ : Mem} {x0 : Int32} {x1 : Int32} {x2 : Int32} : JO w (mu_X11_rows (d + 1)) vV σ [(0, .ref (adr w 306)), (1, .int x0), (2, .int x1), (3, .int x2)] [] 0 (o_X11_rows rec σ x0 x1 x2) (fun z => some ((), z)) := by
  unfold o_X11_rows
  refine jo_iload_n (pc := 0) 2 rfl dX11_rows_0 rfl ?_
  refine jo_iconst (pc := 1) dX11_rows_1 (ic_i_2) ?_
  refine jo_aload_n (pc := 2) 0 rfl dX11_rows_2 rfl ?_
  refine jo_cV_I_p (pc := 3) (μ' := mu_X11_n) (fx := f_X11_n σ) (As := []) (c_X11_n hw hN) (ok_X11_n) (by simp only [mu_X11_rows, mu_X11_n]; omega) (all3 gw_1441 gw_1443 gw_68) (ik_306 hw hN) (by decide) (q := (RX11, TX11, 39)) rfl rfl rfl rfl (Nat.le_of_ble_eq_true rfl) dX11_rows_3 (fun v1 => ?_)
  refine jo_imul (pc := 6) dX11_rows_6 ?_
  refine jo_icmp_ne (pc := 7) dX11_rows_7 (tgt := 108) rfl ?_ ?_
  · refine jo_iconst (pc := 108) dX11_rows_108 (ic_i_0) ?_
    refine jo_istore (pc := 109) (lv' := [(4, .int 0), (0, .ref (adr w 306)), (1, .int x0), (2, .int x1), (3, .int x2)]) dX11_rows_109 (ltb rfl) rfl ?_
    refine jo_join1 (S := Mem) (fun (z2 : Mem) => z2) (fun (z2 : Mem) => [(0, .ref (adr w 306)), (2, .int x1)]) (fun (z2 : Mem) => []) 155 ?_ (fun h155_2 => ?_)
    · intro σ2
      show JO w (mu_X11_rows (d + 1)) vV σ2 [(0, .ref (adr w 306)), (2, .int x1)] [] 155 (j_X11_rows_155 rec x1 σ2) _
      unfold j_X11_rows_155
      refine jo_aload_n (pc := 155) 0 rfl dX11_rows_155 rfl ?_
      refine jo_getrE (pc := 156) ok_11_15 (ik_306 hw hN) rf_306_15 gw_1308 dX11_rows_156 ?_
      refine jo_iload_n (pc := 159) 1 rfl dX11_rows_159 rfl ?_
      refine jo_iconst (pc := 160) dX11_rows_160 (ic_i_0) ?_
      refine jo_iast (pc := 161) (ik_315 hw hN) dX11_rows_161 (fun σ3 => ?_)
      exact jo_return (pc := 162) rfl rfl dX11_rows_162
    · refine jo_lv (lv' := [(0, .ref (adr w 306)), (1, .int x0), (2, .int x1), (3, .int x2), (4, .int 0)]) [1, 2, 3, 4, 0] rfl ?_
      refine jo_loop (X := Mem) (fun (z5 : (Mem × Int32)) => z5.1) (fun (z5 : (Mem × Int32)) => [(0, .ref (adr w 306)), (1, .int x0), (2, .int x1), (3, .int x2), (4, .int z5.2)]) (body := (fun (z5 : (Mem × Int32)) => l_X11_rows_111 rec x0 x1 x2 z5.1 z5.2)) (fun F111_5 hF111_5 s => ?_) (σ, 0)
      obtain ⟨σ4, i5⟩ := s
      show JO w (mu_X11_rows (d + 1)) vV σ4 [(0, .ref (adr w 306)), (1, .int x0), (2, .int x1), (3, .int x2), (4, .int i5)] [] 111 (l_X11_rows_111 rec x0 x1 x2 σ4 i5) _
      unfold l_X11_rows_111
      refine jo_iload (pc := 111) 4 rfl dX11_rows_111 ?_
      refine jo_aload_n (pc := 113) 0 rfl dX11_rows_113 rfl ?_
      refine jo_iload_n (pc := 114) 2 rfl dX11_rows_114 rfl ?_
      refine jo_cV_I_p (pc := 115) (μ' := mu_X11_weightOf) (fx := f_X11_weightOf σ4 x1) (As := [.int x1]) (c_X11_weightOf hw hN) (ok_X11_weightOf) (by simp only [mu_X11_rows, mu_X11_weightOf]; omega) (all3 gw_1553 gw_1555 gw_93) (ik_306 hw hN) (by decide) (q := (RX11, TX11, 39)) rfl rfl rfl rfl (Nat.le_of_ble_eq_true rfl) dX11_rows_115 (fun v6 => ?_)
      refine jo_imul (pc := 118) dX11_rows_118 ?_
      refine jo_iload_n (pc := 119) 3 rfl dX11_rows_119 rfl ?_
      refine jo_icmp_gt (pc := 120) dX11_rows_120 (tgt := 155) rfl ?_ ?_
      · refine jo_lv (lv' := [(0, .ref (adr w 306)), (2, .int x1)]) [0, 2] rfl ?_
        exact jo_leaf (by rfl) (h155_2 σ4)
      · refine jo_aload_n (pc := 123) 0 rfl dX11_rows_123 rfl ?_
        refine jo_getrE (pc := 124) ok_11_15 (ik_306 hw hN) rf_306_15 gw_1308 dX11_rows_124 ?_
        refine jo_iload_n (pc := 127) 2 rfl dX11_rows_127 rfl ?_
        refine jo_iload (pc := 128) 4 rfl dX11_rows_128 ?_
        refine jo_iast (pc := 130) (ik_315 hw hN) dX11_rows_130 (fun σ7 => ?_)
        refine jo_aload_n (pc := 131) 0 rfl dX11_rows_131 rfl ?_
        refine jo_iload_n (pc := 132) 1 rfl dX11_rows_132 rfl ?_
        refine jo_iload_n (pc := 133) 2 rfl dX11_rows_133 rfl ?_
        refine jo_iconst (pc := 134) dX11_rows_134 (ic_i_1) ?_
        refine jo_iadd (pc := 135) dX11_rows_135 ?_
        refine jo_iload_n (pc := 136) 3 rfl dX11_rows_136 rfl ?_
        refine jo_iload (pc := 137) 4 rfl dX11_rows_137 ?_
        refine jo_aload_n (pc := 139) 0 rfl dX11_rows_139 rfl ?_
        refine jo_iload_n (pc := 140) 2 rfl dX11_rows_140 rfl ?_
        refine jo_cV_I_p (pc := 141) (μ' := mu_X11_weightOf) (fx := f_X11_weightOf σ7 x1) (As := [.int x1]) (c_X11_weightOf hw hN) (ok_X11_weightOf) (by simp only [mu_X11_rows, mu_X11_weightOf]; omega) (all3 gw_1553 gw_1555 gw_93) (ik_306 hw hN) (by decide) (q := (RX11, TX11, 39)) rfl rfl rfl rfl (Nat.le_of_ble_eq_true rfl) dX11_rows_141 (fun v8 => ?_)
        refine jo_imul (pc := 144) dX11_rows_144 ?_
        refine jo_isub (pc := 145) dX11_rows_145 ?_
        refine jo_cV_V_i (pc := 146) (μ' := (mu_X11_rows d)) (fx := rec σ7 x0 (x1 + 1) (x2 - (i5 * v8))) (As := [.int x0, .int (x1 + 1), .int (x2 - (i5 * v8))]) (hrec) (ok_X11_rows _) (by simp only [mu_X11_rows, mu_X11_rows]; omega) (all3 gw_1511 gw_1513 gw_83) (ik_306 hw hN) (by decide) (q := (RX11, TX11, 39)) rfl rfl rfl rfl (Nat.le_of_ble_eq_true rfl) dX11_rows_146 (fun σ9 => ?_)
        refine jo_iinc (pc := 149) (lv' := [(4, .int (i5 + 1)), (0, .ref (adr w 306)), (1, .int x0), (2, .int x1), (3, .int x2)]) 4 rfl dX11_rows_149 (congrArg (fun z => i5 + z) (ic_i_1)) (ltb rfl) rfl ?_
        refine jo_goto (pc := 152) dX11_rows_152 (tgt := 111) rfl ?_
        refine jo_lv (lv' := [(0, .ref (adr w 306)), (1, .int x0), (2, .int x1), (3, .int x2), (4, .int (i5 + 1))]) [1, 2, 3, 4, 0] rfl ?_
        exact jo_leaf (by rfl) (hF111_5 (σ9, i5 + 1))
  · refine jo_aload_n (pc := 10) 0 rfl dX11_rows_10 rfl ?_
    refine jo_iload_n (pc := 11) 1 rfl dX11_rows_11 rfl ?_
    refine jo_iconst (pc := 12) dX11_rows_12 (ic_i_0) ?_
    refine jo_lconst (pc := 13) dX11_rows_13 (ic_l_1) ?_
    refine jo_cV_J_i (pc := 14) (μ' := (mu_X11_difference 14)) (fx := f_X11_difference 14 σ x0 0 1) (As := [.int x0, .int 0, .long 1]) (c_X11_difference 14 hw hN) (ok_X11_difference _) (by simp only [mu_X11_rows, mu_X11_difference]; omega) (all3 gw_1515 gw_1517 gw_84) (ik_306 hw hN) (by decide) (q := (RX11, TX11, 39)) rfl rfl rfl rfl (Nat.le_of_ble_eq_true rfl) dX11_rows_14 (fun v10 σ11 => ?_)
    refine jo_lstore (pc := 17) (lv' := [(4, .long v10), (0, .ref (adr w 306)), (1, .int x0), (2, .int x1), (3, .int x2)]) dX11_rows_17 (ltb rfl) rfl ?_
    refine jo_lload (pc := 19) 0 rfl dX11_rows_19 ?_
    refine jo_lconst (pc := 21) dX11_rows_21 (ic_l_0) ?_
    refine jo_lcmp_ne (pc := 22) dX11_rows_22 dX11_rows_23 (tgt := 27) rfl ?_ ?_
    · refine jo_sipush (pc := 27) dX11_rows_27 (ic_s_9100) ?_
      refine jo_iload_n (pc := 30) 2 rfl dX11_rows_30 rfl ?_
      refine jo_imul (pc := 31) dX11_rows_31 ?_
      refine jo_bipush (pc := 32) dX11_rows_32 (ic_b_13) ?_
      refine jo_aload_n (pc := 34) 1 rfl dX11_rows_34 rfl ?_
      refine jo_getrE (pc := 35) ok_11_11 (ik_306 hw hN) rf_306_11 gw_1304 dX11_rows_35 ?_
      refine jo_iload_n (pc := 38) 2 rfl dX11_rows_38 rfl ?_
      refine jo_iald (pc := 39) (ik_311 hw hN) dX11_rows_39 (fun v12 => ?_)
      refine jo_imul (pc := 40) dX11_rows_40 ?_
      refine jo_iadd (pc := 41) dX11_rows_41 ?_
      refine jo_bd ?_
      refine jo_istore (pc := 42) (lv' := [(6, .int ((9100 * x0) + (13 * v12))), (4, .long v10), (0, .ref (adr w 306)), (1, .int x0), (2, .int x1), (3, .int x2)]) dX11_rows_42 (ltb rfl) rfl ?_
      generalize ((9100 * x0) + (13 * v12)) = v13
      refine jo_aload_n (pc := 44) 2 rfl dX11_rows_44 rfl ?_
      refine jo_getrE (pc := 45) ok_11_12 (ik_306 hw hN) rf_306_12 gw_1305 dX11_rows_45 ?_
      refine jo_iload (pc := 48) 0 rfl dX11_rows_48 ?_
      refine jo_lload (pc := 50) 1 rfl dX11_rows_50 ?_
      refine jo_last (pc := 52) (ik_312 hw hN) dX11_rows_52 (fun σ14 => ?_)
      refine jo_iconst (pc := 53) dX11_rows_53 (ic_i_0) ?_
      refine jo_istore (pc := 54) (lv' := [(7, .int 0), (6, .int v13), (4, .long v10), (0, .ref (adr w 306)), (1, .int x0), (2, .int x1), (3, .int x2)]) dX11_rows_54 (ltb rfl) rfl ?_
      refine jo_join1 (S := Mem) (fun (z15 : Mem) => z15) (fun (z15 : Mem) => [(0, .ref (adr w 306)), (1, .int x0)]) (fun (z15 : Mem) => []) 93 ?_ (fun h93_15 => ?_)
      · intro σ15
        show JO w (mu_X11_rows (d + 1)) vV σ15 [(0, .ref (adr w 306)), (1, .int x0)] [] 93 (j_X11_rows_93 rec x0 σ15) _
        unfold j_X11_rows_93
        refine jo_aload_n (pc := 93) 0 rfl dX11_rows_93 rfl ?_
        refine jo_getrE (pc := 94) ok_11_11 (ik_306 hw hN) rf_306_11 gw_1304 dX11_rows_94 ?_
        refine jo_iload_n (pc := 97) 1 rfl dX11_rows_97 rfl ?_
        refine jo_aload_n (pc := 98) 0 rfl dX11_rows_98 rfl ?_
        refine jo_getrE (pc := 99) ok_11_11 (ik_306 hw hN) rf_306_11 gw_1304 dX11_rows_99 ?_
        refine jo_iload_n (pc := 102) 1 rfl dX11_rows_102 rfl ?_
        refine jo_iald (pc := 103) (ik_311 hw hN) dX11_rows_103 (fun v16 => ?_)
        refine jo_iconst (pc := 104) dX11_rows_104 (ic_i_1) ?_
        refine jo_iadd (pc := 105) dX11_rows_105 ?_
        refine jo_iast (pc := 106) (ik_311 hw hN) dX11_rows_106 (fun σ17 => ?_)
        exact jo_return (pc := 107) rfl rfl dX11_rows_107
      · refine jo_lv (lv' := [(6, .int v13), (0, .ref (adr w 306)), (1, .int x0), (7, .int 0)]) [1, 3, 4, 0] rfl ?_
        refine jo_loop (X := Mem) (fun (z19 : (Mem × Int32)) => z19.1) (fun (z19 : (Mem × Int32)) => [(6, .int v13), (0, .ref (adr w 306)), (1, .int x0), (7, .int z19.2)]) (body := (fun (z19 : (Mem × Int32)) => l_X11_rows_56 rec v13 z19.1 z19.2)) (fun F56_19 hF56_19 s => ?_) (σ14, 0)
        obtain ⟨σ18, i19⟩ := s
        show JO w (mu_X11_rows (d + 1)) vV σ18 [(6, .int v13), (0, .ref (adr w 306)), (1, .int x0), (7, .int i19)] [] 56 (l_X11_rows_56 rec v13 σ18 i19) _
        unfold l_X11_rows_56
        refine jo_iload (pc := 56) 3 rfl dX11_rows_56 ?_
        refine jo_iconst (pc := 58) dX11_rows_58 (ic_i_2) ?_
        refine jo_aload_n (pc := 59) 1 rfl dX11_rows_59 rfl ?_
        refine jo_cV_I_p (pc := 60) (μ' := mu_X11_n) (fx := f_X11_n σ18) (As := []) (c_X11_n hw hN) (ok_X11_n) (by simp only [mu_X11_rows, mu_X11_n]; omega) (all3 gw_1441 gw_1443 gw_68) (ik_306 hw hN) (by decide) (q := (RX11, TX11, 39)) rfl rfl rfl rfl (Nat.le_of_ble_eq_true rfl) dX11_rows_60 (fun v20 => ?_)
        refine jo_imul (pc := 63) dX11_rows_63 ?_
        refine jo_icmp_ge (pc := 64) dX11_rows_64 (tgt := 93) rfl ?_ ?_
        · refine jo_lv (lv' := [(0, .ref (adr w 306)), (1, .int x0)]) [1, 2] rfl ?_
          exact jo_leaf (by rfl) (h93_15 σ18)
        · refine jo_aload_n (pc := 67) 1 rfl dX11_rows_67 rfl ?_
          refine jo_getrE (pc := 68) ok_11_12 (ik_306 hw hN) rf_306_12 gw_1305 dX11_rows_68 ?_
          refine jo_iload (pc := 71) 0 rfl dX11_rows_71 ?_
          refine jo_iconst (pc := 73) dX11_rows_73 (ic_i_1) ?_
          refine jo_iadd (pc := 74) dX11_rows_74 ?_
          refine jo_iload (pc := 75) 3 rfl dX11_rows_75 ?_
          refine jo_iadd (pc := 77) dX11_rows_77 ?_
          refine jo_aload_n (pc := 78) 1 rfl dX11_rows_78 rfl ?_
          refine jo_getrE (pc := 79) ok_11_15 (ik_306 hw hN) rf_306_15 gw_1308 dX11_rows_79 ?_
          refine jo_iload (pc := 82) 3 rfl dX11_rows_82 ?_
          refine jo_iald (pc := 84) (ik_315 hw hN) dX11_rows_84 (fun v21 => ?_)
          refine jo_i2l (pc := 85) dX11_rows_85 ?_
          refine jo_last (pc := 86) (ik_312 hw hN) dX11_rows_86 (fun σ22 => ?_)
          refine jo_iinc (pc := 87) (lv' := [(7, .int (i19 + 1)), (6, .int v13), (0, .ref (adr w 306)), (1, .int x0)]) 3 rfl dX11_rows_87 (congrArg (fun z => i19 + z) (ic_i_1)) (ltb rfl) rfl ?_
          refine jo_goto (pc := 90) dX11_rows_90 (tgt := 56) rfl ?_
          refine jo_lv (lv' := [(6, .int v13), (0, .ref (adr w 306)), (1, .int x0), (7, .int (i19 + 1))]) [1, 2, 3, 0] rfl ?_
          exact jo_leaf (by rfl) (hF56_19 (σ22, i19 + 1))
    · exact jo_return (pc := 26) rfl rfl dX11_rows_26
theorem co_X11_rows {w : Wd} (hw : WOK w) (hN : wn w = NT) {d : Nat} {rec : Mem → Int32 → Int32 → Int32 → Option Mem} (hrec : ∀ {τ0 : Mem} {y0 : Int32} {y1 : Int32} {y2 : Int32}, ∀ τ, rec τ0 y0 y1 y2 = some τ → MC w (mu_X11_rows d) none [.ref (adr w 306), .int y0, .int y1, .int y2] τ0 τ) {σ : Mem} {x0 : Int32} {x1 : Int32} {x2 : Int32} : ∀ σ', o_X11_rows rec σ x0 x1 x2 = some σ' → MC w (mu_X11_rows (d + 1)) none [.ref (adr w 306), .int x0, .int x1, .int x2] σ σ' := mc_ofV (ok_X11_rows _) rfl (Nat.le_of_ble_eq_true rfl) (t_X11_rows hw hN hrec)
noncomputable def f_X11_rows : Nat → Mem → Int32 → Int32 → Int32 → Option Mem
  | 0 => fun _ _ _ _ => none
  | n + 1 => fun σ x0 x1 x2 => o_X11_rows (f_X11_rows n) σ x0 x1 x2
theorem c_X11_rows (n : Nat) {w : Wd} (hw : WOK w) (hN : wn w = NT) {σ : Mem} {x0 : Int32} {x1 : Int32} {x2 : Int32} : ∀ σ', f_X11_rows n σ x0 x1 x2 = some σ' → MC w (mu_X11_rows (1 * n)) none [.ref (adr w 306), .int x0, .int x1, .int x2] σ σ' := by
  induction n generalizing σ x0 x1 x2 with
  | zero => intro σ' h; cases h
  | succ n ih => exact co_X11_rows hw hN (rec := f_X11_rows n) (d := 1 * n) ih
abbrev mu_X11_laysTerms : MD := (yX11_laysTerms, cX11_laysTerms, 2, none, 34)
theorem ok_X11_laysTerms : MOK mu_X11_laysTerms 1 := ⟨gw_1510, gw_171, (by decide +kernel : plainFor yX11_laysTerms = true), ⟨(by decide +kernel : yX11_laysTerms.cls ≠ "java/lang/invoke/MethodHandle"), (by decide +kernel : yX11_laysTerms.cls ≠ "java/lang/invoke/VarHandle"), (by decide +kernel : (parseMethodDescriptor yX11_laysTerms.desc).map (fun d => d.parameters.length) = some 1)⟩, Nat.le_of_ble_eq_true rfl⟩
noncomputable def f_X11_laysTerms (σ : Mem) (x0 : Int32) : Option Mem :=
  (f_X11_weight σ x0).bind (fun (v1 : Int32) => (f_X11_rows 14 σ x0 0 v1).bind (fun (σ2 : Mem) => some σ2))
theorem t_X11_laysTerms {w : Wd} (hw : WOK w) (hN : wn w = NT) {σ : Mem} {x0 : Int32} : JO w mu_X11_laysTerms vV σ [(0, .ref (adr w 306)), (1, .int x0)] [] 0 (f_X11_laysTerms σ x0) (fun z => some ((), z)) := by
  unfold f_X11_laysTerms
  refine jo_aload_n (pc := 0) 0 rfl dX11_laysTerms_0 rfl ?_
  refine jo_iload_n (pc := 1) 1 rfl dX11_laysTerms_1 rfl ?_
  refine jo_iconst (pc := 2) dX11_laysTerms_2 (ic_i_0) ?_
  refine jo_aload_n (pc := 3) 0 rfl dX11_laysTerms_3 rfl ?_
  refine jo_iload_n (pc := 4) 1 rfl dX11_laysTerms_4 rfl ?_
  refine jo_cV_I_p (pc := 5) (μ' := mu_X11_weight) (fx := f_X11_weight σ x0) (As := [.int x0]) (c_X11_weight hw hN) (ok_X11_weight) (ltb rfl) (all3 gw_1446 gw_1448 gw_69) (ik_306 hw hN) (by decide) (q := (RX11, TX11, 39)) rfl rfl rfl rfl (Nat.le_of_ble_eq_true rfl) dX11_laysTerms_5 (fun v1 => ?_)
  refine jo_cV_V_i (pc := 8) (μ' := (mu_X11_rows 14)) (fx := f_X11_rows 14 σ x0 0 v1) (As := [.int x0, .int 0, .int v1]) (c_X11_rows 14 hw hN) (ok_X11_rows _) (ltb rfl) (all3 gw_1511 gw_1513 gw_83) (ik_306 hw hN) (by decide) (q := (RX11, TX11, 39)) rfl rfl rfl rfl (Nat.le_of_ble_eq_true rfl) dX11_laysTerms_8 (fun σ2 => ?_)
  exact jo_return (pc := 11) rfl rfl dX11_laysTerms_11
theorem c_X11_laysTerms {w : Wd} (hw : WOK w) (hN : wn w = NT) {σ : Mem} {x0 : Int32} : ∀ σ', f_X11_laysTerms σ x0 = some σ' → MC w mu_X11_laysTerms none [.ref (adr w 306), .int x0] σ σ' := mc_ofV ok_X11_laysTerms rfl (Nat.le_of_ble_eq_true rfl) (t_X11_laysTerms hw hN)
abbrev mu_X11_lays : MD := (yX11_lays, cX11_lays, 4, none, 35)
theorem ok_X11_lays : MOK mu_X11_lays 0 := ⟨gw_1482, gw_171, (by decide +kernel : plainFor yX11_lays = true), ⟨(by decide +kernel : yX11_lays.cls ≠ "java/lang/invoke/MethodHandle"), (by decide +kernel : yX11_lays.cls ≠ "java/lang/invoke/VarHandle"), (by decide +kernel : (parseMethodDescriptor yX11_lays.desc).map (fun d => d.parameters.length) = some 0)⟩, Nat.le_of_ble_eq_true rfl⟩
noncomputable def l_X11_lays_117 (σ7 : Mem) (i8 : Int32) : Option ((Mem × Int32) ⊕ Mem) :=
  (f_X11_n σ7).bind (fun (v9 : Int32) => if v9 ≤ i8 then (some (Sum.inr σ7)) else ((f_X11_laysTerms σ7 i8).bind (fun (σ10 : Mem) => some (Sum.inl (σ10, i8 + 1)))))
noncomputable def j_X11_lays_107 (σ5 : Mem) : Option Mem :=
  gZ σ5 306 10 (fun (b6 : Bool) => if b6 then loopO (fun (z8 : (Mem × Int32)) => l_X11_lays_117 z8.1 z8.2) (σ5, 0) else some σ5)
noncomputable def l_X11_lays_88 (σ11 : Mem) (i12 : Int32) : Option ((Mem × Int32) ⊕ Mem) :=
  if 6 ≤ i12 then (some (Sum.inr σ11)) else (pI σ11 311 i12 0 (fun (σ13 : Mem) => some (Sum.inl (σ13, i12 + 1))))
noncomputable def j_X11_lays_86 (σ4 : Mem) : Option Mem :=
  (loopO (fun (z12 : (Mem × Int32)) => l_X11_lays_88 z12.1 z12.2) (σ4, 0) : Option Mem).bind (fun (z5 : Mem) => j_X11_lays_107 z5)
noncomputable def j_X11_lays_80 (i15 : Int32) (σ17 : Mem) : Option ((Mem × Int32) ⊕ Mem) :=
  some (Sum.inl (σ17, i15 + 1))
noncomputable def j_X11_lays_74 (i19 : Int32) (σ20 : Mem) : Option ((Mem × Int32) ⊕ Mem) :=
  some (Sum.inl (σ20, i19 + 1))
noncomputable def j_X11_lays_65 (i22 : Int32) (σ24 : Mem) (b25 : Bool) : Option ((Mem × Int32) ⊕ Mem) :=
  pF σ24 306 10 (b2i b25) (fun (σ26 : Mem) => some (Sum.inl (σ26, i22 + 1)))
noncomputable def j_X11_lays_64 (σ27 : Mem) : Option (Mem × Bool) :=
  some (σ27, false)
noncomputable def l_X11_lays_37 (i15 : Int32) (i19 : Int32) (σ21 : Mem) (i22 : Int32) : Option ((Mem × Int32) ⊕ Mem) :=
  if i19 ≤ i22 then (some (Sum.inr σ21)) else (gZ σ21 306 10 (fun (b23 : Bool) => ((if b23 then bq (f_X11_isAlikeBy σ21 i15 i19 i22) (fun (b28 : Bool) (σ29 : Mem) => if b28 then some (Sum.inr (σ29, true)) else some (Sum.inl σ29)) else some (Sum.inl σ21) : Option (Mem ⊕ (Mem × Bool))).bind (Sum.elim (fun (z27 : Mem) => j_X11_lays_64 z27) some) : Option (Mem × Bool)).bind (fun (z25 : (Mem × Bool)) => j_X11_lays_65 i22 z25.1 z25.2)))
noncomputable def l_X11_lays_30 (i15 : Int32) (σ18 : Mem) (i19 : Int32) : Option ((Mem × Int32) ⊕ Mem) :=
  if i15 ≤ i19 then (some (Sum.inr σ18)) else ((loopO (fun (z22 : (Mem × Int32)) => l_X11_lays_37 i15 i19 z22.1 z22.2) (σ18, 0) : Option Mem).bind (fun (z20 : Mem) => j_X11_lays_74 i19 z20))
noncomputable def l_X11_lays_20 (σ14 : Mem) (i15 : Int32) : Option ((Mem × Int32) ⊕ Mem) :=
  (f_X11_n σ14).bind (fun (v16 : Int32) => if v16 ≤ i15 then (some (Sum.inr σ14)) else ((loopO (fun (z19 : (Mem × Int32)) => l_X11_lays_30 i15 z19.1 z19.2) (σ14, 0) : Option Mem).bind (fun (z17 : Mem) => j_X11_lays_80 i15 z17)))
noncomputable def f_X11_lays (σ : Mem) : Option Mem :=
  gZ σ 306 9 (fun (b1 : Bool) => if b1 then some σ else pF σ 306 9 1 (fun (σ2 : Mem) => pF σ2 306 10 1 (fun (σ3 : Mem) => (loopO (fun (z15 : (Mem × Int32)) => l_X11_lays_20 z15.1 z15.2) (σ3, 0) : Option Mem).bind (fun (z4 : Mem) => j_X11_lays_86 z4))))
theorem t_X11_lays {w : Wd} (hw : WOK w) (hN : wn w = NT) {σ : Mem} : JO w mu_X11_lays vV σ [(0, .ref (adr w 306))] [] 0 (f_X11_lays σ) (fun z => some ((), z)) := by
  unfold f_X11_lays
  refine jo_aload_n (pc := 0) 0 rfl dX11_lays_0 rfl ?_
  refine jo_getz (pc := 1) ok_11_9 (ik_306 hw hN) gw_1302 dX11_lays_1 (fun b1 => ?_)
  refine jo_ifz_eq (pc := 4) dX11_lays_4 (tgt := 8) rfl ?_ ?_
  · refine jo_aload_n (pc := 8) 0 rfl dX11_lays_8 rfl ?_
    refine jo_iconst (pc := 9) dX11_lays_9 (ic_i_1) ?_
    refine jo_putz01 (pc := 10) (by decide) ok_11_9 okp_11_9 (ik_306 hw hN) gw_1302 dX11_lays_10 (fun σ2 => ?_)
    refine jo_aload_n (pc := 13) 0 rfl dX11_lays_13 rfl ?_
    refine jo_iconst (pc := 14) dX11_lays_14 (ic_i_1) ?_
    refine jo_putz01 (pc := 15) (by decide) ok_11_10 okp_11_10 (ik_306 hw hN) gw_1303 dX11_lays_15 (fun σ3 => ?_)
    refine jo_iconst (pc := 18) dX11_lays_18 (ic_i_0) ?_
    refine jo_istore_n (pc := 19) (lv' := [(1, .int 0), (0, .ref (adr w 306))]) dX11_lays_19 rfl (ltb rfl) rfl ?_
    refine jo_join1 (S := Mem) (fun (z4 : Mem) => z4) (fun (z4 : Mem) => [(0, .ref (adr w 306))]) (fun (z4 : Mem) => []) 86 ?_ (fun h86_4 => ?_)
    · intro σ4
      show JO w mu_X11_lays vV σ4 [(0, .ref (adr w 306))] [] 86 (j_X11_lays_86 σ4) _
      unfold j_X11_lays_86
      refine jo_iconst (pc := 86) dX11_lays_86 (ic_i_0) ?_
      refine jo_istore_n (pc := 87) (lv' := [(1, .int 0), (0, .ref (adr w 306))]) dX11_lays_87 rfl (ltb rfl) rfl ?_
      refine jo_join1 (S := Mem) (fun (z5 : Mem) => z5) (fun (z5 : Mem) => [(0, .ref (adr w 306))]) (fun (z5 : Mem) => []) 107 ?_ (fun h107_5 => ?_)
      · intro σ5
        show JO w mu_X11_lays vV σ5 [(0, .ref (adr w 306))] [] 107 (j_X11_lays_107 σ5) _
        unfold j_X11_lays_107
        refine jo_aload_n (pc := 107) 0 rfl dX11_lays_107 rfl ?_
        refine jo_getz (pc := 108) ok_11_10 (ik_306 hw hN) gw_1303 dX11_lays_108 (fun b6 => ?_)
        refine jo_ifz_ne (pc := 111) dX11_lays_111 (tgt := 115) rfl ?_ ?_
        · refine jo_iconst (pc := 115) dX11_lays_115 (ic_i_0) ?_
          refine jo_istore_n (pc := 116) (lv' := [(1, .int 0), (0, .ref (adr w 306))]) dX11_lays_116 rfl (ltb rfl) rfl ?_
          refine jo_lv (lv' := [(0, .ref (adr w 306)), (1, .int 0)]) [1, 0] rfl ?_
          refine jo_loop (X := Mem) (fun (z8 : (Mem × Int32)) => z8.1) (fun (z8 : (Mem × Int32)) => [(0, .ref (adr w 306)), (1, .int z8.2)]) (body := (fun (z8 : (Mem × Int32)) => l_X11_lays_117 z8.1 z8.2)) (fun F117_8 hF117_8 s => ?_) (σ5, 0)
          obtain ⟨σ7, i8⟩ := s
          show JO w mu_X11_lays vV σ7 [(0, .ref (adr w 306)), (1, .int i8)] [] 117 (l_X11_lays_117 σ7 i8) _
          unfold l_X11_lays_117
          refine jo_iload_n (pc := 117) 1 rfl dX11_lays_117 rfl ?_
          refine jo_aload_n (pc := 118) 0 rfl dX11_lays_118 rfl ?_
          refine jo_cV_I_p (pc := 119) (μ' := mu_X11_n) (fx := f_X11_n σ7) (As := []) (c_X11_n hw hN) (ok_X11_n) (ltb rfl) (all3 gw_1441 gw_1443 gw_68) (ik_306 hw hN) (by decide) (q := (RX11, TX11, 39)) rfl rfl rfl rfl (Nat.le_of_ble_eq_true rfl) dX11_lays_119 (fun v9 => ?_)
          refine jo_icmp_ge (pc := 122) dX11_lays_122 (tgt := 136) rfl ?_ ?_
          · exact jo_return (pc := 136) rfl rfl dX11_lays_136
          · refine jo_aload_n (pc := 125) 0 rfl dX11_lays_125 rfl ?_
            refine jo_iload_n (pc := 126) 1 rfl dX11_lays_126 rfl ?_
            refine jo_cV_V_i (pc := 127) (μ' := mu_X11_laysTerms) (fx := f_X11_laysTerms σ7 i8) (As := [.int i8]) (c_X11_laysTerms hw hN) (ok_X11_laysTerms) (ltb rfl) (all3 gw_1507 gw_1509 gw_82) (ik_306 hw hN) (by decide) (q := (RX11, TX11, 39)) rfl rfl rfl rfl (Nat.le_of_ble_eq_true rfl) dX11_lays_127 (fun σ10 => ?_)
            refine jo_iinc (pc := 130) (lv' := [(1, .int (i8 + 1)), (0, .ref (adr w 306))]) 1 rfl dX11_lays_130 (congrArg (fun z => i8 + z) (ic_i_1)) (ltb rfl) rfl ?_
            refine jo_goto (pc := 133) dX11_lays_133 (tgt := 117) rfl ?_
            refine jo_lv (lv' := [(0, .ref (adr w 306)), (1, .int (i8 + 1))]) [1, 0] rfl ?_
            exact jo_leaf (by rfl) (hF117_8 (σ10, i8 + 1))
        · exact jo_return (pc := 114) rfl rfl dX11_lays_114
      · refine jo_lv (lv' := [(0, .ref (adr w 306)), (1, .int 0)]) [1, 0] rfl ?_
        refine jo_loop (X := Mem) (fun (z12 : (Mem × Int32)) => z12.1) (fun (z12 : (Mem × Int32)) => [(0, .ref (adr w 306)), (1, .int z12.2)]) (body := (fun (z12 : (Mem × Int32)) => l_X11_lays_88 z12.1 z12.2)) (fun F88_12 hF88_12 s => ?_) (σ4, 0)
        obtain ⟨σ11, i12⟩ := s
        show JO w mu_X11_lays vV σ11 [(0, .ref (adr w 306)), (1, .int i12)] [] 88 (l_X11_lays_88 σ11 i12) _
        unfold l_X11_lays_88
        refine jo_iload_n (pc := 88) 1 rfl dX11_lays_88 rfl ?_
        refine jo_bipush (pc := 89) dX11_lays_89 (ic_b_6) ?_
        refine jo_icmp_ge (pc := 91) dX11_lays_91 (tgt := 107) rfl ?_ ?_
        · refine jo_lv (lv' := [(0, .ref (adr w 306))]) [0] rfl ?_
          exact jo_leaf (by rfl) (h107_5 σ11)
        · refine jo_aload_n (pc := 94) 0 rfl dX11_lays_94 rfl ?_
          refine jo_getrE (pc := 95) ok_11_11 (ik_306 hw hN) rf_306_11 gw_1304 dX11_lays_95 ?_
          refine jo_iload_n (pc := 98) 1 rfl dX11_lays_98 rfl ?_
          refine jo_iconst (pc := 99) dX11_lays_99 (ic_i_0) ?_
          refine jo_iast (pc := 100) (ik_311 hw hN) dX11_lays_100 (fun σ13 => ?_)
          refine jo_iinc (pc := 101) (lv' := [(1, .int (i12 + 1)), (0, .ref (adr w 306))]) 1 rfl dX11_lays_101 (congrArg (fun z => i12 + z) (ic_i_1)) (ltb rfl) rfl ?_
          refine jo_goto (pc := 104) dX11_lays_104 (tgt := 88) rfl ?_
          refine jo_lv (lv' := [(0, .ref (adr w 306)), (1, .int (i12 + 1))]) [1, 0] rfl ?_
          exact jo_leaf (by rfl) (hF88_12 (σ13, i12 + 1))
    · refine jo_lv (lv' := [(0, .ref (adr w 306)), (1, .int 0)]) [1, 0] rfl ?_
      refine jo_loop (X := Mem) (fun (z15 : (Mem × Int32)) => z15.1) (fun (z15 : (Mem × Int32)) => [(0, .ref (adr w 306)), (1, .int z15.2)]) (body := (fun (z15 : (Mem × Int32)) => l_X11_lays_20 z15.1 z15.2)) (fun F20_15 hF20_15 s => ?_) (σ3, 0)
      obtain ⟨σ14, i15⟩ := s
      show JO w mu_X11_lays vV σ14 [(0, .ref (adr w 306)), (1, .int i15)] [] 20 (l_X11_lays_20 σ14 i15) _
      unfold l_X11_lays_20
      refine jo_iload_n (pc := 20) 1 rfl dX11_lays_20 rfl ?_
      refine jo_aload_n (pc := 21) 0 rfl dX11_lays_21 rfl ?_
      refine jo_cV_I_p (pc := 22) (μ' := mu_X11_n) (fx := f_X11_n σ14) (As := []) (c_X11_n hw hN) (ok_X11_n) (ltb rfl) (all3 gw_1441 gw_1443 gw_68) (ik_306 hw hN) (by decide) (q := (RX11, TX11, 39)) rfl rfl rfl rfl (Nat.le_of_ble_eq_true rfl) dX11_lays_22 (fun v16 => ?_)
      refine jo_icmp_ge (pc := 25) dX11_lays_25 (tgt := 86) rfl ?_ ?_
      · refine jo_lv (lv' := [(0, .ref (adr w 306))]) [0] rfl ?_
        exact jo_leaf (by rfl) (h86_4 σ14)
      · refine jo_iconst (pc := 28) dX11_lays_28 (ic_i_0) ?_
        refine jo_istore_n (pc := 29) (lv' := [(2, .int 0), (0, .ref (adr w 306)), (1, .int i15)]) dX11_lays_29 rfl (ltb rfl) rfl ?_
        refine jo_join1 (S := Mem) (fun (z17 : Mem) => z17) (fun (z17 : Mem) => [(0, .ref (adr w 306)), (1, .int i15)]) (fun (z17 : Mem) => []) 80 ?_ (fun h80_17 => ?_)
        · intro σ17
          show JO w mu_X11_lays vV σ17 [(0, .ref (adr w 306)), (1, .int i15)] [] 80 (j_X11_lays_80 i15 σ17) _
          unfold j_X11_lays_80
          refine jo_iinc (pc := 80) (lv' := [(1, .int (i15 + 1)), (0, .ref (adr w 306))]) 1 rfl dX11_lays_80 (congrArg (fun z => i15 + z) (ic_i_1)) (ltb rfl) rfl ?_
          refine jo_goto (pc := 83) dX11_lays_83 (tgt := 20) rfl ?_
          refine jo_lv (lv' := [(0, .ref (adr w 306)), (1, .int (i15 + 1))]) [1, 0] rfl ?_
          exact jo_leaf (by rfl) (hF20_15 (σ17, i15 + 1))
        · refine jo_lv (lv' := [(0, .ref (adr w 306)), (1, .int i15), (2, .int 0)]) [1, 2, 0] rfl ?_
          refine jo_loop (X := Mem) (fun (z19 : (Mem × Int32)) => z19.1) (fun (z19 : (Mem × Int32)) => [(0, .ref (adr w 306)), (1, .int i15), (2, .int z19.2)]) (body := (fun (z19 : (Mem × Int32)) => l_X11_lays_30 i15 z19.1 z19.2)) (fun F30_19 hF30_19 s => ?_) (σ14, 0)
          obtain ⟨σ18, i19⟩ := s
          show JO w mu_X11_lays vV σ18 [(0, .ref (adr w 306)), (1, .int i15), (2, .int i19)] [] 30 (l_X11_lays_30 i15 σ18 i19) _
          unfold l_X11_lays_30
          refine jo_iload_n (pc := 30) 2 rfl dX11_lays_30 rfl ?_
          refine jo_iload_n (pc := 31) 1 rfl dX11_lays_31 rfl ?_
          refine jo_icmp_ge (pc := 32) dX11_lays_32 (tgt := 80) rfl ?_ ?_
          · refine jo_lv (lv' := [(0, .ref (adr w 306)), (1, .int i15)]) [0, 1] rfl ?_
            exact jo_leaf (by rfl) (h80_17 σ18)
          · refine jo_iconst (pc := 35) dX11_lays_35 (ic_i_0) ?_
            refine jo_istore_n (pc := 36) (lv' := [(3, .int 0), (0, .ref (adr w 306)), (1, .int i15), (2, .int i19)]) dX11_lays_36 rfl (ltb rfl) rfl ?_
            refine jo_join1 (S := Mem) (fun (z20 : Mem) => z20) (fun (z20 : Mem) => [(0, .ref (adr w 306)), (1, .int i15), (2, .int i19)]) (fun (z20 : Mem) => []) 74 ?_ (fun h74_20 => ?_)
            · intro σ20
              show JO w mu_X11_lays vV σ20 [(0, .ref (adr w 306)), (1, .int i15), (2, .int i19)] [] 74 (j_X11_lays_74 i19 σ20) _
              unfold j_X11_lays_74
              refine jo_iinc (pc := 74) (lv' := [(2, .int (i19 + 1)), (0, .ref (adr w 306)), (1, .int i15)]) 2 rfl dX11_lays_74 (congrArg (fun z => i19 + z) (ic_i_1)) (ltb rfl) rfl ?_
              refine jo_goto (pc := 77) dX11_lays_77 (tgt := 30) rfl ?_
              refine jo_lv (lv' := [(0, .ref (adr w 306)), (1, .int i15), (2, .int (i19 + 1))]) [1, 2, 0] rfl ?_
              exact jo_leaf (by rfl) (hF30_19 (σ20, i19 + 1))
            · refine jo_lv (lv' := [(0, .ref (adr w 306)), (1, .int i15), (2, .int i19), (3, .int 0)]) [1, 2, 3, 0] rfl ?_
              refine jo_loop (X := Mem) (fun (z22 : (Mem × Int32)) => z22.1) (fun (z22 : (Mem × Int32)) => [(0, .ref (adr w 306)), (1, .int i15), (2, .int i19), (3, .int z22.2)]) (body := (fun (z22 : (Mem × Int32)) => l_X11_lays_37 i15 i19 z22.1 z22.2)) (fun F37_22 hF37_22 s => ?_) (σ18, 0)
              obtain ⟨σ21, i22⟩ := s
              show JO w mu_X11_lays vV σ21 [(0, .ref (adr w 306)), (1, .int i15), (2, .int i19), (3, .int i22)] [] 37 (l_X11_lays_37 i15 i19 σ21 i22) _
              unfold l_X11_lays_37
              refine jo_iload_n (pc := 37) 3 rfl dX11_lays_37 rfl ?_
              refine jo_iload_n (pc := 38) 2 rfl dX11_lays_38 rfl ?_
              refine jo_icmp_ge (pc := 39) dX11_lays_39 (tgt := 74) rfl ?_ ?_
              · refine jo_lv (lv' := [(0, .ref (adr w 306)), (1, .int i15), (2, .int i19)]) [0, 1, 2] rfl ?_
                exact jo_leaf (by rfl) (h74_20 σ21)
              · refine jo_aload_n (pc := 42) 0 rfl dX11_lays_42 rfl ?_
                refine jo_aload_n (pc := 43) 0 rfl dX11_lays_43 rfl ?_
                refine jo_getz (pc := 44) ok_11_10 (ik_306 hw hN) gw_1303 dX11_lays_44 (fun b23 => ?_)
                refine jo_join1 (S := (Mem × Bool)) (fun (z25 : (Mem × Bool)) => z25.1) (fun (z25 : (Mem × Bool)) => [(0, .ref (adr w 306)), (1, .int i15), (2, .int i19), (3, .int i22)]) (fun (z25 : (Mem × Bool)) => [.int (b2i z25.2), .ref (adr w 306)]) 65 ?_ (fun h65_25 => ?_)
                · intro s
                  obtain ⟨σ24, b25⟩ := s
                  show JO w mu_X11_lays vV σ24 [(0, .ref (adr w 306)), (1, .int i15), (2, .int i19), (3, .int i22)] [.int (b2i b25), .ref (adr w 306)] 65 (j_X11_lays_65 i22 σ24 b25) _
                  unfold j_X11_lays_65
                  refine jo_putzB (pc := 65) ok_11_10 okp_11_10 (ik_306 hw hN) gw_1303 dX11_lays_65 (fun σ26 => ?_)
                  refine jo_iinc (pc := 68) (lv' := [(3, .int (i22 + 1)), (0, .ref (adr w 306)), (1, .int i15), (2, .int i19)]) 3 rfl dX11_lays_68 (congrArg (fun z => i22 + z) (ic_i_1)) (ltb rfl) rfl ?_
                  refine jo_goto (pc := 71) dX11_lays_71 (tgt := 37) rfl ?_
                  refine jo_lv (lv' := [(0, .ref (adr w 306)), (1, .int i15), (2, .int i19), (3, .int (i22 + 1))]) [1, 2, 3, 0] rfl ?_
                  exact jo_leaf (by rfl) (hF37_22 (σ26, i22 + 1))
                · refine jo_joinS (S := Mem) (fun (z27 : Mem) => z27) (fun (z27 : Mem) => [(0, .ref (adr w 306)), (1, .int i15), (2, .int i19), (3, .int i22)]) (fun (z27 : Mem) => [.ref (adr w 306)]) 64 ?_ (fun h64_27 => ?_)
                  · intro σ27
                    show JO w mu_X11_lays vV σ27 [(0, .ref (adr w 306)), (1, .int i15), (2, .int i19), (3, .int i22)] [.ref (adr w 306)] 64 (j_X11_lays_64 σ27) _
                    unfold j_X11_lays_64
                    refine jo_iconst (pc := 64) dX11_lays_64 (ic_i_0) ?_
                    exact jo_leaf (by rfl) (h65_25 (σ27, false))
                  · refine jo_ifz_eq (pc := 47) dX11_lays_47 (tgt := 64) rfl ?_ ?_
                    · exact jo_leaf (by rfl) (h64_27 σ21)
                    · refine jo_aload_n (pc := 50) 0 rfl dX11_lays_50 rfl ?_
                      refine jo_iload_n (pc := 51) 1 rfl dX11_lays_51 rfl ?_
                      refine jo_iload_n (pc := 52) 2 rfl dX11_lays_52 rfl ?_
                      refine jo_iload_n (pc := 53) 3 rfl dX11_lays_53 rfl ?_
                      refine jo_cV_Z_i (pc := 54) (μ' := mu_X11_isAlikeBy) (fx := f_X11_isAlikeBy σ21 i15 i19 i22) (As := [.int i15, .int i19, .int i22]) (c_X11_isAlikeBy hw hN) (ok_X11_isAlikeBy) (ltb rfl) (all3 gw_1483 gw_1485 gw_76) (ik_306 hw hN) (by decide) (q := (RX11, TX11, 39)) rfl rfl rfl rfl (Nat.le_of_ble_eq_true rfl) dX11_lays_54 (fun b28 σ29 => ?_)
                      refine jo_ifz_eq (pc := 57) dX11_lays_57 (tgt := 64) rfl ?_ ?_
                      · exact jo_leaf (by rfl) (h64_27 σ29)
                      · refine jo_iconst (pc := 60) dX11_lays_60 (ic_i_1) ?_
                        refine jo_goto (pc := 61) dX11_lays_61 (tgt := 65) rfl ?_
                        exact jo_leaf (by rfl) (h65_25 (σ29, true))
  · exact jo_return (pc := 7) rfl rfl dX11_lays_7
theorem c_X11_lays {w : Wd} (hw : WOK w) (hN : wn w = NT) {σ : Mem} : ∀ σ', f_X11_lays σ = some σ' → MC w mu_X11_lays none [.ref (adr w 306)] σ σ' := mc_ofV ok_X11_lays rfl (Nat.le_of_ble_eq_true rfl) (t_X11_lays hw hN)
abbrev mu_X11_isConsistent : MD := (yX11_isConsistent, cX11_isConsistent, 1, some .boolean, 36)
theorem ok_X11_isConsistent : MOK mu_X11_isConsistent 0 := ⟨gw_1478, gw_171, (by decide +kernel : plainFor yX11_isConsistent = true), ⟨(by decide +kernel : yX11_isConsistent.cls ≠ "java/lang/invoke/MethodHandle"), (by decide +kernel : yX11_isConsistent.cls ≠ "java/lang/invoke/VarHandle"), (by decide +kernel : (parseMethodDescriptor yX11_isConsistent.desc).map (fun d => d.parameters.length) = some 0)⟩, Nat.le_of_ble_eq_true rfl⟩
noncomputable def f_X11_isConsistent (σ : Mem) : Option (Bool × Mem) :=
  (f_X11_lays σ).bind (fun (σ1 : Mem) => gZ σ1 306 10 (fun (b2 : Bool) => some (b2, σ1)))
theorem t_X11_isConsistent {w : Wd} (hw : WOK w) (hN : wn w = NT) {σ : Mem} : JO w mu_X11_isConsistent vB σ [(0, .ref (adr w 306))] [] 0 (f_X11_isConsistent σ) some := by
  unfold f_X11_isConsistent
  refine jo_aload_n (pc := 0) 0 rfl dX11_isConsistent_0 rfl ?_
  refine jo_cV_V_i (pc := 1) (μ' := mu_X11_lays) (fx := f_X11_lays σ) (As := []) (c_X11_lays hw hN) (ok_X11_lays) (ltb rfl) (all3 gw_1479 gw_1481 gw_75) (ik_306 hw hN) (by decide) (q := (RX11, TX11, 39)) rfl rfl rfl rfl (Nat.le_of_ble_eq_true rfl) dX11_isConsistent_1 (fun σ1 => ?_)
  refine jo_aload_n (pc := 4) 0 rfl dX11_isConsistent_4 rfl ?_
  refine jo_getz (pc := 5) ok_11_10 (ik_306 hw hN) gw_1303 dX11_isConsistent_5 (fun b2 => ?_)
  exact jo_breturn (pc := 8) (b := b2) rfl rfl dX11_isConsistent_8
theorem c_X11_isConsistent {w : Wd} (hw : WOK w) (hN : wn w = NT) {σ : Mem} : ∀ r σ', f_X11_isConsistent σ = some (r, σ') → MC w mu_X11_isConsistent (vB r) [.ref (adr w 306)] σ σ' := mc_of ok_X11_isConsistent rfl (Nat.le_of_ble_eq_true rfl) (t_X11_isConsistent hw hN)
abbrev mu_X11_ones : MD := (yX11_ones, cX11_ones, 3, none, 1)
theorem ok_X11_ones : MOK mu_X11_ones 1 := ⟨gw_1590, gw_171, (by decide +kernel : plainFor yX11_ones = true), ⟨(by decide +kernel : yX11_ones.cls ≠ "java/lang/invoke/MethodHandle"), (by decide +kernel : yX11_ones.cls ≠ "java/lang/invoke/VarHandle"), (by decide +kernel : (parseMethodDescriptor yX11_ones.desc).map (fun d => d.parameters.length) = some 1)⟩, Nat.le_of_ble_eq_true rfl⟩
noncomputable def l_X11_ones_2 (x0 : Int32) (σ1 : Mem) (i2 : Int32) : Option ((Mem × Int32) ⊕ Mem) :=
  if 6 ≤ i2 then (some (Sum.inr σ1)) else ((f_X11_puts σ1 x0 i2 0).bind (fun (σ3 : Mem) => some (Sum.inl (σ3, i2 + 1))))
noncomputable def f_X11_ones (σ : Mem) (x0 : Int32) : Option Mem :=
  loopO (fun (z2 : (Mem × Int32)) => l_X11_ones_2 x0 z2.1 z2.2) (σ, 0)
theorem t_X11_ones {w : Wd} (hw : WOK w) (hN : wn w = NT) {σ : Mem} {x0 : Int32} : JO w mu_X11_ones vV σ [(0, .ref (adr w 306)), (1, .int x0)] [] 0 (f_X11_ones σ x0) (fun z => some ((), z)) := by
  unfold f_X11_ones
  refine jo_iconst (pc := 0) dX11_ones_0 (ic_i_0) ?_
  refine jo_istore_n (pc := 1) (lv' := [(2, .int 0), (0, .ref (adr w 306)), (1, .int x0)]) dX11_ones_1 rfl (ltb rfl) rfl ?_
  refine jo_lv (lv' := [(0, .ref (adr w 306)), (1, .int x0), (2, .int 0)]) [1, 2, 0] rfl ?_
  refine jo_loop (X := Mem) (fun (z2 : (Mem × Int32)) => z2.1) (fun (z2 : (Mem × Int32)) => [(0, .ref (adr w 306)), (1, .int x0), (2, .int z2.2)]) (body := (fun (z2 : (Mem × Int32)) => l_X11_ones_2 x0 z2.1 z2.2)) (fun F2_2 hF2_2 s => ?_) (σ, 0)
  obtain ⟨σ1, i2⟩ := s
  show JO w mu_X11_ones vV σ1 [(0, .ref (adr w 306)), (1, .int x0), (2, .int i2)] [] 2 (l_X11_ones_2 x0 σ1 i2) _
  unfold l_X11_ones_2
  refine jo_iload_n (pc := 2) 2 rfl dX11_ones_2 rfl ?_
  refine jo_bipush (pc := 3) dX11_ones_3 (ic_b_6) ?_
  refine jo_icmp_ge (pc := 5) dX11_ones_5 (tgt := 21) rfl ?_ ?_
  · exact jo_return (pc := 21) rfl rfl dX11_ones_21
  · refine jo_aload_n (pc := 8) 0 rfl dX11_ones_8 rfl ?_
    refine jo_iload_n (pc := 9) 1 rfl dX11_ones_9 rfl ?_
    refine jo_iload_n (pc := 10) 2 rfl dX11_ones_10 rfl ?_
    refine jo_lconst (pc := 11) dX11_ones_11 (ic_l_0) ?_
    refine jo_cV_V_i (pc := 12) (μ' := mu_X11_puts) (fx := f_X11_puts σ1 x0 i2 0) (As := [.int x0, .int i2, .long 0]) (c_X11_puts hw hN) (ok_X11_puts) (ltb rfl) (all3 gw_1519 gw_1521 gw_85) (ik_306 hw hN) (by decide) (q := (RX11, TX11, 39)) rfl rfl rfl rfl (Nat.le_of_ble_eq_true rfl) dX11_ones_12 (fun σ3 => ?_)
    refine jo_iinc (pc := 15) (lv' := [(2, .int (i2 + 1)), (0, .ref (adr w 306)), (1, .int x0)]) 2 rfl dX11_ones_15 (congrArg (fun z => i2 + z) (ic_i_1)) (ltb rfl) rfl ?_
    refine jo_goto (pc := 18) dX11_ones_18 (tgt := 2) rfl ?_
    refine jo_lv (lv' := [(0, .ref (adr w 306)), (1, .int x0), (2, .int (i2 + 1))]) [1, 2, 0] rfl ?_
    exact jo_leaf (by rfl) (hF2_2 (σ3, i2 + 1))
theorem c_X11_ones {w : Wd} (hw : WOK w) (hN : wn w = NT) {σ : Mem} {x0 : Int32} : ∀ σ', f_X11_ones σ x0 = some σ' → MC w mu_X11_ones none [.ref (adr w 306), .int x0] σ σ' := mc_ofV ok_X11_ones rfl (Nat.le_of_ble_eq_true rfl) (t_X11_ones hw hN)
abbrev mu_X11_copies : MD := (yX11_copies, cX11_copies, 4, none, 1)
theorem ok_X11_copies : MOK mu_X11_copies 2 := ⟨gw_1594, gw_171, (by decide +kernel : plainFor yX11_copies = true), ⟨(by decide +kernel : yX11_copies.cls ≠ "java/lang/invoke/MethodHandle"), (by decide +kernel : yX11_copies.cls ≠ "java/lang/invoke/VarHandle"), (by decide +kernel : (parseMethodDescriptor yX11_copies.desc).map (fun d => d.parameters.length) = some 2)⟩, Nat.le_of_ble_eq_true rfl⟩
noncomputable def l_X11_copies_2 (x0 : Int32) (x1 : Int32) (σ1 : Mem) (i2 : Int32) : Option ((Mem × Int32) ⊕ Mem) :=
  if 6 ≤ i2 then (some (Sum.inr σ1)) else ((f_X11_of σ1 x0 i2).bind (fun (v3 : Int64) => (f_X11_puts σ1 x1 i2 v3).bind (fun (σ4 : Mem) => some (Sum.inl (σ4, i2 + 1)))))
noncomputable def f_X11_copies (σ : Mem) (x0 : Int32) (x1 : Int32) : Option Mem :=
  loopO (fun (z2 : (Mem × Int32)) => l_X11_copies_2 x0 x1 z2.1 z2.2) (σ, 0)
theorem t_X11_copies {w : Wd} (hw : WOK w) (hN : wn w = NT) {σ : Mem} {x0 : Int32} {x1 : Int32} : JO w mu_X11_copies vV σ [(0, .ref (adr w 306)), (1, .int x0), (2, .int x1)] [] 0 (f_X11_copies σ x0 x1) (fun z => some ((), z)) := by
  unfold f_X11_copies
  refine jo_iconst (pc := 0) dX11_copies_0 (ic_i_0) ?_
  refine jo_istore_n (pc := 1) (lv' := [(3, .int 0), (0, .ref (adr w 306)), (1, .int x0), (2, .int x1)]) dX11_copies_1 rfl (ltb rfl) rfl ?_
  refine jo_lv (lv' := [(0, .ref (adr w 306)), (1, .int x0), (2, .int x1), (3, .int 0)]) [1, 2, 3, 0] rfl ?_
  refine jo_loop (X := Mem) (fun (z2 : (Mem × Int32)) => z2.1) (fun (z2 : (Mem × Int32)) => [(0, .ref (adr w 306)), (1, .int x0), (2, .int x1), (3, .int z2.2)]) (body := (fun (z2 : (Mem × Int32)) => l_X11_copies_2 x0 x1 z2.1 z2.2)) (fun F2_2 hF2_2 s => ?_) (σ, 0)
  obtain ⟨σ1, i2⟩ := s
  show JO w mu_X11_copies vV σ1 [(0, .ref (adr w 306)), (1, .int x0), (2, .int x1), (3, .int i2)] [] 2 (l_X11_copies_2 x0 x1 σ1 i2) _
  unfold l_X11_copies_2
  refine jo_iload_n (pc := 2) 3 rfl dX11_copies_2 rfl ?_
  refine jo_bipush (pc := 3) dX11_copies_3 (ic_b_6) ?_
  refine jo_icmp_ge (pc := 5) dX11_copies_5 (tgt := 26) rfl ?_ ?_
  · exact jo_return (pc := 26) rfl rfl dX11_copies_26
  · refine jo_aload_n (pc := 8) 0 rfl dX11_copies_8 rfl ?_
    refine jo_iload_n (pc := 9) 2 rfl dX11_copies_9 rfl ?_
    refine jo_iload_n (pc := 10) 3 rfl dX11_copies_10 rfl ?_
    refine jo_aload_n (pc := 11) 0 rfl dX11_copies_11 rfl ?_
    refine jo_iload_n (pc := 12) 1 rfl dX11_copies_12 rfl ?_
    refine jo_iload_n (pc := 13) 3 rfl dX11_copies_13 rfl ?_
    refine jo_cV_J_p (pc := 14) (μ' := mu_X11_of) (fx := f_X11_of σ1 x0 i2) (As := [.int x0, .int i2]) (c_X11_of hw hN) (ok_X11_of) (ltb rfl) (all3 gw_1527 gw_1529 gw_87) (ik_306 hw hN) (by decide) (q := (RX11, TX11, 39)) rfl rfl rfl rfl (Nat.le_of_ble_eq_true rfl) dX11_copies_14 (fun v3 => ?_)
    refine jo_cV_V_i (pc := 17) (μ' := mu_X11_puts) (fx := f_X11_puts σ1 x1 i2 v3) (As := [.int x1, .int i2, .long v3]) (c_X11_puts hw hN) (ok_X11_puts) (ltb rfl) (all3 gw_1519 gw_1521 gw_85) (ik_306 hw hN) (by decide) (q := (RX11, TX11, 39)) rfl rfl rfl rfl (Nat.le_of_ble_eq_true rfl) dX11_copies_17 (fun σ4 => ?_)
    refine jo_iinc (pc := 20) (lv' := [(3, .int (i2 + 1)), (0, .ref (adr w 306)), (1, .int x0), (2, .int x1)]) 3 rfl dX11_copies_20 (congrArg (fun z => i2 + z) (ic_i_1)) (ltb rfl) rfl ?_
    refine jo_goto (pc := 23) dX11_copies_23 (tgt := 2) rfl ?_
    refine jo_lv (lv' := [(0, .ref (adr w 306)), (1, .int x0), (2, .int x1), (3, .int (i2 + 1))]) [1, 2, 3, 0] rfl ?_
    exact jo_leaf (by rfl) (hF2_2 (σ4, i2 + 1))
theorem c_X11_copies {w : Wd} (hw : WOK w) (hN : wn w = NT) {σ : Mem} {x0 : Int32} {x1 : Int32} : ∀ σ', f_X11_copies σ x0 x1 = some σ' → MC w mu_X11_copies none [.ref (adr w 306), .int x0, .int x1] σ σ' := mc_ofV ok_X11_copies rfl (Nat.le_of_ble_eq_true rfl) (t_X11_copies hw hN)
abbrev mu_X11_laysRegister : MD := (yX11_laysRegister, cX11_laysRegister, 4, none, 1)
theorem ok_X11_laysRegister : MOK mu_X11_laysRegister 2 := ⟨gw_1562, gw_171, (by decide +kernel : plainFor yX11_laysRegister = true), ⟨(by decide +kernel : yX11_laysRegister.cls ≠ "java/lang/invoke/MethodHandle"), (by decide +kernel : yX11_laysRegister.cls ≠ "java/lang/invoke/VarHandle"), (by decide +kernel : (parseMethodDescriptor yX11_laysRegister.desc).map (fun d => d.parameters.length) = some 2)⟩, Nat.le_of_ble_eq_true rfl⟩
noncomputable def l_X11_laysRegister_2 (x0 : Int32) (x1 : Int32) (σ1 : Mem) (i2 : Int32) : Option ((Mem × Int32) ⊕ Mem) :=
  if 6 ≤ i2 then (some (Sum.inr σ1)) else ((f_X11_ofRow σ1 x1 i2).bind (fun (v3 : Int32) => (f_X11_puts σ1 x0 i2 (Int32.toInt64 v3)).bind (fun (σ4 : Mem) => some (Sum.inl (σ4, i2 + 1)))))
noncomputable def f_X11_laysRegister (σ : Mem) (x0 : Int32) (x1 : Int32) : Option Mem :=
  loopO (fun (z2 : (Mem × Int32)) => l_X11_laysRegister_2 x0 x1 z2.1 z2.2) (σ, 0)
theorem t_X11_laysRegister {w : Wd} (hw : WOK w) (hN : wn w = NT) {σ : Mem} {x0 : Int32} {x1 : Int32} : JO w mu_X11_laysRegister vV σ [(0, .ref (adr w 306)), (1, .int x0), (2, .int x1)] [] 0 (f_X11_laysRegister σ x0 x1) (fun z => some ((), z)) := by
  unfold f_X11_laysRegister
  refine jo_iconst (pc := 0) dX11_laysRegister_0 (ic_i_0) ?_
  refine jo_istore_n (pc := 1) (lv' := [(3, .int 0), (0, .ref (adr w 306)), (1, .int x0), (2, .int x1)]) dX11_laysRegister_1 rfl (ltb rfl) rfl ?_
  refine jo_lv (lv' := [(0, .ref (adr w 306)), (1, .int x0), (2, .int x1), (3, .int 0)]) [1, 2, 3, 0] rfl ?_
  refine jo_loop (X := Mem) (fun (z2 : (Mem × Int32)) => z2.1) (fun (z2 : (Mem × Int32)) => [(0, .ref (adr w 306)), (1, .int x0), (2, .int x1), (3, .int z2.2)]) (body := (fun (z2 : (Mem × Int32)) => l_X11_laysRegister_2 x0 x1 z2.1 z2.2)) (fun F2_2 hF2_2 s => ?_) (σ, 0)
  obtain ⟨σ1, i2⟩ := s
  show JO w mu_X11_laysRegister vV σ1 [(0, .ref (adr w 306)), (1, .int x0), (2, .int x1), (3, .int i2)] [] 2 (l_X11_laysRegister_2 x0 x1 σ1 i2) _
  unfold l_X11_laysRegister_2
  refine jo_iload_n (pc := 2) 3 rfl dX11_laysRegister_2 rfl ?_
  refine jo_bipush (pc := 3) dX11_laysRegister_3 (ic_b_6) ?_
  refine jo_icmp_ge (pc := 5) dX11_laysRegister_5 (tgt := 27) rfl ?_ ?_
  · exact jo_return (pc := 27) rfl rfl dX11_laysRegister_27
  · refine jo_aload_n (pc := 8) 0 rfl dX11_laysRegister_8 rfl ?_
    refine jo_iload_n (pc := 9) 1 rfl dX11_laysRegister_9 rfl ?_
    refine jo_iload_n (pc := 10) 3 rfl dX11_laysRegister_10 rfl ?_
    refine jo_aload_n (pc := 11) 0 rfl dX11_laysRegister_11 rfl ?_
    refine jo_iload_n (pc := 12) 2 rfl dX11_laysRegister_12 rfl ?_
    refine jo_iload_n (pc := 13) 3 rfl dX11_laysRegister_13 rfl ?_
    refine jo_cV_I_p (pc := 14) (μ' := mu_X11_ofRow) (fx := f_X11_ofRow σ1 x1 i2) (As := [.int x1, .int i2]) (c_X11_ofRow hw hN) (ok_X11_ofRow) (ltb rfl) (all3 gw_1563 gw_1565 gw_95) (ik_306 hw hN) (by decide) (q := (RX11, TX11, 39)) rfl rfl rfl rfl (Nat.le_of_ble_eq_true rfl) dX11_laysRegister_14 (fun v3 => ?_)
    refine jo_i2l (pc := 17) dX11_laysRegister_17 ?_
    refine jo_cV_V_i (pc := 18) (μ' := mu_X11_puts) (fx := f_X11_puts σ1 x0 i2 (Int32.toInt64 v3)) (As := [.int x0, .int i2, .long (Int32.toInt64 v3)]) (c_X11_puts hw hN) (ok_X11_puts) (ltb rfl) (all3 gw_1519 gw_1521 gw_85) (ik_306 hw hN) (by decide) (q := (RX11, TX11, 39)) rfl rfl rfl rfl (Nat.le_of_ble_eq_true rfl) dX11_laysRegister_18 (fun σ4 => ?_)
    refine jo_iinc (pc := 21) (lv' := [(3, .int (i2 + 1)), (0, .ref (adr w 306)), (1, .int x0), (2, .int x1)]) 3 rfl dX11_laysRegister_21 (congrArg (fun z => i2 + z) (ic_i_1)) (ltb rfl) rfl ?_
    refine jo_goto (pc := 24) dX11_laysRegister_24 (tgt := 2) rfl ?_
    refine jo_lv (lv' := [(0, .ref (adr w 306)), (1, .int x0), (2, .int x1), (3, .int (i2 + 1))]) [1, 2, 3, 0] rfl ?_
    exact jo_leaf (by rfl) (hF2_2 (σ4, i2 + 1))
theorem c_X11_laysRegister {w : Wd} (hw : WOK w) (hN : wn w = NT) {σ : Mem} {x0 : Int32} {x1 : Int32} : ∀ σ', f_X11_laysRegister σ x0 x1 = some σ' → MC w mu_X11_laysRegister none [.ref (adr w 306), .int x0, .int x1] σ σ' := mc_ofV ok_X11_laysRegister rfl (Nat.le_of_ble_eq_true rfl) (t_X11_laysRegister hw hN)
