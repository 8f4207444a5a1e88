section
abbrev mu_X11_timesLetter : MD := (yX11_timesLetter, cX11_timesLetter, 8, none, 2)
theorem ok_X11_timesLetter : MOK mu_X11_timesLetter 3 := ⟨gw_1534, gw_171, (by decide +kernel : plainFor yX11_timesLetter = true), ⟨(by decide +kernel : yX11_timesLetter.cls ≠ "java/lang/invoke/MethodHandle"), (by decide +kernel : yX11_timesLetter.cls ≠ "java/lang/invoke/VarHandle"), (by decide +kernel : (parseMethodDescriptor yX11_timesLetter.desc).map (fun d => d.parameters.length) = some 3)⟩, Nat.le_of_ble_eq_true rfl⟩
noncomputable def j_X11_timesLetter_171 (x0 : Int32) (x1 : Int32) (x2 : Int64) (σ4 : Mem) : Option Mem :=
  (f_X11_of σ4 x0 x1).bind (fun (v5 : Int64) => (f_X11_puts σ4 x0 x1 (v5 + x2)).bind (fun (σ6 : Mem) => some σ6))
noncomputable def l_X11_timesLetter_128 (x0 : Int32) (σ9 : Mem) (i10 : Int32) : Option ((Mem × Int32) ⊕ Mem) :=
  if 6 ≤ i10 then (some (Sum.inr σ9)) else ((f_X11_of σ9 x0 i10).bind (fun (v11 : Int64) => gL σ9 314 i10 (fun (v12 : Int64) => (f_X11_puts σ9 x0 i10 (v11 + v12)).bind (fun (σ13 : Mem) => pL σ13 314 i10 0 (fun (σ14 : Mem) => some (Sum.inl (σ14, i10 + 1)))))))
noncomputable def j_X11_timesLetter_125 (x0 : Int32) (σ8 : Mem) : Option Mem :=
  loopO (fun (z10 : (Mem × Int32)) => l_X11_timesLetter_128 x0 z10.1 z10.2) (σ8, 0)
noncomputable def l_X11_timesLetter_91 (x0 : Int32) (x1 : Int32) (x2 : Int64) (σ15 : Mem) (i16 : Int32) : Option ((Mem × Int32) ⊕ Mem) :=
  (f_X11_n σ15).bind (fun (v17 : Int32) => if v17 ≤ i16 then (some (Sum.inr σ15)) else ((f_X11_weight σ15 i16).bind (fun (v18 : Int32) => if v18 = 1 then ((f_X11_passesOne σ15 x0 i16 x1 x2).bind (fun (σ19 : Mem) => some (Sum.inl (σ19, i16 + 1)))) else (some (Sum.inr σ15)))))
noncomputable def j_X11_timesLetter_77 (x0 : Int32) (x1 : Int32) (x2 : Int64) (σ2 : Mem) : Option Mem :=
  (f_X11_weight σ2 x1).bind (fun (v3 : Int32) => (if v3 = 1 then (bd (x1 + 1) (fun (v7 : Int32) => (loopO (fun (z16 : (Mem × Int32)) => l_X11_timesLetter_91 x0 x1 x2 z16.1 z16.2) (σ2, v7) : Option Mem).bind (fun (z8 : Mem) => j_X11_timesLetter_125 x0 z8))) else (some σ2) : Option Mem).bind (fun (z4 : Mem) => j_X11_timesLetter_171 x0 x1 x2 z4))
noncomputable def j_X11_timesLetter_71 (i22 : Int32) (σ27 : Mem) : Option ((Mem × Int32) ⊕ Mem) :=
  some (Sum.inl (σ27, i22 + 1))
noncomputable def l_X11_timesLetter_21 (x0 : Int32) (x1 : Int32) (x2 : Int64) (σ21 : Mem) (i22 : Int32) : Option ((Mem × Int32) ⊕ Mem) :=
  (f_X11_n σ21).bind (fun (v23 : Int32) => if v23 ≤ i22 then (some (Sum.inr σ21)) else ((f_X11_weight σ21 i22).bind (fun (v24 : Int32) => if 3 ≤ v24 then (some (Sum.inr σ21)) else ((f_X11_of σ21 x0 i22).bind (fun (v25 : Int64) => (f_X11_weight σ21 i22).bind (fun (v26 : Int32) => (if v26 = 2 then ((f_X11_passesTwo σ21 x0 i22 x1 (v25 * x2)).bind (fun (σ28 : Mem) => some σ28)) else (some σ21) : Option Mem).bind (fun (z27 : Mem) => j_X11_timesLetter_71 i22 z27)))))))
noncomputable def f_X11_timesLetter (σ : Mem) (x0 : Int32) (x1 : Int32) (x2 : Int64) : Option Mem :=
  if x2 = 0 then (some σ) else ((f_X11_weight σ x1).bind (fun (v1 : Int32) => (if v1 = 1 then (bd (x1 + 1) (fun (v20 : Int32) => loopO (fun (z22 : (Mem × Int32)) => l_X11_timesLetter_21 x0 x1 x2 z22.1 z22.2) (σ, v20))) else (some σ) : Option Mem).bind (fun (z2 : Mem) => j_X11_timesLetter_77 x0 x1 x2 z2)))
theorem t_X11_timesLetter {w : Wd} (hw : WOK w) (hN : wn w = NT) {σ : Mem} {x0 : Int32} {x1 : Int32} {x2 : Int64} : JO w mu_X11_timesLetter vV σ [(0, .ref (adr w 306)), (1, .int x0), (2, .int x1), (3, .long x2)] [] 0 (f_X11_timesLetter σ x0 x1 x2) (fun z => some ((), z)) := by
  unfold f_X11_timesLetter
  refine jo_lload_n (pc := 0) 3 rfl dX11_timesLetter_0 rfl ?_
  refine jo_lconst (pc := 1) dX11_timesLetter_1 (ic_l_0) ?_
  refine jo_lcmp_ne (pc := 2) dX11_timesLetter_2 dX11_timesLetter_3 (tgt := 7) rfl ?_ ?_
  · refine jo_aload_n (pc := 7) 0 rfl dX11_timesLetter_7 rfl ?_
    refine jo_iload_n (pc := 8) 2 rfl dX11_timesLetter_8 rfl ?_
    refine jo_cV_I_p (pc := 9) (μ' := mu_X11_weight) (fx := f_X11_weight σ x1) (As := [.int x1]) (c_X11_weight hw hN) (ok_X11_weight) (ltb rfl) (all3 gw_1446 gw_1448 gw_69) (ik_306 hw hN) (by decide) (q := (RX11, TX11, 39)) rfl rfl rfl rfl (Nat.le_of_ble_eq_true rfl) dX11_timesLetter_9 (fun v1 => ?_)
    refine jo_iconst (pc := 12) dX11_timesLetter_12 (ic_i_1) ?_
    refine jo_join1 (S := Mem) (fun (z2 : Mem) => z2) (fun (z2 : Mem) => [(0, .ref (adr w 306)), (1, .int x0), (2, .int x1), (3, .long x2)]) (fun (z2 : Mem) => []) 77 ?_ (fun h77_2 => ?_)
    · intro σ2
      show JO w mu_X11_timesLetter vV σ2 [(0, .ref (adr w 306)), (1, .int x0), (2, .int x1), (3, .long x2)] [] 77 (j_X11_timesLetter_77 x0 x1 x2 σ2) _
      unfold j_X11_timesLetter_77
      refine jo_aload_n (pc := 77) 0 rfl dX11_timesLetter_77 rfl ?_
      refine jo_iload_n (pc := 78) 2 rfl dX11_timesLetter_78 rfl ?_
      refine jo_cV_I_p (pc := 79) (μ' := mu_X11_weight) (fx := f_X11_weight σ2 x1) (As := [.int x1]) (c_X11_weight hw hN) (ok_X11_weight) (ltb rfl) (all3 gw_1446 gw_1448 gw_69) (ik_306 hw hN) (by decide) (q := (RX11, TX11, 39)) rfl rfl rfl rfl (Nat.le_of_ble_eq_true rfl) dX11_timesLetter_79 (fun v3 => ?_)
      refine jo_iconst (pc := 82) dX11_timesLetter_82 (ic_i_1) ?_
      refine jo_join1 (S := Mem) (fun (z4 : Mem) => z4) (fun (z4 : Mem) => [(0, .ref (adr w 306)), (1, .int x0), (2, .int x1), (3, .long x2)]) (fun (z4 : Mem) => []) 171 ?_ (fun h171_4 => ?_)
      · intro σ4
        show JO w mu_X11_timesLetter vV σ4 [(0, .ref (adr w 306)), (1, .int x0), (2, .int x1), (3, .long x2)] [] 171 (j_X11_timesLetter_171 x0 x1 x2 σ4) _
        unfold j_X11_timesLetter_171
        refine jo_aload_n (pc := 171) 0 rfl dX11_timesLetter_171 rfl ?_
        refine jo_iload_n (pc := 172) 1 rfl dX11_timesLetter_172 rfl ?_
        refine jo_iload_n (pc := 173) 2 rfl dX11_timesLetter_173 rfl ?_
        refine jo_aload_n (pc := 174) 0 rfl dX11_timesLetter_174 rfl ?_
        refine jo_iload_n (pc := 175) 1 rfl dX11_timesLetter_175 rfl ?_
        refine jo_iload_n (pc := 176) 2 rfl dX11_timesLetter_176 rfl ?_
        refine jo_cV_J_p (pc := 177) (μ' := mu_X11_of) (fx := f_X11_of σ4 x0 x1) (As := [.int x0, .int x1]) (c_X11_of hw hN) (ok_X11_of) (ltb rfl) (all3 gw_1527 gw_1529 gw_87) (ik_306 hw hN) (by decide) (q := (RX11, TX11, 39)) rfl rfl rfl rfl (Nat.le_of_ble_eq_true rfl) dX11_timesLetter_177 (fun v5 => ?_)
        refine jo_lload_n (pc := 180) 3 rfl dX11_timesLetter_180 rfl ?_
        refine jo_ladd (pc := 181) dX11_timesLetter_181 ?_
        refine jo_cV_V_i (pc := 182) (μ' := mu_X11_puts) (fx := f_X11_puts σ4 x0 x1 (v5 + x2)) (As := [.int x0, .int x1, .long (v5 + x2)]) (c_X11_puts hw hN) (ok_X11_puts) (ltb rfl) (all3 gw_1519 gw_1521 gw_85) (ik_306 hw hN) (by decide) (q := (RX11, TX11, 39)) rfl rfl rfl rfl (Nat.le_of_ble_eq_true rfl) dX11_timesLetter_182 (fun σ6 => ?_)
        exact jo_return (pc := 185) rfl rfl dX11_timesLetter_185
      · refine jo_icmp_ne (pc := 83) dX11_timesLetter_83 (tgt := 171) rfl ?_ ?_
        · exact jo_leaf (by rfl) (h171_4 σ2)
        · refine jo_iload_n (pc := 86) 2 rfl dX11_timesLetter_86 rfl ?_
          refine jo_iconst (pc := 87) dX11_timesLetter_87 (ic_i_1) ?_
          refine jo_iadd (pc := 88) dX11_timesLetter_88 ?_
          refine jo_bd ?_
          refine jo_istore (pc := 89) (lv' := [(5, .int (x1 + 1)), (0, .ref (adr w 306)), (1, .int x0), (2, .int x1), (3, .long x2)]) dX11_timesLetter_89 (ltb rfl) rfl ?_
          generalize (x1 + 1) = v7
          refine jo_join1 (S := Mem) (fun (z8 : Mem) => z8) (fun (z8 : Mem) => [(0, .ref (adr w 306)), (1, .int x0), (2, .int x1), (3, .long x2)]) (fun (z8 : Mem) => []) 125 ?_ (fun h125_8 => ?_)
          · intro σ8
            show JO w mu_X11_timesLetter vV σ8 [(0, .ref (adr w 306)), (1, .int x0), (2, .int x1), (3, .long x2)] [] 125 (j_X11_timesLetter_125 x0 σ8) _
            unfold j_X11_timesLetter_125
            refine jo_iconst (pc := 125) dX11_timesLetter_125 (ic_i_0) ?_
            refine jo_istore (pc := 126) (lv' := [(5, .int 0), (0, .ref (adr w 306)), (1, .int x0), (2, .int x1), (3, .long x2)]) dX11_timesLetter_126 (ltb rfl) rfl ?_
            refine jo_lv (lv' := [(0, .ref (adr w 306)), (1, .int x0), (2, .int x1), (3, .long x2), (5, .int 0)]) [1, 2, 3, 4, 0] rfl ?_
            refine jo_loop (X := Mem) (fun (z10 : (Mem × Int32)) => z10.1) (fun (z10 : (Mem × Int32)) => [(0, .ref (adr w 306)), (1, .int x0), (2, .int x1), (3, .long x2), (5, .int z10.2)]) (body := (fun (z10 : (Mem × Int32)) => l_X11_timesLetter_128 x0 z10.1 z10.2)) (fun F128_10 hF128_10 s => ?_) (σ8, 0)
            obtain ⟨σ9, i10⟩ := s
            show JO w mu_X11_timesLetter vV σ9 [(0, .ref (adr w 306)), (1, .int x0), (2, .int x1), (3, .long x2), (5, .int i10)] [] 128 (l_X11_timesLetter_128 x0 σ9 i10) _
            unfold l_X11_timesLetter_128
            refine jo_iload (pc := 128) 4 rfl dX11_timesLetter_128 ?_
            refine jo_bipush (pc := 130) dX11_timesLetter_130 (ic_b_6) ?_
            refine jo_icmp_ge (pc := 132) dX11_timesLetter_132 (tgt := 171) rfl ?_ ?_
            · refine jo_lv (lv' := [(0, .ref (adr w 306)), (1, .int x0), (2, .int x1), (3, .long x2)]) [0, 1, 2, 3] rfl ?_
              exact jo_leaf (by rfl) (h171_4 σ9)
            · refine jo_aload_n (pc := 135) 0 rfl dX11_timesLetter_135 rfl ?_
              refine jo_iload_n (pc := 136) 1 rfl dX11_timesLetter_136 rfl ?_
              refine jo_iload (pc := 137) 4 rfl dX11_timesLetter_137 ?_
              refine jo_aload_n (pc := 139) 0 rfl dX11_timesLetter_139 rfl ?_
              refine jo_iload_n (pc := 140) 1 rfl dX11_timesLetter_140 rfl ?_
              refine jo_iload (pc := 141) 4 rfl dX11_timesLetter_141 ?_
              refine jo_cV_J_p (pc := 143) (μ' := mu_X11_of) (fx := f_X11_of σ9 x0 i10) (As := [.int x0, .int i10]) (c_X11_of hw hN) (ok_X11_of) (ltb rfl) (all3 gw_1527 gw_1529 gw_87) (ik_306 hw hN) (by decide) (q := (RX11, TX11, 39)) rfl rfl rfl rfl (Nat.le_of_ble_eq_true rfl) dX11_timesLetter_143 (fun v11 => ?_)
              refine jo_aload_n (pc := 146) 0 rfl dX11_timesLetter_146 rfl ?_
              refine jo_getrE (pc := 147) ok_11_14 (ik_306 hw hN) rf_306_14 gw_1307 dX11_timesLetter_147 ?_
              refine jo_iload (pc := 150) 4 rfl dX11_timesLetter_150 ?_
              refine jo_lald (pc := 152) (ik_314 hw hN) dX11_timesLetter_152 (fun v12 => ?_)
              refine jo_ladd (pc := 153) dX11_timesLetter_153 ?_
              refine jo_cV_V_i (pc := 154) (μ' := mu_X11_puts) (fx := f_X11_puts σ9 x0 i10 (v11 + v12)) (As := [.int x0, .int i10, .long (v11 + v12)]) (c_X11_puts hw hN) (ok_X11_puts) (ltb rfl) (all3 gw_1519 gw_1521 gw_85) (ik_306 hw hN) (by decide) (q := (RX11, TX11, 39)) rfl rfl rfl rfl (Nat.le_of_ble_eq_true rfl) dX11_timesLetter_154 (fun σ13 => ?_)
              refine jo_aload_n (pc := 157) 0 rfl dX11_timesLetter_157 rfl ?_
              refine jo_getrE (pc := 158) ok_11_14 (ik_306 hw hN) rf_306_14 gw_1307 dX11_timesLetter_158 ?_
              refine jo_iload (pc := 161) 4 rfl dX11_timesLetter_161 ?_
              refine jo_lconst (pc := 163) dX11_timesLetter_163 (ic_l_0) ?_
              refine jo_last (pc := 164) (ik_314 hw hN) dX11_timesLetter_164 (fun σ14 => ?_)
              refine jo_iinc (pc := 165) (lv' := [(5, .int (i10 + 1)), (0, .ref (adr w 306)), (1, .int x0), (2, .int x1), (3, .long x2)]) 4 rfl dX11_timesLetter_165 (congrArg (fun z => i10 + z) (ic_i_1)) (ltb rfl) rfl ?_
              refine jo_goto (pc := 168) dX11_timesLetter_168 (tgt := 128) rfl ?_
              refine jo_lv (lv' := [(0, .ref (adr w 306)), (1, .int x0), (2, .int x1), (3, .long x2), (5, .int (i10 + 1))]) [1, 2, 3, 4, 0] rfl ?_
              exact jo_leaf (by rfl) (hF128_10 (σ14, i10 + 1))
          · refine jo_lv (lv' := [(0, .ref (adr w 306)), (1, .int x0), (2, .int x1), (3, .long x2), (5, .int v7)]) [1, 2, 3, 4, 0] rfl ?_
            refine jo_loop (X := Mem) (fun (z16 : (Mem × Int32)) => z16.1) (fun (z16 : (Mem × Int32)) => [(0, .ref (adr w 306)), (1, .int x0), (2, .int x1), (3, .long x2), (5, .int z16.2)]) (body := (fun (z16 : (Mem × Int32)) => l_X11_timesLetter_91 x0 x1 x2 z16.1 z16.2)) (fun F91_16 hF91_16 s => ?_) (σ2, v7)
            obtain ⟨σ15, i16⟩ := s
            show JO w mu_X11_timesLetter vV σ15 [(0, .ref (adr w 306)), (1, .int x0), (2, .int x1), (3, .long x2), (5, .int i16)] [] 91 (l_X11_timesLetter_91 x0 x1 x2 σ15 i16) _
            unfold l_X11_timesLetter_91
            refine jo_iload (pc := 91) 4 rfl dX11_timesLetter_91 ?_
            refine jo_aload_n (pc := 93) 0 rfl dX11_timesLetter_93 rfl ?_
            refine jo_cV_I_p (pc := 94) (μ' := mu_X11_n) (fx := f_X11_n σ15) (As := []) (c_X11_n hw hN) (ok_X11_n) (ltb rfl) (all3 gw_1441 gw_1443 gw_68) (ik_306 hw hN) (by decide) (q := (RX11, TX11, 39)) rfl rfl rfl rfl (Nat.le_of_ble_eq_true rfl) dX11_timesLetter_94 (fun v17 => ?_)
            refine jo_icmp_ge (pc := 97) dX11_timesLetter_97 (tgt := 125) rfl ?_ ?_
            · refine jo_lv (lv' := [(0, .ref (adr w 306)), (1, .int x0), (2, .int x1), (3, .long x2)]) [0, 1, 2, 3] rfl ?_
              exact jo_leaf (by rfl) (h125_8 σ15)
            · refine jo_aload_n (pc := 100) 0 rfl dX11_timesLetter_100 rfl ?_
              refine jo_iload (pc := 101) 4 rfl dX11_timesLetter_101 ?_
              refine jo_cV_I_p (pc := 103) (μ' := mu_X11_weight) (fx := f_X11_weight σ15 i16) (As := [.int i16]) (c_X11_weight hw hN) (ok_X11_weight) (ltb rfl) (all3 gw_1446 gw_1448 gw_69) (ik_306 hw hN) (by decide) (q := (RX11, TX11, 39)) rfl rfl rfl rfl (Nat.le_of_ble_eq_true rfl) dX11_timesLetter_103 (fun v18 => ?_)
              refine jo_iconst (pc := 106) dX11_timesLetter_106 (ic_i_1) ?_
              refine jo_icmp_ne (pc := 107) dX11_timesLetter_107 (tgt := 125) rfl ?_ ?_
              · refine jo_lv (lv' := [(0, .ref (adr w 306)), (1, .int x0), (2, .int x1), (3, .long x2)]) [0, 1, 2, 3] rfl ?_
                exact jo_leaf (by rfl) (h125_8 σ15)
              · refine jo_aload_n (pc := 110) 0 rfl dX11_timesLetter_110 rfl ?_
                refine jo_iload_n (pc := 111) 1 rfl dX11_timesLetter_111 rfl ?_
                refine jo_iload (pc := 112) 4 rfl dX11_timesLetter_112 ?_
                refine jo_iload_n (pc := 114) 2 rfl dX11_timesLetter_114 rfl ?_
                refine jo_lload_n (pc := 115) 3 rfl dX11_timesLetter_115 rfl ?_
                refine jo_cV_V_i (pc := 116) (μ' := mu_X11_passesOne) (fx := f_X11_passesOne σ15 x0 i16 x1 x2) (As := [.int x0, .int i16, .int x1, .long x2]) (c_X11_passesOne hw hN) (ok_X11_passesOne) (ltb rfl) (all3 gw_1539 gw_1541 gw_90) (ik_306 hw hN) (by decide) (q := (RX11, TX11, 39)) rfl rfl rfl rfl (Nat.le_of_ble_eq_true rfl) dX11_timesLetter_116 (fun σ19 => ?_)
                refine jo_iinc (pc := 119) (lv' := [(5, .int (i16 + 1)), (0, .ref (adr w 306)), (1, .int x0), (2, .int x1), (3, .long x2)]) 4 rfl dX11_timesLetter_119 (congrArg (fun z => i16 + z) (ic_i_1)) (ltb rfl) rfl ?_
                refine jo_goto (pc := 122) dX11_timesLetter_122 (tgt := 91) rfl ?_
                refine jo_lv (lv' := [(0, .ref (adr w 306)), (1, .int x0), (2, .int x1), (3, .long x2), (5, .int (i16 + 1))]) [1, 2, 3, 4, 0] rfl ?_
                exact jo_leaf (by rfl) (hF91_16 (σ19, i16 + 1))
    · refine jo_icmp_ne (pc := 13) dX11_timesLetter_13 (tgt := 77) rfl ?_ ?_
      · exact jo_leaf (by rfl) (h77_2 σ)
      · refine jo_iload_n (pc := 16) 2 rfl dX11_timesLetter_16 rfl ?_
        refine jo_iconst (pc := 17) dX11_timesLetter_17 (ic_i_1) ?_
        refine jo_iadd (pc := 18) dX11_timesLetter_18 ?_
        refine jo_bd ?_
        refine jo_istore (pc := 19) (lv' := [(5, .int (x1 + 1)), (0, .ref (adr w 306)), (1, .int x0), (2, .int x1), (3, .long x2)]) dX11_timesLetter_19 (ltb rfl) rfl ?_
        generalize (x1 + 1) = v20
        refine jo_lv (lv' := [(0, .ref (adr w 306)), (1, .int x0), (2, .int x1), (3, .long x2), (5, .int v20)]) [1, 2, 3, 4, 0] rfl ?_
        refine jo_loop (X := Mem) (fun (z22 : (Mem × Int32)) => z22.1) (fun (z22 : (Mem × Int32)) => [(0, .ref (adr w 306)), (1, .int x0), (2, .int x1), (3, .long x2), (5, .int z22.2)]) (body := (fun (z22 : (Mem × Int32)) => l_X11_timesLetter_21 x0 x1 x2 z22.1 z22.2)) (fun F21_22 hF21_22 s => ?_) (σ, v20)
        obtain ⟨σ21, i22⟩ := s
        show JO w mu_X11_timesLetter vV σ21 [(0, .ref (adr w 306)), (1, .int x0), (2, .int x1), (3, .long x2), (5, .int i22)] [] 21 (l_X11_timesLetter_21 x0 x1 x2 σ21 i22) _
        unfold l_X11_timesLetter_21
        refine jo_iload (pc := 21) 4 rfl dX11_timesLetter_21 ?_
        refine jo_aload_n (pc := 23) 0 rfl dX11_timesLetter_23 rfl ?_
        refine jo_cV_I_p (pc := 24) (μ' := mu_X11_n) (fx := f_X11_n σ21) (As := []) (c_X11_n hw hN) (ok_X11_n) (ltb rfl) (all3 gw_1441 gw_1443 gw_68) (ik_306 hw hN) (by decide) (q := (RX11, TX11, 39)) rfl rfl rfl rfl (Nat.le_of_ble_eq_true rfl) dX11_timesLetter_24 (fun v23 => ?_)
        refine jo_icmp_ge (pc := 27) dX11_timesLetter_27 (tgt := 77) rfl ?_ ?_
        · refine jo_lv (lv' := [(0, .ref (adr w 306)), (1, .int x0), (2, .int x1), (3, .long x2)]) [0, 1, 2, 3] rfl ?_
          exact jo_leaf (by rfl) (h77_2 σ21)
        · refine jo_aload_n (pc := 30) 0 rfl dX11_timesLetter_30 rfl ?_
          refine jo_iload (pc := 31) 4 rfl dX11_timesLetter_31 ?_
          refine jo_cV_I_p (pc := 33) (μ' := mu_X11_weight) (fx := f_X11_weight σ21 i22) (As := [.int i22]) (c_X11_weight hw hN) (ok_X11_weight) (ltb rfl) (all3 gw_1446 gw_1448 gw_69) (ik_306 hw hN) (by decide) (q := (RX11, TX11, 39)) rfl rfl rfl rfl (Nat.le_of_ble_eq_true rfl) dX11_timesLetter_33 (fun v24 => ?_)
          refine jo_iconst (pc := 36) dX11_timesLetter_36 (ic_i_3) ?_
          refine jo_icmp_ge (pc := 37) dX11_timesLetter_37 (tgt := 77) rfl ?_ ?_
          · refine jo_lv (lv' := [(0, .ref (adr w 306)), (1, .int x0), (2, .int x1), (3, .long x2)]) [0, 1, 2, 3] rfl ?_
            exact jo_leaf (by rfl) (h77_2 σ21)
          · refine jo_aload_n (pc := 40) 0 rfl dX11_timesLetter_40 rfl ?_
            refine jo_iload_n (pc := 41) 1 rfl dX11_timesLetter_41 rfl ?_
            refine jo_iload (pc := 42) 4 rfl dX11_timesLetter_42 ?_
            refine jo_cV_J_p (pc := 44) (μ' := mu_X11_of) (fx := f_X11_of σ21 x0 i22) (As := [.int x0, .int i22]) (c_X11_of hw hN) (ok_X11_of) (ltb rfl) (all3 gw_1527 gw_1529 gw_87) (ik_306 hw hN) (by decide) (q := (RX11, TX11, 39)) rfl rfl rfl rfl (Nat.le_of_ble_eq_true rfl) dX11_timesLetter_44 (fun v25 => ?_)
            refine jo_lstore (pc := 47) (lv' := [(6, .long v25), (0, .ref (adr w 306)), (1, .int x0), (2, .int x1), (3, .long x2), (5, .int i22)]) dX11_timesLetter_47 (ltb rfl) rfl ?_
            refine jo_aload_n (pc := 49) 1 rfl dX11_timesLetter_49 rfl ?_
            refine jo_iload (pc := 50) 5 rfl dX11_timesLetter_50 ?_
            refine jo_cV_I_p (pc := 52) (μ' := mu_X11_weight) (fx := f_X11_weight σ21 i22) (As := [.int i22]) (c_X11_weight hw hN) (ok_X11_weight) (ltb rfl) (all3 gw_1446 gw_1448 gw_69) (ik_306 hw hN) (by decide) (q := (RX11, TX11, 39)) rfl rfl rfl rfl (Nat.le_of_ble_eq_true rfl) dX11_timesLetter_52 (fun v26 => ?_)
            refine jo_iconst (pc := 55) dX11_timesLetter_55 (ic_i_2) ?_
            refine jo_join1 (S := Mem) (fun (z27 : Mem) => z27) (fun (z27 : Mem) => [(0, .ref (adr w 306)), (1, .int x0), (2, .int x1), (3, .long x2), (5, .int i22)]) (fun (z27 : Mem) => []) 71 ?_ (fun h71_27 => ?_)
            · intro σ27
              show JO w mu_X11_timesLetter vV σ27 [(0, .ref (adr w 306)), (1, .int x0), (2, .int x1), (3, .long x2), (5, .int i22)] [] 71 (j_X11_timesLetter_71 i22 σ27) _
              unfold j_X11_timesLetter_71
              refine jo_iinc (pc := 71) (lv' := [(5, .int (i22 + 1)), (0, .ref (adr w 306)), (1, .int x0), (2, .int x1), (3, .long x2)]) 4 rfl dX11_timesLetter_71 (congrArg (fun z => i22 + z) (ic_i_1)) (ltb rfl) rfl ?_
              refine jo_goto (pc := 74) dX11_timesLetter_74 (tgt := 21) rfl ?_
              refine jo_lv (lv' := [(0, .ref (adr w 306)), (1, .int x0), (2, .int x1), (3, .long x2), (5, .int (i22 + 1))]) [1, 2, 3, 4, 0] rfl ?_
              exact jo_leaf (by rfl) (hF21_22 (σ27, i22 + 1))
            · refine jo_icmp_ne (pc := 56) dX11_timesLetter_56 (tgt := 71) rfl ?_ ?_
              · refine jo_lv (lv' := [(0, .ref (adr w 306)), (1, .int x0), (2, .int x1), (3, .long x2), (5, .int i22)]) [1, 2, 3, 4, 5] rfl ?_
                exact jo_leaf (by rfl) (h71_27 σ21)
              · refine jo_aload_n (pc := 59) 1 rfl dX11_timesLetter_59 rfl ?_
                refine jo_iload_n (pc := 60) 2 rfl dX11_timesLetter_60 rfl ?_
                refine jo_iload (pc := 61) 5 rfl dX11_timesLetter_61 ?_
                refine jo_iload_n (pc := 63) 3 rfl dX11_timesLetter_63 rfl ?_
                refine jo_lload (pc := 64) 0 rfl dX11_timesLetter_64 ?_
                refine jo_lload_n (pc := 66) 4 rfl dX11_timesLetter_66 rfl ?_
                refine jo_lmul (pc := 67) dX11_timesLetter_67 ?_
                refine jo_cV_V_i (pc := 68) (μ' := mu_X11_passesTwo) (fx := f_X11_passesTwo σ21 x0 i22 x1 (v25 * x2)) (As := [.int x0, .int i22, .int x1, .long (v25 * x2)]) (c_X11_passesTwo hw hN) (ok_X11_passesTwo) (ltb rfl) (all3 gw_1535 gw_1537 gw_89) (ik_306 hw hN) (by decide) (q := (RX11, TX11, 39)) rfl rfl rfl rfl (Nat.le_of_ble_eq_true rfl) dX11_timesLetter_68 (fun σ28 => ?_)
                refine jo_lv (lv' := [(0, .ref (adr w 306)), (1, .int x0), (2, .int x1), (3, .long x2), (5, .int i22)]) [1, 2, 3, 4, 5] rfl ?_
                exact jo_leaf (by rfl) (h71_27 σ28)
  · exact jo_return (pc := 6) rfl rfl dX11_timesLetter_6
theorem c_X11_timesLetter {w : Wd} (hw : WOK w) (hN : wn w = NT) {σ : Mem} {x0 : Int32} {x1 : Int32} {x2 : Int64} : ∀ σ', f_X11_timesLetter σ x0 x1 x2 = some σ' → MC w mu_X11_timesLetter none [.ref (adr w 306), .int x0, .int x1, .long x2] σ σ' := mc_ofV ok_X11_timesLetter rfl (Nat.le_of_ble_eq_true rfl) (t_X11_timesLetter hw hN)
abbrev mu_X11_times : MD := (yX11_times, cX11_times, 4, none, 3)
theorem ok_X11_times : MOK mu_X11_times 2 := ⟨gw_1526, gw_171, (by decide +kernel : plainFor yX11_times = true), ⟨(by decide +kernel : yX11_times.cls ≠ "java/lang/invoke/MethodHandle"), (by decide +kernel : yX11_times.cls ≠ "java/lang/invoke/VarHandle"), (by decide +kernel : (parseMethodDescriptor yX11_times.desc).map (fun d => d.parameters.length) = some 2)⟩, Nat.le_of_ble_eq_true rfl⟩
noncomputable def l_X11_times_2 (x0 : Int32) (x1 : Int32) (σ1 : Mem) (i2 : Int32) : Option ((Mem × Int32) ⊕ Mem) :=
  (f_X11_n σ1).bind (fun (v3 : Int32) => if v3 ≤ i2 then (some (Sum.inr σ1)) else ((f_X11_of σ1 x1 i2).bind (fun (v4 : Int64) => (f_X11_timesLetter σ1 x0 i2 v4).bind (fun (σ5 : Mem) => some (Sum.inl (σ5, i2 + 1))))))
noncomputable def f_X11_times (σ : Mem) (x0 : Int32) (x1 : Int32) : Option Mem :=
  loopO (fun (z2 : (Mem × Int32)) => l_X11_times_2 x0 x1 z2.1 z2.2) (σ, 0)
theorem t_X11_times {w : Wd} (hw : WOK w) (hN : wn w = NT) {σ : Mem} {x0 : Int32} {x1 : Int32} : JO w mu_X11_times vV σ [(0, .ref (adr w 306)), (1, .int x0), (2, .int x1)] [] 0 (f_X11_times σ x0 x1) (fun z => some ((), z)) := by
  unfold f_X11_times
  refine jo_iconst (pc := 0) dX11_times_0 (ic_i_0) ?_
  refine jo_istore_n (pc := 1) (lv' := [(3, .int 0), (0, .ref (adr w 306)), (1, .int x0), (2, .int x1)]) dX11_times_1 rfl (ltb rfl) rfl ?_
  refine jo_lv (lv' := [(0, .ref (adr w 306)), (1, .int x0), (2, .int x1), (3, .int 0)]) [1, 2, 3, 0] rfl ?_
  refine jo_loop (X := Mem) (fun (z2 : (Mem × Int32)) => z2.1) (fun (z2 : (Mem × Int32)) => [(0, .ref (adr w 306)), (1, .int x0), (2, .int x1), (3, .int z2.2)]) (body := (fun (z2 : (Mem × Int32)) => l_X11_times_2 x0 x1 z2.1 z2.2)) (fun F2_2 hF2_2 s => ?_) (σ, 0)
  obtain ⟨σ1, i2⟩ := s
  show JO w mu_X11_times vV σ1 [(0, .ref (adr w 306)), (1, .int x0), (2, .int x1), (3, .int i2)] [] 2 (l_X11_times_2 x0 x1 σ1 i2) _
  unfold l_X11_times_2
  refine jo_iload_n (pc := 2) 3 rfl dX11_times_2 rfl ?_
  refine jo_aload_n (pc := 3) 0 rfl dX11_times_3 rfl ?_
  refine jo_cV_I_p (pc := 4) (μ' := mu_X11_n) (fx := f_X11_n σ1) (As := []) (c_X11_n hw hN) (ok_X11_n) (ltb rfl) (all3 gw_1441 gw_1443 gw_68) (ik_306 hw hN) (by decide) (q := (RX11, TX11, 39)) rfl rfl rfl rfl (Nat.le_of_ble_eq_true rfl) dX11_times_4 (fun v3 => ?_)
  refine jo_icmp_ge (pc := 7) dX11_times_7 (tgt := 28) rfl ?_ ?_
  · exact jo_return (pc := 28) rfl rfl dX11_times_28
  · refine jo_aload_n (pc := 10) 0 rfl dX11_times_10 rfl ?_
    refine jo_iload_n (pc := 11) 1 rfl dX11_times_11 rfl ?_
    refine jo_iload_n (pc := 12) 3 rfl dX11_times_12 rfl ?_
    refine jo_aload_n (pc := 13) 0 rfl dX11_times_13 rfl ?_
    refine jo_iload_n (pc := 14) 2 rfl dX11_times_14 rfl ?_
    refine jo_iload_n (pc := 15) 3 rfl dX11_times_15 rfl ?_
    refine jo_cV_J_p (pc := 16) (μ' := mu_X11_of) (fx := f_X11_of σ1 x1 i2) (As := [.int x1, .int i2]) (c_X11_of hw hN) (ok_X11_of) (ltb rfl) (all3 gw_1527 gw_1529 gw_87) (ik_306 hw hN) (by decide) (q := (RX11, TX11, 39)) rfl rfl rfl rfl (Nat.le_of_ble_eq_true rfl) dX11_times_16 (fun v4 => ?_)
    refine jo_cV_V_i (pc := 19) (μ' := mu_X11_timesLetter) (fx := f_X11_timesLetter σ1 x0 i2 v4) (As := [.int x0, .int i2, .long v4]) (c_X11_timesLetter hw hN) (ok_X11_timesLetter) (ltb rfl) (all3 gw_1531 gw_1533 gw_88) (ik_306 hw hN) (by decide) (q := (RX11, TX11, 39)) rfl rfl rfl rfl (Nat.le_of_ble_eq_true rfl) dX11_times_19 (fun σ5 => ?_)
    refine jo_iinc (pc := 22) (lv' := [(3, .int (i2 + 1)), (0, .ref (adr w 306)), (1, .int x0), (2, .int x1)]) 3 rfl dX11_times_22 (congrArg (fun z => i2 + z) (ic_i_1)) (ltb rfl) rfl ?_
    refine jo_goto (pc := 25) dX11_times_25 (tgt := 2) rfl ?_
    refine jo_lv (lv' := [(0, .ref (adr w 306)), (1, .int x0), (2, .int x1), (3, .int (i2 + 1))]) [1, 2, 3, 0] rfl ?_
    exact jo_leaf (by rfl) (hF2_2 (σ5, i2 + 1))
theorem c_X11_times {w : Wd} (hw : WOK w) (hN : wn w = NT) {σ : Mem} {x0 : Int32} {x1 : Int32} : ∀ σ', f_X11_times σ x0 x1 = some σ' → MC w mu_X11_times none [.ref (adr w 306), .int x0, .int x1] σ σ' := mc_ofV ok_X11_times rfl (Nat.le_of_ble_eq_true rfl) (t_X11_times hw hN)
abbrev mu_X11_choose : MD := (yX11_choose, cX11_choose, 6, some .long, 0)
theorem ok_X11_choose : MOK mu_X11_choose 2 := ⟨gw_1551, gw_171, (by decide +kernel : plainFor yX11_choose = true), ⟨(by decide +kernel : yX11_choose.cls ≠ "java/lang/invoke/MethodHandle"), (by decide +kernel : yX11_choose.cls ≠ "java/lang/invoke/VarHandle"), (by decide +kernel : (parseMethodDescriptor yX11_choose.desc).map (fun d => d.parameters.length) = some 2)⟩, Nat.le_of_ble_eq_true rfl⟩
noncomputable def l_X11_choose_5 (x0 : Int32) (x1 : Int32) (l1 : Int64) (i2 : Int32) : Option ((Int64 × Int32) ⊕ Int64) :=
  if x1 ≤ i2 then (some (Sum.inr l1)) else (nzL (Int32.toInt64 (i2 + 1)) (bd ((l1 * (Int32.toInt64 (x0 - i2))) / (Int32.toInt64 (i2 + 1))) (fun (v3 : Int64) => some (Sum.inl (v3, i2 + 1)))))
noncomputable def f_X11_choose (σ : Mem) (x0 : Int32) (x1 : Int32) : Option Int64 :=
  loopO (fun (z2 : (Int64 × Int32)) => l_X11_choose_5 x0 x1 z2.1 z2.2) (1, 0)
theorem t_X11_choose {w : Wd} (hw : WOK w) (hN : wn w = NT) {σ : Mem} {x0 : Int32} {x1 : Int32} : JO w mu_X11_choose vL σ [(0, .ref (adr w 306)), (1, .int x0), (2, .int x1)] [] 0 (f_X11_choose σ x0 x1) (fun z => some (z, σ)) := by
  unfold f_X11_choose
  refine jo_lconst (pc := 0) dX11_choose_0 (ic_l_1) ?_
  refine jo_lstore_n (pc := 1) (lv' := [(3, .long 1), (0, .ref (adr w 306)), (1, .int x0), (2, .int x1)]) dX11_choose_1 rfl (ltb rfl) rfl ?_
  refine jo_iconst (pc := 2) dX11_choose_2 (ic_i_0) ?_
  refine jo_istore (pc := 3) (lv' := [(5, .int 0), (3, .long 1), (0, .ref (adr w 306)), (1, .int x0), (2, .int x1)]) dX11_choose_3 (ltb rfl) rfl ?_
  refine jo_lv (lv' := [(1, .int x0), (2, .int x1), (3, .long 1), (5, .int 0)]) [3, 4, 1, 0] rfl ?_
  refine jo_loop (X := Int64) (fun (z2 : (Int64 × Int32)) => σ) (fun (z2 : (Int64 × Int32)) => [(1, .int x0), (2, .int x1), (3, .long z2.1), (5, .int z2.2)]) (body := (fun (z2 : (Int64 × Int32)) => l_X11_choose_5 x0 x1 z2.1 z2.2)) (fun F5_2 hF5_2 s => ?_) (1, 0)
  obtain ⟨l1, i2⟩ := s
  show JO w mu_X11_choose vL σ [(1, .int x0), (2, .int x1), (3, .long l1), (5, .int i2)] [] 5 (l_X11_choose_5 x0 x1 l1 i2) _
  unfold l_X11_choose_5
  refine jo_iload (pc := 5) 3 rfl dX11_choose_5 ?_
  refine jo_iload_n (pc := 7) 1 rfl dX11_choose_7 rfl ?_
  refine jo_icmp_ge (pc := 8) dX11_choose_8 (tgt := 31) rfl ?_ ?_
  · refine jo_lload_n (pc := 31) 2 rfl dX11_choose_31 rfl ?_
    exact jo_lreturn (pc := 32) rfl rfl dX11_choose_32
  · refine jo_lload_n (pc := 11) 2 rfl dX11_choose_11 rfl ?_
    refine jo_iload_n (pc := 12) 0 rfl dX11_choose_12 rfl ?_
    refine jo_iload (pc := 13) 3 rfl dX11_choose_13 ?_
    refine jo_isub (pc := 15) dX11_choose_15 ?_
    refine jo_i2l (pc := 16) dX11_choose_16 ?_
    refine jo_lmul (pc := 17) dX11_choose_17 ?_
    refine jo_iload (pc := 18) 3 rfl dX11_choose_18 ?_
    refine jo_iconst (pc := 20) dX11_choose_20 (ic_i_1) ?_
    refine jo_iadd (pc := 21) dX11_choose_21 ?_
    refine jo_i2l (pc := 22) dX11_choose_22 ?_
    refine jo_ldiv (pc := 23) dX11_choose_23 ?_
    refine jo_bd ?_
    refine jo_lstore_n (pc := 24) (lv' := [(3, .long ((l1 * (Int32.toInt64 (x0 - i2))) / (Int32.toInt64 (i2 + 1)))), (1, .int x0), (2, .int x1), (5, .int i2)]) dX11_choose_24 rfl (ltb rfl) rfl ?_
    generalize ((l1 * (Int32.toInt64 (x0 - i2))) / (Int32.toInt64 (i2 + 1))) = v3
    refine jo_iinc (pc := 25) (lv' := [(5, .int (i2 + 1)), (3, .long v3), (1, .int x0), (2, .int x1)]) 3 rfl dX11_choose_25 (congrArg (fun z => i2 + z) (ic_i_1)) (ltb rfl) rfl ?_
    refine jo_goto (pc := 28) dX11_choose_28 (tgt := 5) rfl ?_
    refine jo_lv (lv' := [(1, .int x0), (2, .int x1), (3, .long v3), (5, .int (i2 + 1))]) [2, 3, 1, 0] rfl ?_
    exact jo_leaf (by rfl) (hF5_2 (v3, i2 + 1))
theorem c_X11_choose {w : Wd} (hw : WOK w) (hN : wn w = NT) {σ : Mem} {x0 : Int32} {x1 : Int32} : ∀ r, f_X11_choose σ x0 x1 = some r → MC w mu_X11_choose (vL r) [.ref (adr w 306), .int x0, .int x1] σ σ := mc_ofP ok_X11_choose rfl (Nat.le_of_ble_eq_true rfl) (t_X11_choose hw hN)
abbrev mu_X11_difference (d : Nat) : MD := (yX11_difference, cX11_difference, 9, some .long, 4 + d)
theorem ok_X11_difference (d : Nat) : MOK (mu_X11_difference d) 3 := ⟨gw_1518, gw_171, (by decide +kernel : plainFor yX11_difference = true), ⟨(by decide +kernel : yX11_difference.cls ≠ "java/lang/invoke/MethodHandle"), (by decide +kernel : yX11_difference.cls ≠ "java/lang/invoke/VarHandle"), (by decide +kernel : (parseMethodDescriptor yX11_difference.desc).map (fun d => d.parameters.length) = some 3)⟩, Nat.le_of_ble_eq_true rfl⟩
noncomputable def j_X11_difference_170 (rec : Mem → Int32 → Int32 → Int64 → Option (Int64 × Mem)) (x0 : Int32) (x1 : Int32) (x2 : Int64) (l4 : Int64) (i5 : Int32) (σ6 : Mem) (v7 : Int64) (l8 : Int64) : Option ((Mem × Int64 × Int32) ⊕ (Int64 × Mem)) :=
  bq (rec σ6 x0 (x1 + 1) ((x2 * v7) * l8)) (fun (v9 : Int64) (σ10 : Mem) => bd (l4 + v9) (fun (v11 : Int64) => some (Sum.inl (σ10, v11, i5 + 1))))
noncomputable def l_X11_difference_121 (rec : Mem → Int32 → Int32 → Int64 → Option (Int64 × Mem)) (x0 : Int32) (x1 : Int32) (x2 : Int64) (v2 : Int32) (σ3 : Mem) (l4 : Int64) (i5 : Int32) : Option ((Mem × Int64 × Int32) ⊕ (Int64 × Mem)) :=
  if v2 < i5 then (some (Sum.inr (l4, σ3))) else (pI σ3 316 x1 i5 (fun (σ6 : Mem) => (f_X11_choose σ6 v2 i5).bind (fun (v7 : Int64) => nzI 2 ((if ((v2 - i5) - (v2 - i5) / 2 * 2) = 0 then (some 1) else (some (-1)) : Option Int64).bind (fun (z8 : Int64) => j_X11_difference_170 rec x0 x1 x2 l4 i5 σ6 v7 z8)))))
noncomputable def j_X11_difference_89 (rec : Mem → Int32 → Int32 → Int64 → Option (Int64 × Mem)) (x0 : Int32) (x2 : Int64) (σ12 : Mem) : Option (Int64 × Mem) :=
  (f_X11_times σ12 90 91).bind (fun (σ13 : Mem) => (f_X11_of σ13 90 x0).bind (fun (v14 : Int64) => some (x2 * v14, σ13)))
noncomputable def j_X11_difference_80 (rec : Mem → Int32 → Int32 → Int64 → Option (Int64 × Mem)) (i16 : Int32) (σ19 : Mem) (l21 : Int64) : Option ((Mem × Int32) ⊕ Mem) :=
  (f_X11_puts σ19 91 i16 l21).bind (fun (σ22 : Mem) => some (Sum.inl (σ22, i16 + 1)))
noncomputable def j_X11_difference_46 (rec : Mem → Int32 → Int32 → Int64 → Option (Int64 × Mem)) (σ15 : Mem) (i16 : Int32) (l18 : Int64) : Option ((Mem × Int32) ⊕ Mem) :=
  (f_X11_puts σ15 90 i16 l18).bind (fun (σ19 : Mem) => (f_X11_n σ19).bind (fun (v20 : Int32) => (if v20 ≤ i16 then (some 0) else ((f_X11_n σ19).bind (fun (v23 : Int32) => gI σ19 316 (v23 + i16) (fun (v24 : Int32) => some (Int32.toInt64 v24)))) : Option Int64).bind (fun (z21 : Int64) => j_X11_difference_80 rec i16 σ19 z21)))
noncomputable def l_X11_difference_13 (rec : Mem → Int32 → Int32 → Int64 → Option (Int64 × Mem)) (σ15 : Mem) (i16 : Int32) : Option ((Mem × Int32) ⊕ Mem) :=
  if 6 ≤ i16 then (some (Sum.inr σ15)) else ((f_X11_n σ15).bind (fun (v17 : Int32) => (if v17 ≤ i16 then (some 0) else (gI σ15 316 i16 (fun (v25 : Int32) => some (Int32.toInt64 v25))) : Option Int64).bind (fun (z18 : Int64) => j_X11_difference_46 rec σ15 i16 z18)))
noncomputable def o_X11_difference (rec : Mem → Int32 → Int32 → Int64 → Option (Int64 × Mem)) (σ : Mem) (x0 : Int32) (x1 : Int32) (x2 : Int64) : Option (Int64 × Mem) :=
  (f_X11_n σ).bind (fun (v1 : Int32) => if x1 = (2 * v1) then ((loopO (fun (z16 : (Mem × Int32)) => l_X11_difference_13 rec z16.1 z16.2) (σ, 0) : Option Mem).bind (fun (z12 : Mem) => j_X11_difference_89 rec x0 x2 z12)) else (gI σ 315 x1 (fun (v2 : Int32) => loopO (fun (z5 : (Mem × Int64 × Int32)) => l_X11_difference_121 rec x0 x1 x2 v2 z5.1 z5.2.1 z5.2.2) (σ, 0, 0))))
theorem t_X11_difference {w : Wd} (hw : WOK w) (hN : wn w = NT) {d : Nat} {rec : Mem → Int32 → Int32 → Int64 → Option (Int64 × Mem)} (hrec : ∀ {τ0 : Mem} {y0 : Int32} {y1 : Int32} {y2 : Int64}, ∀ r τ, rec τ0 y0 y1 y2 = some (r, τ) → MC w (mu_X11_difference d) (vL r) [.ref (adr w 306), .int y0, .int y1, .long y2] τ0 τ) {σ : Mem} {x0 : Int32} {x1 : Int32} {x2 : Int64} : JO w (mu_X11_difference (d + 1)) vL σ [(0, .ref (adr w 306)), (1, .int x0), (2, .int x1), (3, .long x2)] [] 0 (o_X11_difference rec σ x0 x1 x2) some := by
  unfold o_X11_difference
  refine jo_iload_n (pc := 0) 2 rfl dX11_difference_0 rfl ?_
  refine jo_iconst (pc := 1) dX11_difference_1 (ic_i_2) ?_
  refine jo_aload_n (pc := 2) 0 rfl dX11_difference_2 rfl ?_
  refine jo_cV_I_p (pc := 3) (μ' := mu_X11_n) (fx := f_X11_n σ) (As := []) (c_X11_n hw hN) (ok_X11_n) (by simp only [mu_X11_difference, mu_X11_n]; omega) (all3 gw_1441 gw_1443 gw_68) (ik_306 hw hN) (by decide) (q := (RX11, TX11, 39)) rfl rfl rfl rfl (Nat.le_of_ble_eq_true rfl) dX11_difference_3 (fun v1 => ?_)
  refine jo_imul (pc := 6) dX11_difference_6 ?_
  refine jo_icmp_ne (pc := 7) dX11_difference_7 (tgt := 107) rfl ?_ ?_
  · refine jo_lconst (pc := 107) dX11_difference_107 (ic_l_0) ?_
    refine jo_lstore (pc := 108) (lv' := [(5, .long 0), (0, .ref (adr w 306)), (1, .int x0), (2, .int x1), (3, .long x2)]) dX11_difference_108 (ltb rfl) rfl ?_
    refine jo_aload_n (pc := 110) 1 rfl dX11_difference_110 rfl ?_
    refine jo_getrE (pc := 111) ok_11_15 (ik_306 hw hN) rf_306_15 gw_1308 dX11_difference_111 ?_
    refine jo_iload_n (pc := 114) 3 rfl dX11_difference_114 rfl ?_
    refine jo_iald (pc := 115) (ik_315 hw hN) dX11_difference_115 (fun v2 => ?_)
    refine jo_istore (pc := 116) (lv' := [(7, .int v2), (5, .long 0), (0, .ref (adr w 306)), (1, .int x0), (2, .int x1), (3, .long x2)]) dX11_difference_116 (ltb rfl) rfl ?_
    refine jo_iconst (pc := 118) dX11_difference_118 (ic_i_0) ?_
    refine jo_istore (pc := 119) (lv' := [(8, .int 0), (7, .int v2), (5, .long 0), (0, .ref (adr w 306)), (1, .int x0), (2, .int x1), (3, .long x2)]) dX11_difference_119 (ltb rfl) rfl ?_
    refine jo_lv (lv' := [(7, .int v2), (0, .ref (adr w 306)), (1, .int x0), (2, .int x1), (3, .long x2), (5, .long 0), (8, .int 0)]) [1, 3, 4, 5, 6, 2, 0] rfl ?_
    refine jo_loop (X := (Int64 × Mem)) (fun (z5 : (Mem × Int64 × Int32)) => z5.1) (fun (z5 : (Mem × Int64 × Int32)) => [(7, .int v2), (0, .ref (adr w 306)), (1, .int x0), (2, .int x1), (3, .long x2), (5, .long z5.2.1), (8, .int z5.2.2)]) (body := (fun (z5 : (Mem × Int64 × Int32)) => l_X11_difference_121 rec x0 x1 x2 v2 z5.1 z5.2.1 z5.2.2)) (fun F121_5 hF121_5 s => ?_) (σ, 0, 0)
    obtain ⟨σ3, l4, i5⟩ := s
    show JO w (mu_X11_difference (d + 1)) vL σ3 [(7, .int v2), (0, .ref (adr w 306)), (1, .int x0), (2, .int x1), (3, .long x2), (5, .long l4), (8, .int i5)] [] 121 (l_X11_difference_121 rec x0 x1 x2 v2 σ3 l4 i5) _
    unfold l_X11_difference_121
    refine jo_iload (pc := 121) 6 rfl dX11_difference_121 ?_
    refine jo_iload (pc := 123) 0 rfl dX11_difference_123 ?_
    refine jo_icmp_gt (pc := 125) dX11_difference_125 (tgt := 183) rfl ?_ ?_
    · refine jo_lload (pc := 183) 5 rfl dX11_difference_183 ?_
      exact jo_lreturn (pc := 185) rfl rfl dX11_difference_185
    · refine jo_aload_n (pc := 128) 1 rfl dX11_difference_128 rfl ?_
      refine jo_getrE (pc := 129) ok_11_16 (ik_306 hw hN) rf_306_16 gw_1309 dX11_difference_129 ?_
      refine jo_iload_n (pc := 132) 3 rfl dX11_difference_132 rfl ?_
      refine jo_iload (pc := 133) 6 rfl dX11_difference_133 ?_
      refine jo_iast (pc := 135) (ik_316 hw hN) dX11_difference_135 (fun σ6 => ?_)
      refine jo_lload (pc := 136) 5 rfl dX11_difference_136 ?_
      refine jo_aload_n (pc := 138) 1 rfl dX11_difference_138 rfl ?_
      refine jo_iload_n (pc := 139) 2 rfl dX11_difference_139 rfl ?_
      refine jo_iload_n (pc := 140) 3 rfl dX11_difference_140 rfl ?_
      refine jo_iconst (pc := 141) dX11_difference_141 (ic_i_1) ?_
      refine jo_iadd (pc := 142) dX11_difference_142 ?_
      refine jo_lload_n (pc := 143) 4 rfl dX11_difference_143 rfl ?_
      refine jo_aload_n (pc := 144) 1 rfl dX11_difference_144 rfl ?_
      refine jo_iload (pc := 145) 0 rfl dX11_difference_145 ?_
      refine jo_iload (pc := 147) 6 rfl dX11_difference_147 ?_
      refine jo_cV_J_p (pc := 149) (μ' := mu_X11_choose) (fx := f_X11_choose σ6 v2 i5) (As := [.int v2, .int i5]) (c_X11_choose hw hN) (ok_X11_choose) (by simp only [mu_X11_difference, mu_X11_choose]; omega) (all3 gw_1548 gw_1550 gw_92) (ik_306 hw hN) (by decide) (q := (RX11, TX11, 39)) rfl rfl rfl rfl (Nat.le_of_ble_eq_true rfl) dX11_difference_149 (fun v7 => ?_)
      refine jo_lmul (pc := 152) dX11_difference_152 ?_
      refine jo_iload (pc := 153) 0 rfl dX11_difference_153 ?_
      refine jo_iload (pc := 155) 6 rfl dX11_difference_155 ?_
      refine jo_isub (pc := 157) dX11_difference_157 ?_
      refine jo_iconst (pc := 158) dX11_difference_158 (ic_i_2) ?_
      refine jo_irem (pc := 159) dX11_difference_159 ?_
      refine jo_join1 (S := Int64) (fun (z8 : Int64) => σ6) (fun (z8 : Int64) => [(7, .int v2), (0, .ref (adr w 306)), (1, .int x0), (2, .int x1), (3, .long x2), (8, .int i5)]) (fun (z8 : Int64) => [.long z8, .long (x2 * v7), .int (x1 + 1), .int x0, .ref (adr w 306), .long l4]) 170 ?_ (fun h170_8 => ?_)
      · intro l8
        show JO w (mu_X11_difference (d + 1)) vL σ6 [(7, .int v2), (0, .ref (adr w 306)), (1, .int x0), (2, .int x1), (3, .long x2), (8, .int i5)] [.long l8, .long (x2 * v7), .int (x1 + 1), .int x0, .ref (adr w 306), .long l4] 170 (j_X11_difference_170 rec x0 x1 x2 l4 i5 σ6 v7 l8) _
        unfold j_X11_difference_170
        refine jo_lmul (pc := 170) dX11_difference_170 ?_
        refine jo_cV_J_i (pc := 171) (μ' := (mu_X11_difference d)) (fx := rec σ6 x0 (x1 + 1) ((x2 * v7) * l8)) (As := [.int x0, .int (x1 + 1), .long ((x2 * v7) * l8)]) (hrec) (ok_X11_difference _) (by simp only [mu_X11_difference, mu_X11_difference]; omega) (all3 gw_1515 gw_1517 gw_84) (ik_306 hw hN) (by decide) (q := (RX11, TX11, 39)) rfl rfl rfl rfl (Nat.le_of_ble_eq_true rfl) dX11_difference_171 (fun v9 σ10 => ?_)
        refine jo_ladd (pc := 174) dX11_difference_174 ?_
        refine jo_bd ?_
        refine jo_lstore (pc := 175) (lv' := [(5, .long (l4 + v9)), (7, .int v2), (0, .ref (adr w 306)), (1, .int x0), (2, .int x1), (3, .long x2), (8, .int i5)]) dX11_difference_175 (ltb rfl) rfl ?_
        generalize (l4 + v9) = v11
        refine jo_iinc (pc := 177) (lv' := [(8, .int (i5 + 1)), (5, .long v11), (7, .int v2), (0, .ref (adr w 306)), (1, .int x0), (2, .int x1), (3, .long x2)]) 6 rfl dX11_difference_177 (congrArg (fun z => i5 + z) (ic_i_1)) (ltb rfl) rfl ?_
        refine jo_goto (pc := 180) dX11_difference_180 (tgt := 121) rfl ?_
        refine jo_lv (lv' := [(7, .int v2), (0, .ref (adr w 306)), (1, .int x0), (2, .int x1), (3, .long x2), (5, .long v11), (8, .int (i5 + 1))]) [2, 3, 4, 5, 6, 1, 0] rfl ?_
        exact jo_leaf (by rfl) (hF121_5 (σ10, v11, i5 + 1))
      · refine jo_if_ne (pc := 160) dX11_difference_160 (tgt := 167) rfl ?_ ?_
        · refine jo_ldc2 (pc := 167) dX11_difference_167 gw_1552 ?_
          refine jo_lv (lv' := [(7, .int v2), (0, .ref (adr w 306)), (1, .int x0), (2, .int x1), (3, .long x2), (8, .int i5)]) [0, 1, 2, 3, 4, 6] rfl ?_
          exact jo_leaf (by rfl) (h170_8 (-1))
        · refine jo_lconst (pc := 163) dX11_difference_163 (ic_l_1) ?_
          refine jo_goto (pc := 164) dX11_difference_164 (tgt := 170) rfl ?_
          refine jo_lv (lv' := [(7, .int v2), (0, .ref (adr w 306)), (1, .int x0), (2, .int x1), (3, .long x2), (8, .int i5)]) [0, 1, 2, 3, 4, 6] rfl ?_
          exact jo_leaf (by rfl) (h170_8 1)
  · refine jo_iconst (pc := 10) dX11_difference_10 (ic_i_0) ?_
    refine jo_istore (pc := 11) (lv' := [(5, .int 0), (0, .ref (adr w 306)), (1, .int x0), (2, .int x1), (3, .long x2)]) dX11_difference_11 (ltb rfl) rfl ?_
    refine jo_join1 (S := Mem) (fun (z12 : Mem) => z12) (fun (z12 : Mem) => [(0, .ref (adr w 306)), (1, .int x0), (3, .long x2)]) (fun (z12 : Mem) => []) 89 ?_ (fun h89_12 => ?_)
    · intro σ12
      show JO w (mu_X11_difference (d + 1)) vL σ12 [(0, .ref (adr w 306)), (1, .int x0), (3, .long x2)] [] 89 (j_X11_difference_89 rec x0 x2 σ12) _
      unfold j_X11_difference_89
      refine jo_aload_n (pc := 89) 0 rfl dX11_difference_89 rfl ?_
      refine jo_bipush (pc := 90) dX11_difference_90 (ic_b_90) ?_
      refine jo_bipush (pc := 92) dX11_difference_92 (ic_b_91) ?_
      refine jo_cV_V_i (pc := 94) (μ' := mu_X11_times) (fx := f_X11_times σ12 90 91) (As := [.int 90, .int 91]) (c_X11_times hw hN) (ok_X11_times) (by simp only [mu_X11_difference, mu_X11_times]; omega) (all3 gw_1523 gw_1525 gw_86) (ik_306 hw hN) (by decide) (q := (RX11, TX11, 39)) rfl rfl rfl rfl (Nat.le_of_ble_eq_true rfl) dX11_difference_94 (fun σ13 => ?_)
      refine jo_lload_n (pc := 97) 2 rfl dX11_difference_97 rfl ?_
      refine jo_aload_n (pc := 98) 0 rfl dX11_difference_98 rfl ?_
      refine jo_bipush (pc := 99) dX11_difference_99 (ic_b_90) ?_
      refine jo_iload_n (pc := 101) 1 rfl dX11_difference_101 rfl ?_
      refine jo_cV_J_p (pc := 102) (μ' := mu_X11_of) (fx := f_X11_of σ13 90 x0) (As := [.int 90, .int x0]) (c_X11_of hw hN) (ok_X11_of) (by simp only [mu_X11_difference, mu_X11_of]; omega) (all3 gw_1527 gw_1529 gw_87) (ik_306 hw hN) (by decide) (q := (RX11, TX11, 39)) rfl rfl rfl rfl (Nat.le_of_ble_eq_true rfl) dX11_difference_102 (fun v14 => ?_)
      refine jo_lmul (pc := 105) dX11_difference_105 ?_
      exact jo_lreturn (pc := 106) rfl rfl dX11_difference_106
    · refine jo_lv (lv' := [(0, .ref (adr w 306)), (1, .int x0), (3, .long x2), (5, .int 0)]) [1, 2, 4, 0] rfl ?_
      refine jo_loop (X := Mem) (fun (z16 : (Mem × Int32)) => z16.1) (fun (z16 : (Mem × Int32)) => [(0, .ref (adr w 306)), (1, .int x0), (3, .long x2), (5, .int z16.2)]) (body := (fun (z16 : (Mem × Int32)) => l_X11_difference_13 rec z16.1 z16.2)) (fun F13_16 hF13_16 s => ?_) (σ, 0)
      obtain ⟨σ15, i16⟩ := s
      show JO w (mu_X11_difference (d + 1)) vL σ15 [(0, .ref (adr w 306)), (1, .int x0), (3, .long x2), (5, .int i16)] [] 13 (l_X11_difference_13 rec σ15 i16) _
      unfold l_X11_difference_13
      refine jo_iload (pc := 13) 3 rfl dX11_difference_13 ?_
      refine jo_bipush (pc := 15) dX11_difference_15 (ic_b_6) ?_
      refine jo_icmp_ge (pc := 17) dX11_difference_17 (tgt := 89) rfl ?_ ?_
      · refine jo_lv (lv' := [(0, .ref (adr w 306)), (1, .int x0), (3, .long x2)]) [0, 1, 2] rfl ?_
        exact jo_leaf (by rfl) (h89_12 σ15)
      · refine jo_aload_n (pc := 20) 0 rfl dX11_difference_20 rfl ?_
        refine jo_bipush (pc := 21) dX11_difference_21 (ic_b_90) ?_
        refine jo_iload (pc := 23) 3 rfl dX11_difference_23 ?_
        refine jo_iload (pc := 25) 3 rfl dX11_difference_25 ?_
        refine jo_aload_n (pc := 27) 0 rfl dX11_difference_27 rfl ?_
        refine jo_cV_I_p (pc := 28) (μ' := mu_X11_n) (fx := f_X11_n σ15) (As := []) (c_X11_n hw hN) (ok_X11_n) (by simp only [mu_X11_difference, mu_X11_n]; omega) (all3 gw_1441 gw_1443 gw_68) (ik_306 hw hN) (by decide) (q := (RX11, TX11, 39)) rfl rfl rfl rfl (Nat.le_of_ble_eq_true rfl) dX11_difference_28 (fun v17 => ?_)
        refine jo_join1 (S := Int64) (fun (z18 : Int64) => σ15) (fun (z18 : Int64) => [(0, .ref (adr w 306)), (1, .int x0), (3, .long x2), (5, .int i16)]) (fun (z18 : Int64) => [.long z18, .int i16, .int 90, .ref (adr w 306)]) 46 ?_ (fun h46_18 => ?_)
        · intro l18
          show JO w (mu_X11_difference (d + 1)) vL σ15 [(0, .ref (adr w 306)), (1, .int x0), (3, .long x2), (5, .int i16)] [.long l18, .int i16, .int 90, .ref (adr w 306)] 46 (j_X11_difference_46 rec σ15 i16 l18) _
          unfold j_X11_difference_46
          refine jo_cV_V_i (pc := 46) (μ' := mu_X11_puts) (fx := f_X11_puts σ15 90 i16 l18) (As := [.int 90, .int i16, .long l18]) (c_X11_puts hw hN) (ok_X11_puts) (by simp only [mu_X11_difference, mu_X11_puts]; omega) (all3 gw_1519 gw_1521 gw_85) (ik_306 hw hN) (by decide) (q := (RX11, TX11, 39)) rfl rfl rfl rfl (Nat.le_of_ble_eq_true rfl) dX11_difference_46 (fun σ19 => ?_)
          refine jo_aload_n (pc := 49) 0 rfl dX11_difference_49 rfl ?_
          refine jo_bipush (pc := 50) dX11_difference_50 (ic_b_91) ?_
          refine jo_iload (pc := 52) 3 rfl dX11_difference_52 ?_
          refine jo_iload (pc := 54) 3 rfl dX11_difference_54 ?_
          refine jo_aload_n (pc := 56) 0 rfl dX11_difference_56 rfl ?_
          refine jo_cV_I_p (pc := 57) (μ' := mu_X11_n) (fx := f_X11_n σ19) (As := []) (c_X11_n hw hN) (ok_X11_n) (by simp only [mu_X11_difference, mu_X11_n]; omega) (all3 gw_1441 gw_1443 gw_68) (ik_306 hw hN) (by decide) (q := (RX11, TX11, 39)) rfl rfl rfl rfl (Nat.le_of_ble_eq_true rfl) dX11_difference_57 (fun v20 => ?_)
          refine jo_join1 (S := Int64) (fun (z21 : Int64) => σ19) (fun (z21 : Int64) => [(0, .ref (adr w 306)), (1, .int x0), (3, .long x2), (5, .int i16)]) (fun (z21 : Int64) => [.long z21, .int i16, .int 91, .ref (adr w 306)]) 80 ?_ (fun h80_21 => ?_)
          · intro l21
            show JO w (mu_X11_difference (d + 1)) vL σ19 [(0, .ref (adr w 306)), (1, .int x0), (3, .long x2), (5, .int i16)] [.long l21, .int i16, .int 91, .ref (adr w 306)] 80 (j_X11_difference_80 rec i16 σ19 l21) _
            unfold j_X11_difference_80
            refine jo_cV_V_i (pc := 80) (μ' := mu_X11_puts) (fx := f_X11_puts σ19 91 i16 l21) (As := [.int 91, .int i16, .long l21]) (c_X11_puts hw hN) (ok_X11_puts) (by simp only [mu_X11_difference, mu_X11_puts]; omega) (all3 gw_1519 gw_1521 gw_85) (ik_306 hw hN) (by decide) (q := (RX11, TX11, 39)) rfl rfl rfl rfl (Nat.le_of_ble_eq_true rfl) dX11_difference_80 (fun σ22 => ?_)
            refine jo_iinc (pc := 83) (lv' := [(5, .int (i16 + 1)), (0, .ref (adr w 306)), (1, .int x0), (3, .long x2)]) 3 rfl dX11_difference_83 (congrArg (fun z => i16 + z) (ic_i_1)) (ltb rfl) rfl ?_
            refine jo_goto (pc := 86) dX11_difference_86 (tgt := 13) rfl ?_
            refine jo_lv (lv' := [(0, .ref (adr w 306)), (1, .int x0), (3, .long x2), (5, .int (i16 + 1))]) [1, 2, 3, 0] rfl ?_
            exact jo_leaf (by rfl) (hF13_16 (σ22, i16 + 1))
          · refine jo_icmp_ge (pc := 60) dX11_difference_60 (tgt := 79) rfl ?_ ?_
            · refine jo_lconst (pc := 79) dX11_difference_79 (ic_l_0) ?_
              exact jo_leaf (by rfl) (h80_21 0)
            · refine jo_aload_n (pc := 63) 0 rfl dX11_difference_63 rfl ?_
              refine jo_getrE (pc := 64) ok_11_16 (ik_306 hw hN) rf_306_16 gw_1309 dX11_difference_64 ?_
              refine jo_aload_n (pc := 67) 0 rfl dX11_difference_67 rfl ?_
              refine jo_cV_I_p (pc := 68) (μ' := mu_X11_n) (fx := f_X11_n σ19) (As := []) (c_X11_n hw hN) (ok_X11_n) (by simp only [mu_X11_difference, mu_X11_n]; omega) (all3 gw_1441 gw_1443 gw_68) (ik_306 hw hN) (by decide) (q := (RX11, TX11, 39)) rfl rfl rfl rfl (Nat.le_of_ble_eq_true rfl) dX11_difference_68 (fun v23 => ?_)
              refine jo_iload (pc := 71) 3 rfl dX11_difference_71 ?_
              refine jo_iadd (pc := 73) dX11_difference_73 ?_
              refine jo_iald (pc := 74) (ik_316 hw hN) dX11_difference_74 (fun v24 => ?_)
              refine jo_i2l (pc := 75) dX11_difference_75 ?_
              refine jo_goto (pc := 76) dX11_difference_76 (tgt := 80) rfl ?_
              exact jo_leaf (by rfl) (h80_21 (Int32.toInt64 v24))
        · refine jo_icmp_ge (pc := 31) dX11_difference_31 (tgt := 45) rfl ?_ ?_
          · refine jo_lconst (pc := 45) dX11_difference_45 (ic_l_0) ?_
            exact jo_leaf (by rfl) (h46_18 0)
          · refine jo_aload_n (pc := 34) 0 rfl dX11_difference_34 rfl ?_
            refine jo_getrE (pc := 35) ok_11_16 (ik_306 hw hN) rf_306_16 gw_1309 dX11_difference_35 ?_
            refine jo_iload (pc := 38) 3 rfl dX11_difference_38 ?_
            refine jo_iald (pc := 40) (ik_316 hw hN) dX11_difference_40 (fun v25 => ?_)
            refine jo_i2l (pc := 41) dX11_difference_41 ?_
            refine jo_goto (pc := 42) dX11_difference_42 (tgt := 46) rfl ?_
            exact jo_leaf (by rfl) (h46_18 (Int32.toInt64 v25))
theorem co_X11_difference {w : Wd} (hw : WOK w) (hN : wn w = NT) {d : Nat} {rec : Mem → Int32 → Int32 → Int64 → Option (Int64 × Mem)} (hrec : ∀ {τ0 : Mem} {y0 : Int32} {y1 : Int32} {y2 : Int64}, ∀ r τ, rec τ0 y0 y1 y2 = some (r, τ) → MC w (mu_X11_difference d) (vL r) [.ref (adr w 306), .int y0, .int y1, .long y2] τ0 τ) {σ : Mem} {x0 : Int32} {x1 : Int32} {x2 : Int64} : ∀ r σ', o_X11_difference rec σ x0 x1 x2 = some (r, σ') → MC w (mu_X11_difference (d + 1)) (vL r) [.ref (adr w 306), .int x0, .int x1, .long x2] σ σ' := mc_of (ok_X11_difference _) rfl (Nat.le_of_ble_eq_true rfl) (t_X11_difference hw hN hrec)
noncomputable def f_X11_difference : Nat → Mem → Int32 → Int32 → Int64 → Option (Int64 × Mem)
  | 0 => fun _ _ _ _ => none
  | n + 1 => fun σ x0 x1 x2 => o_X11_difference (f_X11_difference n) σ x0 x1 x2
theorem c_X11_difference (n : Nat) {w : Wd} (hw : WOK w) (hN : wn w = NT) {σ : Mem} {x0 : Int32} {x1 : Int32} {x2 : Int64} : ∀ r σ', f_X11_difference n σ x0 x1 x2 = some (r, σ') → MC w (mu_X11_difference (1 * n)) (vL r) [.ref (adr w 306), .int x0, .int x1, .long x2] σ σ' := by
  induction n generalizing σ x0 x1 x2 with
  | zero => intro r σ' h; cases h
  | succ n ih => exact co_X11_difference hw hN (rec := f_X11_difference n) (d := 1 * n) ih
abbrev mu_X11_weightOf : MD := (yX11_weightOf, cX11_weightOf, 2, some .int, 1)
theorem ok_X11_weightOf : MOK mu_X11_weightOf 1 := ⟨gw_1556, gw_171, (by decide +kernel : plainFor yX11_weightOf = true), ⟨(by decide +kernel : yX11_weightOf.cls ≠ "java/lang/invoke/MethodHandle"), (by decide +kernel : yX11_weightOf.cls ≠ "java/lang/invoke/VarHandle"), (by decide +kernel : (parseMethodDescriptor yX11_weightOf.desc).map (fun d => d.parameters.length) = some 1)⟩, Nat.le_of_ble_eq_true rfl⟩
noncomputable def f_X11_weightOf (σ : Mem) (x0 : Int32) : Option Int32 :=
  (f_X11_n σ).bind (fun (v1 : Int32) => nzI v1 ((f_X11_weight σ (x0 - x0 / v1 * v1)).bind (fun (v2 : Int32) => some v2)))
theorem t_X11_weightOf {w : Wd} (hw : WOK w) (hN : wn w = NT) {σ : Mem} {x0 : Int32} : JO w mu_X11_weightOf vI σ [(0, .ref (adr w 306)), (1, .int x0)] [] 0 (f_X11_weightOf σ x0) (fun z => some (z, σ)) := by
  unfold f_X11_weightOf
  refine jo_aload_n (pc := 0) 0 rfl dX11_weightOf_0 rfl ?_
  refine jo_iload_n (pc := 1) 1 rfl dX11_weightOf_1 rfl ?_
  refine jo_aload_n (pc := 2) 0 rfl dX11_weightOf_2 rfl ?_
  refine jo_cV_I_p (pc := 3) (μ' := mu_X11_n) (fx := f_X11_n σ) (As := []) (c_X11_n hw hN) (ok_X11_n) (ltb rfl) (all3 gw_1441 gw_1443 gw_68) (ik_306 hw hN) (by decide) (q := (RX11, TX11, 39)) rfl rfl rfl rfl (Nat.le_of_ble_eq_true rfl) dX11_weightOf_3 (fun v1 => ?_)
  refine jo_irem (pc := 6) dX11_weightOf_6 ?_
  refine jo_cV_I_p (pc := 7) (μ' := mu_X11_weight) (fx := f_X11_weight σ (x0 - x0 / v1 * v1)) (As := [.int (x0 - x0 / v1 * v1)]) (c_X11_weight hw hN) (ok_X11_weight) (ltb rfl) (all3 gw_1446 gw_1448 gw_69) (ik_306 hw hN) (by decide) (q := (RX11, TX11, 39)) rfl rfl rfl rfl (Nat.le_of_ble_eq_true rfl) dX11_weightOf_7 (fun v2 => ?_)
  exact jo_ireturn (pc := 10) rfl rfl dX11_weightOf_10
theorem c_X11_weightOf {w : Wd} (hw : WOK w) (hN : wn w = NT) {σ : Mem} {x0 : Int32} : ∀ r, f_X11_weightOf σ x0 = some r → MC w mu_X11_weightOf (vI r) [.ref (adr w 306), .int x0] σ σ := mc_ofP ok_X11_weightOf rfl (Nat.le_of_ble_eq_true rfl) (t_X11_weightOf hw hN)
abbrev mu_X11_rows (d : Nat) : MD := (yX11_rows, cX11_rows, 8, none, 19 + d)
theorem ok_X11_rows (d : Nat) : MOK (mu_X11_rows d) 3 := ⟨gw_1514, gw_171, (by decide +kernel : plainFor yX11_rows = true), ⟨(by decide +kernel : yX11_rows.cls ≠ "java/lang/invoke/MethodHandle"), (by decide +kernel : yX11_rows.cls ≠ "java/lang/invoke/VarHandle"), (by decide +kernel : (parseMethodDescriptor yX11_rows.desc).map (fun d => d.parameters.length) = some 3)⟩, Nat.le_of_ble_eq_true rfl⟩
noncomputable def j_X11_rows_155 (rec : Mem → Int32 → Int32 → Int32 → Option Mem) (x1 : Int32) (σ2 : Mem) : Option Mem :=
  pI σ2 315 x1 0 (fun (σ3 : Mem) => some σ3)
noncomputable def l_X11_rows_111 (rec : Mem → Int32 → Int32 → Int32 → Option Mem) (x0 : Int32) (x1 : Int32) (x2 : Int32) (σ4 : Mem) (i5 : Int32) : Option ((Mem × Int32) ⊕ Mem) :=
  (f_X11_weightOf σ4 x1).bind (fun (v6 : Int32) => if x2 < (i5 * v6) then (some (Sum.inr σ4)) else (pI σ4 315 x1 i5 (fun (σ7 : Mem) => (f_X11_weightOf σ7 x1).bind (fun (v8 : Int32) => (rec σ7 x0 (x1 + 1) (x2 - (i5 * v8))).bind (fun (σ9 : Mem) => some (Sum.inl (σ9, i5 + 1)))))))
noncomputable def j_X11_rows_93 (rec : Mem → Int32 → Int32 → Int32 → Option Mem) (x0 : Int32) (σ15 : Mem) : Option Mem :=
  gI σ15 311 x0 (fun (v16 : Int32) => pI σ15 311 x0 (v16 + 1) (fun (σ17 : Mem) => some σ17))
noncomputable def l_X11_rows_56 (rec : Mem → Int32 → Int32 → Int32 → Option Mem) (v13 : Int32) (σ18 : Mem) (i19 : Int32) : Option ((Mem × Int32) ⊕ Mem) :=
  (f_X11_n σ18).bind (fun (v20 : Int32) => if (2 * v20) ≤ i19 then (some (Sum.inr σ18)) else (gI σ18 315 i19 (fun (v21 : Int32) => pL σ18 312 ((v13 + 1) + i19) (Int32.toInt64 v21) (fun (σ22 : Mem) => some (Sum.inl (σ22, i19 + 1))))))
noncomputable def o_X11_rows (rec : Mem → Int32 → Int32 → Int32 → Option Mem) (σ : Mem) (x0 : Int32) (x1 : Int32) (x2 : Int32) : Option Mem :=
  (f_X11_n σ).bind (fun (v1 : Int32) => if x1 = (2 * v1) then (bq (f_X11_difference 14 σ x0 0 1) (fun (v10 : Int64) (σ11 : Mem) => if v10 = 0 then (some σ11) else (gI σ11 311 x0 (fun (v12 : Int32) => bd ((9100 * x0) + (13 * v12)) (fun (v13 : Int32) => pL σ11 312 v13 v10 (fun (σ14 : Mem) => (loopO (fun (z19 : (Mem × Int32)) => l_X11_rows_56 rec v13 z19.1 z19.2) (σ14, 0) : Option Mem).bind (fun (z15 : Mem) => j_X11_rows_93 rec x0 z15))))))) else ((loopO (fun (z5 : (Mem × Int32)) => l_X11_rows_111 rec x0 x1 x2 z5.1 z5.2) (σ, 0) : Option Mem).bind (fun (z2 : Mem) => j_X11_rows_155 rec x1 z2)))
theorem t_X11_rows {w : Wd} (hw : WOK w) (hN : wn w = NT) {d : Nat} {rec : Mem → Int32 → Int32 → Int32 → Option Mem} (hrec : ∀ {τ0 : Mem} {y0 : Int32} {y1 : Int32} {y2 : Int32}, ∀ τ, rec τ0 y0 y1 y2 = some τ → MC w (mu_X11_rows d) none [.ref (adr w 306), .int y0, .int y1, .int y2] τ0 τ) {σ : Mem} {x0 : Int32} {x1 : Int32} {x2 : Int32} : JO w (mu_X11_rows (d + 1)) vV σ [(0, .ref (adr w 306)), (1, .int x0), (2, .int x1), (3, .int x2)] [] 0 (o_X11_rows rec σ x0 x1 x2) (fun z => some ((), z)) := by
  unfold o_X11_rows
  refine jo_iload_n (pc := 0) 2 rfl dX11_rows_0 rfl ?_
  refine jo_iconst (pc := 1) dX11_rows_1 (ic_i_2) ?_
  refine jo_aload_n (pc := 2) 0 rfl dX11_rows_2 rfl ?_
  refine jo_cV_I_p (pc := 3) (μ' := mu_X11_n) (fx := f_X11_n σ) (As := []) (c_X11_n hw hN) (ok_X11_n) (by simp only [mu_X11_rows, mu_X11_n]; omega) (all3 gw_1441 gw_1443 gw_68) (ik_306 hw hN) (by decide) (q := (RX11, TX11, 39)) rfl rfl rfl rfl (Nat.le_of_ble_eq_true rfl) dX11_rows_3 (fun v1 => ?_)
  refine jo_imul (pc := 6) dX11_rows_6 ?_
  refine jo_icmp_ne (pc := 7) dX11_rows_7 (tgt := 108) rfl ?_ ?_
  · refine jo_iconst (pc := 108) dX11_rows_108 (ic_i_0) ?_
    refine jo_istore (pc := 109) (lv' := [(4, .int 0), (0, .ref (adr w 306)), (1, .int x0), (2, .int x1), (3, .int x2)]) dX11_rows_109 (ltb rfl) rfl ?_
    refine jo_join1 (S := Mem) (fun (z2 : Mem) => z2) (fun (z2 : Mem) => [(0, .ref (adr w 306)), (2, .int x1)]) (fun (z2 : Mem) => []) 155 ?_ (fun h155_2 => ?_)
    · intro σ2
      show JO w (mu_X11_rows (d + 1)) vV σ2 [(0, .ref (adr w 306)), (2, .int x1)] [] 155 (j_X11_rows_155 rec x1 σ2) _
      unfold j_X11_rows_155
      refine jo_aload_n (pc := 155) 0 rfl dX11_rows_155 rfl ?_
      refine jo_getrE (pc := 156) ok_11_15 (ik_306 hw hN) rf_306_15 gw_1308 dX11_rows_156 ?_
      refine jo_iload_n (pc := 159) 1 rfl dX11_rows_159 rfl ?_
      refine jo_iconst (pc := 160) dX11_rows_160 (ic_i_0) ?_
      refine jo_iast (pc := 161) (ik_315 hw hN) dX11_rows_161 (fun σ3 => ?_)
      exact jo_return (pc := 162) rfl rfl dX11_rows_162
    · refine jo_lv (lv' := [(0, .ref (adr w 306)), (1, .int x0), (2, .int x1), (3, .int x2), (4, .int 0)]) [1, 2, 3, 4, 0] rfl ?_
      refine jo_loop (X := Mem) (fun (z5 : (Mem × Int32)) => z5.1) (fun (z5 : (Mem × Int32)) => [(0, .ref (adr w 306)), (1, .int x0), (2, .int x1), (3, .int x2), (4, .int z5.2)]) (body := (fun (z5 : (Mem × Int32)) => l_X11_rows_111 rec x0 x1 x2 z5.1 z5.2)) (fun F111_5 hF111_5 s => ?_) (σ, 0)
      obtain ⟨σ4, i5⟩ := s
      show JO w (mu_X11_rows (d + 1)) vV σ4 [(0, .ref (adr w 306)), (1, .int x0), (2, .int x1), (3, .int x2), (4, .int i5)] [] 111 (l_X11_rows_111 rec x0 x1 x2 σ4 i5) _
      unfold l_X11_rows_111
      refine jo_iload (pc := 111) 4 rfl dX11_rows_111 ?_
      refine jo_aload_n (pc := 113) 0 rfl dX11_rows_113 rfl ?_
      refine jo_iload_n (pc := 114) 2 rfl dX11_rows_114 rfl ?_
      refine jo_cV_I_p (pc := 115) (μ' := mu_X11_weightOf) (fx := f_X11_weightOf σ4 x1) (As := [.int x1]) (c_X11_weightOf hw hN) (ok_X11_weightOf) (by simp only [mu_X11_rows, mu_X11_weightOf]; omega) (all3 gw_1553 gw_1555 gw_93) (ik_306 hw hN) (by decide) (q := (RX11, TX11, 39)) rfl rfl rfl rfl (Nat.le_of_ble_eq_true rfl) dX11_rows_115 (fun v6 => ?_)
      refine jo_imul (pc := 118) dX11_rows_118 ?_
      refine jo_iload_n (pc := 119) 3 rfl dX11_rows_119 rfl ?_
      refine jo_icmp_gt (pc := 120) dX11_rows_120 (tgt := 155) rfl ?_ ?_
      · refine jo_lv (lv' := [(0, .ref (adr w 306)), (2, .int x1)]) [0, 2] rfl ?_
        exact jo_leaf (by rfl) (h155_2 σ4)
      · refine jo_aload_n (pc := 123) 0 rfl dX11_rows_123 rfl ?_
        refine jo_getrE (pc := 124) ok_11_15 (ik_306 hw hN) rf_306_15 gw_1308 dX11_rows_124 ?_
        refine jo_iload_n (pc := 127) 2 rfl dX11_rows_127 rfl ?_
        refine jo_iload (pc := 128) 4 rfl dX11_rows_128 ?_
        refine jo_iast (pc := 130) (ik_315 hw hN) dX11_rows_130 (fun σ7 => ?_)
        refine jo_aload_n (pc := 131) 0 rfl dX11_rows_131 rfl ?_
        refine jo_iload_n (pc := 132) 1 rfl dX11_rows_132 rfl ?_
        refine jo_iload_n (pc := 133) 2 rfl dX11_rows_133 rfl ?_
        refine jo_iconst (pc := 134) dX11_rows_134 (ic_i_1) ?_
        refine jo_iadd (pc := 135) dX11_rows_135 ?_
        refine jo_iload_n (pc := 136) 3 rfl dX11_rows_136 rfl ?_
        refine jo_iload (pc := 137) 4 rfl dX11_rows_137 ?_
        refine jo_aload_n (pc := 139) 0 rfl dX11_rows_139 rfl ?_
        refine jo_iload_n (pc := 140) 2 rfl dX11_rows_140 rfl ?_
        refine jo_cV_I_p (pc := 141) (μ' := mu_X11_weightOf) (fx := f_X11_weightOf σ7 x1) (As := [.int x1]) (c_X11_weightOf hw hN) (ok_X11_weightOf) (by simp only [mu_X11_rows, mu_X11_weightOf]; omega) (all3 gw_1553 gw_1555 gw_93) (ik_306 hw hN) (by decide) (q := (RX11, TX11, 39)) rfl rfl rfl rfl (Nat.le_of_ble_eq_true rfl) dX11_rows_141 (fun v8 => ?_)
        refine jo_imul (pc := 144) dX11_rows_144 ?_
        refine jo_isub (pc := 145) dX11_rows_145 ?_
        refine jo_cV_V_i (pc := 146) (μ' := (mu_X11_rows d)) (fx := rec σ7 x0 (x1 + 1) (x2 - (i5 * v8))) (As := [.int x0, .int (x1 + 1), .int (x2 - (i5 * v8))]) (hrec) (ok_X11_rows _) (by simp only [mu_X11_rows, mu_X11_rows]; omega) (all3 gw_1511 gw_1513 gw_83) (ik_306 hw hN) (by decide) (q := (RX11, TX11, 39)) rfl rfl rfl rfl (Nat.le_of_ble_eq_true rfl) dX11_rows_146 (fun σ9 => ?_)
        refine jo_iinc (pc := 149) (lv' := [(4, .int (i5 + 1)), (0, .ref (adr w 306)), (1, .int x0), (2, .int x1), (3, .int x2)]) 4 rfl dX11_rows_149 (congrArg (fun z => i5 + z) (ic_i_1)) (ltb rfl) rfl ?_
        refine jo_goto (pc := 152) dX11_rows_152 (tgt := 111) rfl ?_
        refine jo_lv (lv' := [(0, .ref (adr w 306)), (1, .int x0), (2, .int x1), (3, .int x2), (4, .int (i5 + 1))]) [1, 2, 3, 4, 0] rfl ?_
        exact jo_leaf (by rfl) (hF111_5 (σ9, i5 + 1))
  · refine jo_aload_n (pc := 10) 0 rfl dX11_rows_10 rfl ?_
    refine jo_iload_n (pc := 11) 1 rfl dX11_rows_11 rfl ?_
    refine jo_iconst (pc := 12) dX11_rows_12 (ic_i_0) ?_
    refine jo_lconst (pc := 13) dX11_rows_13 (ic_l_1) ?_
    refine jo_cV_J_i (pc := 14) (μ' := (mu_X11_difference 14)) (fx := f_X11_difference 14 σ x0 0 1) (As := [.int x0, .int 0, .long 1]) (c_X11_difference 14 hw hN) (ok_X11_difference _) (by simp only [mu_X11_rows, mu_X11_difference]; omega) (all3 gw_1515 gw_1517 gw_84) (ik_306 hw hN) (by decide) (q := (RX11, TX11, 39)) rfl rfl rfl rfl (Nat.le_of_ble_eq_true rfl) dX11_rows_14 (fun v10 σ11 => ?_)
    refine jo_lstore (pc := 17) (lv' := [(4, .long v10), (0, .ref (adr w 306)), (1, .int x0), (2, .int x1), (3, .int x2)]) dX11_rows_17 (ltb rfl) rfl ?_
    refine jo_lload (pc := 19) 0 rfl dX11_rows_19 ?_
    refine jo_lconst (pc := 21) dX11_rows_21 (ic_l_0) ?_
    refine jo_lcmp_ne (pc := 22) dX11_rows_22 dX11_rows_23 (tgt := 27) rfl ?_ ?_
    · refine jo_sipush (pc := 27) dX11_rows_27 (ic_s_9100) ?_
      refine jo_iload_n (pc := 30) 2 rfl dX11_rows_30 rfl ?_
      refine jo_imul (pc := 31) dX11_rows_31 ?_
      refine jo_bipush (pc := 32) dX11_rows_32 (ic_b_13) ?_
      refine jo_aload_n (pc := 34) 1 rfl dX11_rows_34 rfl ?_
      refine jo_getrE (pc := 35) ok_11_11 (ik_306 hw hN) rf_306_11 gw_1304 dX11_rows_35 ?_
      refine jo_iload_n (pc := 38) 2 rfl dX11_rows_38 rfl ?_
      refine jo_iald (pc := 39) (ik_311 hw hN) dX11_rows_39 (fun v12 => ?_)
      refine jo_imul (pc := 40) dX11_rows_40 ?_
      refine jo_iadd (pc := 41) dX11_rows_41 ?_
      refine jo_bd ?_
      refine jo_istore (pc := 42) (lv' := [(6, .int ((9100 * x0) + (13 * v12))), (4, .long v10), (0, .ref (adr w 306)), (1, .int x0), (2, .int x1), (3, .int x2)]) dX11_rows_42 (ltb rfl) rfl ?_
      generalize ((9100 * x0) + (13 * v12)) = v13
      refine jo_aload_n (pc := 44) 2 rfl dX11_rows_44 rfl ?_
      refine jo_getrE (pc := 45) ok_11_12 (ik_306 hw hN) rf_306_12 gw_1305 dX11_rows_45 ?_
      refine jo_iload (pc := 48) 0 rfl dX11_rows_48 ?_
      refine jo_lload (pc := 50) 1 rfl dX11_rows_50 ?_
      refine jo_last (pc := 52) (ik_312 hw hN) dX11_rows_52 (fun σ14 => ?_)
      refine jo_iconst (pc := 53) dX11_rows_53 (ic_i_0) ?_
      refine jo_istore (pc := 54) (lv' := [(7, .int 0), (6, .int v13), (4, .long v10), (0, .ref (adr w 306)), (1, .int x0), (2, .int x1), (3, .int x2)]) dX11_rows_54 (ltb rfl) rfl ?_
      refine jo_join1 (S := Mem) (fun (z15 : Mem) => z15) (fun (z15 : Mem) => [(0, .ref (adr w 306)), (1, .int x0)]) (fun (z15 : Mem) => []) 93 ?_ (fun h93_15 => ?_)
      · intro σ15
        show JO w (mu_X11_rows (d + 1)) vV σ15 [(0, .ref (adr w 306)), (1, .int x0)] [] 93 (j_X11_rows_93 rec x0 σ15) _
        unfold j_X11_rows_93
        refine jo_aload_n (pc := 93) 0 rfl dX11_rows_93 rfl ?_
        refine jo_getrE (pc := 94) ok_11_11 (ik_306 hw hN) rf_306_11 gw_1304 dX11_rows_94 ?_
        refine jo_iload_n (pc := 97) 1 rfl dX11_rows_97 rfl ?_
        refine jo_aload_n (pc := 98) 0 rfl dX11_rows_98 rfl ?_
        refine jo_getrE (pc := 99) ok_11_11 (ik_306 hw hN) rf_306_11 gw_1304 dX11_rows_99 ?_
        refine jo_iload_n (pc := 102) 1 rfl dX11_rows_102 rfl ?_
        refine jo_iald (pc := 103) (ik_311 hw hN) dX11_rows_103 (fun v16 => ?_)
        refine jo_iconst (pc := 104) dX11_rows_104 (ic_i_1) ?_
        refine jo_iadd (pc := 105) dX11_rows_105 ?_
        refine jo_iast (pc := 106) (ik_311 hw hN) dX11_rows_106 (fun σ17 => ?_)
        exact jo_return (pc := 107) rfl rfl dX11_rows_107
      · refine jo_lv (lv' := [(6, .int v13), (0, .ref (adr w 306)), (1, .int x0), (7, .int 0)]) [1, 3, 4, 0] rfl ?_
        refine jo_loop (X := Mem) (fun (z19 : (Mem × Int32)) => z19.1) (fun (z19 : (Mem × Int32)) => [(6, .int v13), (0, .ref (adr w 306)), (1, .int x0), (7, .int z19.2)]) (body := (fun (z19 : (Mem × Int32)) => l_X11_rows_56 rec v13 z19.1 z19.2)) (fun F56_19 hF56_19 s => ?_) (σ14, 0)
        obtain ⟨σ18, i19⟩ := s
        show JO w (mu_X11_rows (d + 1)) vV σ18 [(6, .int v13), (0, .ref (adr w 306)), (1, .int x0), (7, .int i19)] [] 56 (l_X11_rows_56 rec v13 σ18 i19) _
        unfold l_X11_rows_56
        refine jo_iload (pc := 56) 3 rfl dX11_rows_56 ?_
        refine jo_iconst (pc := 58) dX11_rows_58 (ic_i_2) ?_
        refine jo_aload_n (pc := 59) 1 rfl dX11_rows_59 rfl ?_
        refine jo_cV_I_p (pc := 60) (μ' := mu_X11_n) (fx := f_X11_n σ18) (As := []) (c_X11_n hw hN) (ok_X11_n) (by simp only [mu_X11_rows, mu_X11_n]; omega) (all3 gw_1441 gw_1443 gw_68) (ik_306 hw hN) (by decide) (q := (RX11, TX11, 39)) rfl rfl rfl rfl (Nat.le_of_ble_eq_true rfl) dX11_rows_60 (fun v20 => ?_)
        refine jo_imul (pc := 63) dX11_rows_63 ?_
        refine jo_icmp_ge (pc := 64) dX11_rows_64 (tgt := 93) rfl ?_ ?_
        · refine jo_lv (lv' := [(0, .ref (adr w 306)), (1, .int x0)]) [1, 2] rfl ?_
          exact jo_leaf (by rfl) (h93_15 σ18)
        · refine jo_aload_n (pc := 67) 1 rfl dX11_rows_67 rfl ?_
          refine jo_getrE (pc := 68) ok_11_12 (ik_306 hw hN) rf_306_12 gw_1305 dX11_rows_68 ?_
          refine jo_iload (pc := 71) 0 rfl dX11_rows_71 ?_
          refine jo_iconst (pc := 73) dX11_rows_73 (ic_i_1) ?_
          refine jo_iadd (pc := 74) dX11_rows_74 ?_
          refine jo_iload (pc := 75) 3 rfl dX11_rows_75 ?_
          refine jo_iadd (pc := 77) dX11_rows_77 ?_
          refine jo_aload_n (pc := 78) 1 rfl dX11_rows_78 rfl ?_
          refine jo_getrE (pc := 79) ok_11_15 (ik_306 hw hN) rf_306_15 gw_1308 dX11_rows_79 ?_
          refine jo_iload (pc := 82) 3 rfl dX11_rows_82 ?_
          refine jo_iald (pc := 84) (ik_315 hw hN) dX11_rows_84 (fun v21 => ?_)
          refine jo_i2l (pc := 85) dX11_rows_85 ?_
          refine jo_last (pc := 86) (ik_312 hw hN) dX11_rows_86 (fun σ22 => ?_)
          refine jo_iinc (pc := 87) (lv' := [(7, .int (i19 + 1)), (6, .int v13), (0, .ref (adr w 306)), (1, .int x0)]) 3 rfl dX11_rows_87 (congrArg (fun z => i19 + z) (ic_i_1)) (ltb rfl) rfl ?_
          refine jo_goto (pc := 90) dX11_rows_90 (tgt := 56) rfl ?_
          refine jo_lv (lv' := [(6, .int v13), (0, .ref (adr w 306)), (1, .int x0), (7, .int (i19 + 1))]) [1, 2, 3, 0] rfl ?_
          exact jo_leaf (by rfl) (hF56_19 (σ22, i19 + 1))
    · exact jo_return (pc := 26) rfl rfl dX11_rows_26
theorem co_X11_rows {w : Wd} (hw : WOK w) (hN : wn w = NT) {d : Nat} {rec : Mem → Int32 → Int32 → Int32 → Option Mem} (hrec : ∀ {τ0 : Mem} {y0 : Int32} {y1 : Int32} {y2 : Int32}, ∀ τ, rec τ0 y0 y1 y2 = some τ → MC w (mu_X11_rows d) none [.ref (adr w 306), .int y0, .int y1, .int y2] τ0 τ) {σ : Mem} {x0 : Int32} {x1 : Int32} {x2 : Int32} : ∀ σ', o_X11_rows rec σ x0 x1 x2 = some σ' → MC w (mu_X11_rows (d + 1)) none [.ref (adr w 306), .int x0, .int x1, .int x2] σ σ' := mc_ofV (ok_X11_rows _) rfl (Nat.le_of_ble_eq_true rfl) (t_X11_rows hw hN hrec)
noncomputable def f_X11_rows : Nat → Mem → Int32 → Int32 → Int32 → Option Mem
  | 0 => fun _ _ _ _ => none
  | n + 1 => fun σ x0 x1 x2 => o_X11_rows (f_X11_rows n) σ x0 x1 x2
theorem c_X11_rows (n : Nat) {w : Wd} (hw : WOK w) (hN : wn w = NT) {σ : Mem} {x0 : Int32} {x1 : Int32} {x2 : Int32} : ∀ σ', f_X11_rows n σ x0 x1 x2 = some σ' → MC w (mu_X11_rows (1 * n)) none [.ref (adr w 306), .int x0, .int x1, .int x2] σ σ' := by
  induction n generalizing σ x0 x1 x2 with
  | zero => intro σ' h; cases h
  | succ n ih => exact co_X11_rows hw hN (rec := f_X11_rows n) (d := 1 * n) ih
abbrev mu_X11_laysTerms : MD := (yX11_laysTerms, cX11_laysTerms, 2, none, 34)
theorem ok_X11_laysTerms : MOK mu_X11_laysTerms 1 := ⟨gw_1510, gw_171, (by decide +kernel : plainFor yX11_laysTerms = true), ⟨(by decide +kernel : yX11_laysTerms.cls ≠ "java/lang/invoke/MethodHandle"), (by decide +kernel : yX11_laysTerms.cls ≠ "java/lang/invoke/VarHandle"), (by decide +kernel : (parseMethodDescriptor yX11_laysTerms.desc).map (fun d => d.parameters.length) = some 1)⟩, Nat.le_of_ble_eq_true rfl⟩
noncomputable def f_X11_laysTerms (σ : Mem) (x0 : Int32) : Option Mem :=
  (f_X11_weight σ x0).bind (fun (v1 : Int32) => (f_X11_rows 14 σ x0 0 v1).bind (fun (σ2 : Mem) => some σ2))
theorem t_X11_laysTerms {w : Wd} (hw : WOK w) (hN : wn w = NT) {σ : Mem} {x0 : Int32} : JO w mu_X11_laysTerms vV σ [(0, .ref (adr w 306)), (1, .int x0)] [] 0 (f_X11_laysTerms σ x0) (fun z => some ((), z)) := by
  unfold f_X11_laysTerms
  refine jo_aload_n (pc := 0) 0 rfl dX11_laysTerms_0 rfl ?_
  refine jo_iload_n (pc := 1) 1 rfl dX11_laysTerms_1 rfl ?_
  refine jo_iconst (pc := 2) dX11_laysTerms_2 (ic_i_0) ?_
  refine jo_aload_n (pc := 3) 0 rfl dX11_laysTerms_3 rfl ?_
  refine jo_iload_n (pc := 4) 1 rfl dX11_laysTerms_4 rfl ?_
  refine jo_cV_I_p (pc := 5) (μ' := mu_X11_weight) (fx := f_X11_weight σ x0) (As := [.int x0]) (c_X11_weight hw hN) (ok_X11_weight) (ltb rfl) (all3 gw_1446 gw_1448 gw_69) (ik_306 hw hN) (by decide) (q := (RX11, TX11, 39)) rfl rfl rfl rfl (Nat.le_of_ble_eq_true rfl) dX11_laysTerms_5 (fun v1 => ?_)
  refine jo_cV_V_i (pc := 8) (μ' := (mu_X11_rows 14)) (fx := f_X11_rows 14 σ x0 0 v1) (As := [.int x0, .int 0, .int v1]) (c_X11_rows 14 hw hN) (ok_X11_rows _) (ltb rfl) (all3 gw_1511 gw_1513 gw_83) (ik_306 hw hN) (by decide) (q := (RX11, TX11, 39)) rfl rfl rfl rfl (Nat.le_of_ble_eq_true rfl) dX11_laysTerms_8 (fun σ2 => ?_)
  exact jo_return (pc := 11) rfl rfl dX11_laysTerms_11
theorem c_X11_laysTerms {w : Wd} (hw : WOK w) (hN : wn w = NT) {σ : Mem} {x0 : Int32} : ∀ σ', f_X11_laysTerms σ x0 = some σ' → MC w mu_X11_laysTerms none [.ref (adr w 306), .int x0] σ σ' := mc_ofV ok_X11_laysTerms rfl (Nat.le_of_ble_eq_true rfl) (t_X11_laysTerms hw hN)
abbrev mu_X11_lays : MD := (yX11_lays, cX11_lays, 4, none, 35)
theorem ok_X11_lays : MOK mu_X11_lays 0 := ⟨gw_1482, gw_171, (by decide +kernel : plainFor yX11_lays = true), ⟨(by decide +kernel : yX11_lays.cls ≠ "java/lang/invoke/MethodHandle"), (by decide +kernel : yX11_lays.cls ≠ "java/lang/invoke/VarHandle"), (by decide +kernel : (parseMethodDescriptor yX11_lays.desc).map (fun d => d.parameters.length) = some 0)⟩, Nat.le_of_ble_eq_true rfl⟩
noncomputable def l_X11_lays_117 (σ7 : Mem) (i8 : Int32) : Option ((Mem × Int32) ⊕ Mem) :=
  (f_X11_n σ7).bind (fun (v9 : Int32) => if v9 ≤ i8 then (some (Sum.inr σ7)) else ((f_X11_laysTerms σ7 i8).bind (fun (σ10 : Mem) => some (Sum.inl (σ10, i8 + 1)))))
noncomputable def j_X11_lays_107 (σ5 : Mem) : Option Mem :=
  gZ σ5 306 10 (fun (b6 : Bool) => if b6 then loopO (fun (z8 : (Mem × Int32)) => l_X11_lays_117 z8.1 z8.2) (σ5, 0) else some σ5)
noncomputable def l_X11_lays_88 (σ11 : Mem) (i12 : Int32) : Option ((Mem × Int32) ⊕ Mem) :=
  if 6 ≤ i12 then (some (Sum.inr σ11)) else (pI σ11 311 i12 0 (fun (σ13 : Mem) => some (Sum.inl (σ13, i12 + 1))))
noncomputable def j_X11_lays_86 (σ4 : Mem) : Option Mem :=
  (loopO (fun (z12 : (Mem × Int32)) => l_X11_lays_88 z12.1 z12.2) (σ4, 0) : Option Mem).bind (fun (z5 : Mem) => j_X11_lays_107 z5)
noncomputable def j_X11_lays_80 (i15 : Int32) (σ17 : Mem) : Option ((Mem × Int32) ⊕ Mem) :=
  some (Sum.inl (σ17, i15 + 1))
noncomputable def j_X11_lays_74 (i19 : Int32) (σ20 : Mem) : Option ((Mem × Int32) ⊕ Mem) :=
  some (Sum.inl (σ20, i19 + 1))
noncomputable def j_X11_lays_65 (i22 : Int32) (σ24 : Mem) (b25 : Bool) : Option ((Mem × Int32) ⊕ Mem) :=
  pF σ24 306 10 (b2i b25) (fun (σ26 : Mem) => some (Sum.inl (σ26, i22 + 1)))
noncomputable def j_X11_lays_64 (σ27 : Mem) : Option (Mem × Bool) :=
  some (σ27, false)
noncomputable def l_X11_lays_37 (i15 : Int32) (i19 : Int32) (σ21 : Mem) (i22 : Int32) : Option ((Mem × Int32) ⊕ Mem) :=
  if i19 ≤ i22 then (some (Sum.inr σ21)) else (gZ σ21 306 10 (fun (b23 : Bool) => ((if b23 then bq (f_X11_isAlikeBy σ21 i15 i19 i22) (fun (b28 : Bool) (σ29 : Mem) => if b28 then some (Sum.inr (σ29, true)) else some (Sum.inl σ29)) else some (Sum.inl σ21) : Option (Mem ⊕ (Mem × Bool))).bind (Sum.elim (fun (z27 : Mem) => j_X11_lays_64 z27) some) : Option (Mem × Bool)).bind (fun (z25 : (Mem × Bool)) => j_X11_lays_65 i22 z25.1 z25.2)))
noncomputable def l_X11_lays_30 (i15 : Int32) (σ18 : Mem) (i19 : Int32) : Option ((Mem × Int32) ⊕ Mem) :=
  if i15 ≤ i19 then (some (Sum.inr σ18)) else ((loopO (fun (z22 : (Mem × Int32)) => l_X11_lays_37 i15 i19 z22.1 z22.2) (σ18, 0) : Option Mem).bind (fun (z20 : Mem) => j_X11_lays_74 i19 z20))
noncomputable def l_X11_lays_20 (σ14 : Mem) (i15 : Int32) : Option ((Mem × Int32) ⊕ Mem) :=
  (f_X11_n σ14).bind (fun (v16 : Int32) => if v16 ≤ i15 then (some (Sum.inr σ14)) else ((loopO (fun (z19 : (Mem × Int32)) => l_X11_lays_30 i15 z19.1 z19.2) (σ14, 0) : Option Mem).bind (fun (z17 : Mem) => j_X11_lays_80 i15 z17)))
noncomputable def f_X11_lays (σ : Mem) : Option Mem :=
  gZ σ 306 9 (fun (b1 : Bool) => if b1 then some σ else pF σ 306 9 1 (fun (σ2 : Mem) => pF σ2 306 10 1 (fun (σ3 : Mem) => (loopO (fun (z15 : (Mem × Int32)) => l_X11_lays_20 z15.1 z15.2) (σ3, 0) : Option Mem).bind (fun (z4 : Mem) => j_X11_lays_86 z4))))
theorem t_X11_lays {w : Wd} (hw : WOK w) (hN : wn w = NT) {σ : Mem} : JO w mu_X11_lays vV σ [(0, .ref (adr w 306))] [] 0 (f_X11_lays σ) (fun z => some ((), z)) := by
  unfold f_X11_lays
  refine jo_aload_n (pc := 0) 0 rfl dX11_lays_0 rfl ?_
  refine jo_getz (pc := 1) ok_11_9 (ik_306 hw hN) gw_1302 dX11_lays_1 (fun b1 => ?_)
  refine jo_ifz_eq (pc := 4) dX11_lays_4 (tgt := 8) rfl ?_ ?_
  · refine jo_aload_n (pc := 8) 0 rfl dX11_lays_8 rfl ?_
    refine jo_iconst (pc := 9) dX11_lays_9 (ic_i_1) ?_
    refine jo_putz01 (pc := 10) (by decide) ok_11_9 okp_11_9 (ik_306 hw hN) gw_1302 dX11_lays_10 (fun σ2 => ?_)
    refine jo_aload_n (pc := 13) 0 rfl dX11_lays_13 rfl ?_
    refine jo_iconst (pc := 14) dX11_lays_14 (ic_i_1) ?_
    refine jo_putz01 (pc := 15) (by decide) ok_11_10 okp_11_10 (ik_306 hw hN) gw_1303 dX11_lays_15 (fun σ3 => ?_)
    refine jo_iconst (pc := 18) dX11_lays_18 (ic_i_0) ?_
    refine jo_istore_n (pc := 19) (lv' := [(1, .int 0), (0, .ref (adr w 306))]) dX11_lays_19 rfl (ltb rfl) rfl ?_
    refine jo_join1 (S := Mem) (fun (z4 : Mem) => z4) (fun (z4 : Mem) => [(0, .ref (adr w 306))]) (fun (z4 : Mem) => []) 86 ?_ (fun h86_4 => ?_)
    · intro σ4
      show JO w mu_X11_lays vV σ4 [(0, .ref (adr w 306))] [] 86 (j_X11_lays_86 σ4) _
      unfold j_X11_lays_86
      refine jo_iconst (pc := 86) dX11_lays_86 (ic_i_0) ?_
      refine jo_istore_n (pc := 87) (lv' := [(1, .int 0), (0, .ref (adr w 306))]) dX11_lays_87 rfl (ltb rfl) rfl ?_
      refine jo_join1 (S := Mem) (fun (z5 : Mem) => z5) (fun (z5 : Mem) => [(0, .ref (adr w 306))]) (fun (z5 : Mem) => []) 107 ?_ (fun h107_5 => ?_)
      · intro σ5
        show JO w mu_X11_lays vV σ5 [(0, .ref (adr w 306))] [] 107 (j_X11_lays_107 σ5) _
        unfold j_X11_lays_107
        refine jo_aload_n (pc := 107) 0 rfl dX11_lays_107 rfl ?_
        refine jo_getz (pc := 108) ok_11_10 (ik_306 hw hN) gw_1303 dX11_lays_108 (fun b6 => ?_)
        refine jo_ifz_ne (pc := 111) dX11_lays_111 (tgt := 115) rfl ?_ ?_
        · refine jo_iconst (pc := 115) dX11_lays_115 (ic_i_0) ?_
          refine jo_istore_n (pc := 116) (lv' := [(1, .int 0), (0, .ref (adr w 306))]) dX11_lays_116 rfl (ltb rfl) rfl ?_
          refine jo_lv (lv' := [(0, .ref (adr w 306)), (1, .int 0)]) [1, 0] rfl ?_
          refine jo_loop (X := Mem) (fun (z8 : (Mem × Int32)) => z8.1) (fun (z8 : (Mem × Int32)) => [(0, .ref (adr w 306)), (1, .int z8.2)]) (body := (fun (z8 : (Mem × Int32)) => l_X11_lays_117 z8.1 z8.2)) (fun F117_8 hF117_8 s => ?_) (σ5, 0)
          obtain ⟨σ7, i8⟩ := s
          show JO w mu_X11_lays vV σ7 [(0, .ref (adr w 306)), (1, .int i8)] [] 117 (l_X11_lays_117 σ7 i8) _
          unfold l_X11_lays_117
          refine jo_iload_n (pc := 117) 1 rfl dX11_lays_117 rfl ?_
          refine jo_aload_n (pc := 118) 0 rfl dX11_lays_118 rfl ?_
          refine jo_cV_I_p (pc := 119) (μ' := mu_X11_n) (fx := f_X11_n σ7) (As := []) (c_X11_n hw hN) (ok_X11_n) (ltb rfl) (all3 gw_1441 gw_1443 gw_68) (ik_306 hw hN) (by decide) (q := (RX11, TX11, 39)) rfl rfl rfl rfl (Nat.le_of_ble_eq_true rfl) dX11_lays_119 (fun v9 => ?_)
          refine jo_icmp_ge (pc := 122) dX11_lays_122 (tgt := 136) rfl ?_ ?_
          · exact jo_return (pc := 136) rfl rfl dX11_lays_136
          · refine jo_aload_n (pc := 125) 0 rfl dX11_lays_125 rfl ?_
            refine jo_iload_n (pc := 126) 1 rfl dX11_lays_126 rfl ?_
            refine jo_cV_V_i (pc := 127) (μ' := mu_X11_laysTerms) (fx := f_X11_laysTerms σ7 i8) (As := [.int i8]) (c_X11_laysTerms hw hN) (ok_X11_laysTerms) (ltb rfl) (all3 gw_1507 gw_1509 gw_82) (ik_306 hw hN) (by decide) (q := (RX11, TX11, 39)) rfl rfl rfl rfl (Nat.le_of_ble_eq_true rfl) dX11_lays_127 (fun σ10 => ?_)
            refine jo_iinc (pc := 130) (lv' := [(1, .int (i8 + 1)), (0, .ref (adr w 306))]) 1 rfl dX11_lays_130 (congrArg (fun z => i8 + z) (ic_i_1)) (ltb rfl) rfl ?_
            refine jo_goto (pc := 133) dX11_lays_133 (tgt := 117) rfl ?_
            refine jo_lv (lv' := [(0, .ref (adr w 306)), (1, .int (i8 + 1))]) [1, 0] rfl ?_
            exact jo_leaf (by rfl) (hF117_8 (σ10, i8 + 1))
        · exact jo_return (pc := 114) rfl rfl dX11_lays_114
      · refine jo_lv (lv' := [(0, .ref (adr w 306)), (1, .int 0)]) [1, 0] rfl ?_
        refine jo_loop (X := Mem) (fun (z12 : (Mem × Int32)) => z12.1) (fun (z12 : (Mem × Int32)) => [(0, .ref (adr w 306)), (1, .int z12.2)]) (body := (fun (z12 : (Mem × Int32)) => l_X11_lays_88 z12.1 z12.2)) (fun F88_12 hF88_12 s => ?_) (σ4, 0)
        obtain ⟨σ11, i12⟩ := s
        show JO w mu_X11_lays vV σ11 [(0, .ref (adr w 306)), (1, .int i12)] [] 88 (l_X11_lays_88 σ11 i12) _
        unfold l_X11_lays_88
        refine jo_iload_n (pc := 88) 1 rfl dX11_lays_88 rfl ?_
        refine jo_bipush (pc := 89) dX11_lays_89 (ic_b_6) ?_
        refine jo_icmp_ge (pc := 91) dX11_lays_91 (tgt := 107) rfl ?_ ?_
        · refine jo_lv (lv' := [(0, .ref (adr w 306))]) [0] rfl ?_
          exact jo_leaf (by rfl) (h107_5 σ11)
        · refine jo_aload_n (pc := 94) 0 rfl dX11_lays_94 rfl ?_
          refine jo_getrE (pc := 95) ok_11_11 (ik_306 hw hN) rf_306_11 gw_1304 dX11_lays_95 ?_
          refine jo_iload_n (pc := 98) 1 rfl dX11_lays_98 rfl ?_
          refine jo_iconst (pc := 99) dX11_lays_99 (ic_i_0) ?_
          refine jo_iast (pc := 100) (ik_311 hw hN) dX11_lays_100 (fun σ13 => ?_)
          refine jo_iinc (pc := 101) (lv' := [(1, .int (i12 + 1)), (0, .ref (adr w 306))]) 1 rfl dX11_lays_101 (congrArg (fun z => i12 + z) (ic_i_1)) (ltb rfl) rfl ?_
          refine jo_goto (pc := 104) dX11_lays_104 (tgt := 88) rfl ?_
          refine jo_lv (lv' := [(0, .ref (adr w 306)), (1, .int (i12 + 1))]) [1, 0] rfl ?_
          exact jo_leaf (by rfl) (hF88_12 (σ13, i12 + 1))
    · refine jo_lv (lv' := [(0, .ref (adr w 306)), (1, .int 0)]) [1, 0] rfl ?_
      refine jo_loop (X := Mem) (fun (z15 : (Mem × Int32)) => z15.1) (fun (z15 : (Mem × Int32)) => [(0, .ref (adr w 306)), (1, .int z15.2)]) (body := (fun (z15 : (Mem × Int32)) => l_X11_lays_20 z15.1 z15.2)) (fun F20_15 hF20_15 s => ?_) (σ3, 0)
      obtain ⟨σ14, i15⟩ := s
      show JO w mu_X11_lays vV σ14 [(0, .ref (adr w 306)), (1, .int i15)] [] 20 (l_X11_lays_20 σ14 i15) _
      unfold l_X11_lays_20
      refine jo_iload_n (pc := 20) 1 rfl dX11_lays_20 rfl ?_
      refine jo_aload_n (pc := 21) 0 rfl dX11_lays_21 rfl ?_
      refine jo_cV_I_p (pc := 22) (μ' := mu_X11_n) (fx := f_X11_n σ14) (As := []) (c_X11_n hw hN) (ok_X11_n) (ltb rfl) (all3 gw_1441 gw_1443 gw_68) (ik_306 hw hN) (by decide) (q := (RX11, TX11, 39)) rfl rfl rfl rfl (Nat.le_of_ble_eq_true rfl) dX11_lays_22 (fun v16 => ?_)
      refine jo_icmp_ge (pc := 25) dX11_lays_25 (tgt := 86) rfl ?_ ?_
      · refine jo_lv (lv' := [(0, .ref (adr w 306))]) [0] rfl ?_
        exact jo_leaf (by rfl) (h86_4 σ14)
      · refine jo_iconst (pc := 28) dX11_lays_28 (ic_i_0) ?_
        refine jo_istore_n (pc := 29) (lv' := [(2, .int 0), (0, .ref (adr w 306)), (1, .int i15)]) dX11_lays_29 rfl (ltb rfl) rfl ?_
        refine jo_join1 (S := Mem) (fun (z17 : Mem) => z17) (fun (z17 : Mem) => [(0, .ref (adr w 306)), (1, .int i15)]) (fun (z17 : Mem) => []) 80 ?_ (fun h80_17 => ?_)
        · intro σ17
          show JO w mu_X11_lays vV σ17 [(0, .ref (adr w 306)), (1, .int i15)] [] 80 (j_X11_lays_80 i15 σ17) _
          unfold j_X11_lays_80
          refine jo_iinc (pc := 80) (lv' := [(1, .int (i15 + 1)), (0, .ref (adr w 306))]) 1 rfl dX11_lays_80 (congrArg (fun z => i15 + z) (ic_i_1)) (ltb rfl) rfl ?_
          refine jo_goto (pc := 83) dX11_lays_83 (tgt := 20) rfl ?_
          refine jo_lv (lv' := [(0, .ref (adr w 306)), (1, .int (i15 + 1))]) [1, 0] rfl ?_
          exact jo_leaf (by rfl) (hF20_15 (σ17, i15 + 1))
        · refine jo_lv (lv' := [(0, .ref (adr w 306)), (1, .int i15), (2, .int 0)]) [1, 2, 0] rfl ?_
          refine jo_loop (X := Mem) (fun (z19 : (Mem × Int32)) => z19.1) (fun (z19 : (Mem × Int32)) => [(0, .ref (adr w 306)), (1, .int i15), (2, .int z19.2)]) (body := (fun (z19 : (Mem × Int32)) => l_X11_lays_30 i15 z19.1 z19.2)) (fun F30_19 hF30_19 s => ?_) (σ14, 0)
          obtain ⟨σ18, i19⟩ := s
          show JO w mu_X11_lays vV σ18 [(0, .ref (adr w 306)), (1, .int i15), (2, .int i19)] [] 30 (l_X11_lays_30 i15 σ18 i19) _
          unfold l_X11_lays_30
          refine jo_iload_n (pc := 30) 2 rfl dX11_lays_30 rfl ?_
          refine jo_iload_n (pc := 31) 1 rfl dX11_lays_31 rfl ?_
          refine jo_icmp_ge (pc := 32) dX11_lays_32 (tgt := 80) rfl ?_ ?_
          · refine jo_lv (lv' := [(0, .ref (adr w 306)), (1, .int i15)]) [0, 1] rfl ?_
            exact jo_leaf (by rfl) (h80_17 σ18)
          · refine jo_iconst (pc := 35) dX11_lays_35 (ic_i_0) ?_
            refine jo_istore_n (pc := 36) (lv' := [(3, .int 0), (0, .ref (adr w 306)), (1, .int i15), (2, .int i19)]) dX11_lays_36 rfl (ltb rfl) rfl ?_
            refine jo_join1 (S := Mem) (fun (z20 : Mem) => z20) (fun (z20 : Mem) => [(0, .ref (adr w 306)), (1, .int i15), (2, .int i19)]) (fun (z20 : Mem) => []) 74 ?_ (fun h74_20 => ?_)
            · intro σ20
              show JO w mu_X11_lays vV σ20 [(0, .ref (adr w 306)), (1, .int i15), (2, .int i19)] [] 74 (j_X11_lays_74 i19 σ20) _
              unfold j_X11_lays_74
              refine jo_iinc (pc := 74) (lv' := [(2, .int (i19 + 1)), (0, .ref (adr w 306)), (1, .int i15)]) 2 rfl dX11_lays_74 (congrArg (fun z => i19 + z) (ic_i_1)) (ltb rfl) rfl ?_
              refine jo_goto (pc := 77) dX11_lays_77 (tgt := 30) rfl ?_
              refine jo_lv (lv' := [(0, .ref (adr w 306)), (1, .int i15), (2, .int (i19 + 1))]) [1, 2, 0] rfl ?_
              exact jo_leaf (by rfl) (hF30_19 (σ20, i19 + 1))
            · refine jo_lv (lv' := [(0, .ref (adr w 306)), (1, .int i15), (2, .int i19), (3, .int 0)]) [1, 2, 3, 0] rfl ?_
              refine jo_loop (X := Mem) (fun (z22 : (Mem × Int32)) => z22.1) (fun (z22 : (Mem × Int32)) => [(0, .ref (adr w 306)), (1, .int i15), (2, .int i19), (3, .int z22.2)]) (body := (fun (z22 : (Mem × Int32)) => l_X11_lays_37 i15 i19 z22.1 z22.2)) (fun F37_22 hF37_22 s => ?_) (σ18, 0)
              obtain ⟨σ21, i22⟩ := s
              show JO w mu_X11_lays vV σ21 [(0, .ref (adr w 306)), (1, .int i15), (2, .int i19), (3, .int i22)] [] 37 (l_X11_lays_37 i15 i19 σ21 i22) _
              unfold l_X11_lays_37
              refine jo_iload_n (pc := 37) 3 rfl dX11_lays_37 rfl ?_
              refine jo_iload_n (pc := 38) 2 rfl dX11_lays_38 rfl ?_
              refine jo_icmp_ge (pc := 39) dX11_lays_39 (tgt := 74) rfl ?_ ?_
              · refine jo_lv (lv' := [(0, .ref (adr w 306)), (1, .int i15), (2, .int i19)]) [0, 1, 2] rfl ?_
                exact jo_leaf (by rfl) (h74_20 σ21)
              · refine jo_aload_n (pc := 42) 0 rfl dX11_lays_42 rfl ?_
                refine jo_aload_n (pc := 43) 0 rfl dX11_lays_43 rfl ?_
                refine jo_getz (pc := 44) ok_11_10 (ik_306 hw hN) gw_1303 dX11_lays_44 (fun b23 => ?_)
                refine jo_join1 (S := (Mem × Bool)) (fun (z25 : (Mem × Bool)) => z25.1) (fun (z25 : (Mem × Bool)) => [(0, .ref (adr w 306)), (1, .int i15), (2, .int i19), (3, .int i22)]) (fun (z25 : (Mem × Bool)) => [.int (b2i z25.2), .ref (adr w 306)]) 65 ?_ (fun h65_25 => ?_)
                · intro s
                  obtain ⟨σ24, b25⟩ := s
                  show JO w mu_X11_lays vV σ24 [(0, .ref (adr w 306)), (1, .int i15), (2, .int i19), (3, .int i22)] [.int (b2i b25), .ref (adr w 306)] 65 (j_X11_lays_65 i22 σ24 b25) _
                  unfold j_X11_lays_65
                  refine jo_putzB (pc := 65) ok_11_10 okp_11_10 (ik_306 hw hN) gw_1303 dX11_lays_65 (fun σ26 => ?_)
                  refine jo_iinc (pc := 68) (lv' := [(3, .int (i22 + 1)), (0, .ref (adr w 306)), (1, .int i15), (2, .int i19)]) 3 rfl dX11_lays_68 (congrArg (fun z => i22 + z) (ic_i_1)) (ltb rfl) rfl ?_
                  refine jo_goto (pc := 71) dX11_lays_71 (tgt := 37) rfl ?_
                  refine jo_lv (lv' := [(0, .ref (adr w 306)), (1, .int i15), (2, .int i19), (3, .int (i22 + 1))]) [1, 2, 3, 0] rfl ?_
                  exact jo_leaf (by rfl) (hF37_22 (σ26, i22 + 1))
                · refine jo_joinS (S := Mem) (fun (z27 : Mem) => z27) (fun (z27 : Mem) => [(0, .ref (adr w 306)), (1, .int i15), (2, .int i19), (3, .int i22)]) (fun (z27 : Mem) => [.ref (adr w 306)]) 64 ?_ (fun h64_27 => ?_)
                  · intro σ27
                    show JO w mu_X11_lays vV σ27 [(0, .ref (adr w 306)), (1, .int i15), (2, .int i19), (3, .int i22)] [.ref (adr w 306)] 64 (j_X11_lays_64 σ27) _
                    unfold j_X11_lays_64
                    refine jo_iconst (pc := 64) dX11_lays_64 (ic_i_0) ?_
                    exact jo_leaf (by rfl) (h65_25 (σ27, false))
                  · refine jo_ifz_eq (pc := 47) dX11_lays_47 (tgt := 64) rfl ?_ ?_
                    · exact jo_leaf (by rfl) (h64_27 σ21)
                    · refine jo_aload_n (pc := 50) 0 rfl dX11_lays_50 rfl ?_
                      refine jo_iload_n (pc := 51) 1 rfl dX11_lays_51 rfl ?_
                      refine jo_iload_n (pc := 52) 2 rfl dX11_lays_52 rfl ?_
                      refine jo_iload_n (pc := 53) 3 rfl dX11_lays_53 rfl ?_
                      refine jo_cV_Z_i (pc := 54) (μ' := mu_X11_isAlikeBy) (fx := f_X11_isAlikeBy σ21 i15 i19 i22) (As := [.int i15, .int i19, .int i22]) (c_X11_isAlikeBy hw hN) (ok_X11_isAlikeBy) (ltb rfl) (all3 gw_1483 gw_1485 gw_76) (ik_306 hw hN) (by decide) (q := (RX11, TX11, 39)) rfl rfl rfl rfl (Nat.le_of_ble_eq_true rfl) dX11_lays_54 (fun b28 σ29 => ?_)
                      refine jo_ifz_eq (pc := 57) dX11_lays_57 (tgt := 64) rfl ?_ ?_
                      · exact jo_leaf (by rfl) (h64_27 σ29)
                      · refine jo_iconst (pc := 60) dX11_lays_60 (ic_i_1) ?_
                        refine jo_goto (pc := 61) dX11_lays_61 (tgt := 65) rfl ?_
                        exact jo_leaf (by rfl) (h65_25 (σ29, true))
  · exact jo_return (pc := 7) rfl rfl dX11_lays_7
theorem c_X11_lays {w : Wd} (hw : WOK w) (hN : wn w = NT) {σ : Mem} : ∀ σ', f_X11_lays σ = some σ' → MC w mu_X11_lays none [.ref (adr w 306)] σ σ' := mc_ofV ok_X11_lays rfl (Nat.le_of_ble_eq_true rfl) (t_X11_lays hw hN)
abbrev mu_X11_isConsistent : MD := (yX11_isConsistent, cX11_isConsistent, 1, some .boolean, 36)
theorem ok_X11_isConsistent : MOK mu_X11_isConsistent 0 := ⟨gw_1478, gw_171, (by decide +kernel : plainFor yX11_isConsistent = true), ⟨(by decide +kernel : yX11_isConsistent.cls ≠ "java/lang/invoke/MethodHandle"), (by decide +kernel : yX11_isConsistent.cls ≠ "java/lang/invoke/VarHandle"), (by decide +kernel : (parseMethodDescriptor yX11_isConsistent.desc).map (fun d => d.parameters.length) = some 0)⟩, Nat.le_of_ble_eq_true rfl⟩
noncomputable def f_X11_isConsistent (σ : Mem) : Option (Bool × Mem) :=
  (f_X11_lays σ).bind (fun (σ1 : Mem) => gZ σ1 306 10 (fun (b2 : Bool) => some (b2, σ1)))
theorem t_X11_isConsistent {w : Wd} (hw : WOK w) (hN : wn w = NT) {σ : Mem} : JO w mu_X11_isConsistent vB σ [(0, .ref (adr w 306))] [] 0 (f_X11_isConsistent σ) some := by
  unfold f_X11_isConsistent
  refine jo_aload_n (pc := 0) 0 rfl dX11_isConsistent_0 rfl ?_
  refine jo_cV_V_i (pc := 1) (μ' := mu_X11_lays) (fx := f_X11_lays σ) (As := []) (c_X11_lays hw hN) (ok_X11_lays) (ltb rfl) (all3 gw_1479 gw_1481 gw_75) (ik_306 hw hN) (by decide) (q := (RX11, TX11, 39)) rfl rfl rfl rfl (Nat.le_of_ble_eq_true rfl) dX11_isConsistent_1 (fun σ1 => ?_)
  refine jo_aload_n (pc := 4) 0 rfl dX11_isConsistent_4 rfl ?_
  refine jo_getz (pc := 5) ok_11_10 (ik_306 hw hN) gw_1303 dX11_isConsistent_5 (fun b2 => ?_)
  exact jo_breturn (pc := 8) (b := b2) rfl rfl dX11_isConsistent_8
theorem c_X11_isConsistent {w : Wd} (hw : WOK w) (hN : wn w = NT) {σ : Mem} : ∀ r σ', f_X11_isConsistent σ = some (r, σ') → MC w mu_X11_isConsistent (vB r) [.ref (adr w 306)] σ σ' := mc_of ok_X11_isConsistent rfl (Nat.le_of_ble_eq_true rfl) (t_X11_isConsistent hw hN)
abbrev mu_X11_ones : MD := (yX11_ones, cX11_ones, 3, none, 1)
theorem ok_X11_ones : MOK mu_X11_ones 1 := ⟨gw_1590, gw_171, (by decide +kernel : plainFor yX11_ones = true), ⟨(by decide +kernel : yX11_ones.cls ≠ "java/lang/invoke/MethodHandle"), (by decide +kernel : yX11_ones.cls ≠ "java/lang/invoke/VarHandle"), (by decide +kernel : (parseMethodDescriptor yX11_ones.desc).map (fun d => d.parameters.length) = some 1)⟩, Nat.le_of_ble_eq_true rfl⟩
noncomputable def l_X11_ones_2 (x0 : Int32) (σ1 : Mem) (i2 : Int32) : Option ((Mem × Int32) ⊕ Mem) :=
  if 6 ≤ i2 then (some (Sum.inr σ1)) else ((f_X11_puts σ1 x0 i2 0).bind (fun (σ3 : Mem) => some (Sum.inl (σ3, i2 + 1))))
noncomputable def f_X11_ones (σ : Mem) (x0 : Int32) : Option Mem :=
  loopO (fun (z2 : (Mem × Int32)) => l_X11_ones_2 x0 z2.1 z2.2) (σ, 0)
theorem t_X11_ones {w : Wd} (hw : WOK w) (hN : wn w = NT) {σ : Mem} {x0 : Int32} : JO w mu_X11_ones vV σ [(0, .ref (adr w 306)), (1, .int x0)] [] 0 (f_X11_ones σ x0) (fun z => some ((), z)) := by
  unfold f_X11_ones
  refine jo_iconst (pc := 0) dX11_ones_0 (ic_i_0) ?_
  refine jo_istore_n (pc := 1) (lv' := [(2, .int 0), (0, .ref (adr w 306)), (1, .int x0)]) dX11_ones_1 rfl (ltb rfl) rfl ?_
  refine jo_lv (lv' := [(0, .ref (adr w 306)), (1, .int x0), (2, .int 0)]) [1, 2, 0] rfl ?_
  refine jo_loop (X := Mem) (fun (z2 : (Mem × Int32)) => z2.1) (fun (z2 : (Mem × Int32)) => [(0, .ref (adr w 306)), (1, .int x0), (2, .int z2.2)]) (body := (fun (z2 : (Mem × Int32)) => l_X11_ones_2 x0 z2.1 z2.2)) (fun F2_2 hF2_2 s => ?_) (σ, 0)
  obtain ⟨σ1, i2⟩ := s
  show JO w mu_X11_ones vV σ1 [(0, .ref (adr w 306)), (1, .int x0), (2, .int i2)] [] 2 (l_X11_ones_2 x0 σ1 i2) _
  unfold l_X11_ones_2
  refine jo_iload_n (pc := 2) 2 rfl dX11_ones_2 rfl ?_
  refine jo_bipush (pc := 3) dX11_ones_3 (ic_b_6) ?_
  refine jo_icmp_ge (pc := 5) dX11_ones_5 (tgt := 21) rfl ?_ ?_
  · exact jo_return (pc := 21) rfl rfl dX11_ones_21
  · refine jo_aload_n (pc := 8) 0 rfl dX11_ones_8 rfl ?_
    refine jo_iload_n (pc := 9) 1 rfl dX11_ones_9 rfl ?_
    refine jo_iload_n (pc := 10) 2 rfl dX11_ones_10 rfl ?_
    refine jo_lconst (pc := 11) dX11_ones_11 (ic_l_0) ?_
    refine jo_cV_V_i (pc := 12) (μ' := mu_X11_puts) (fx := f_X11_puts σ1 x0 i2 0) (As := [.int x0, .int i2, .long 0]) (c_X11_puts hw hN) (ok_X11_puts) (ltb rfl) (all3 gw_1519 gw_1521 gw_85) (ik_306 hw hN) (by decide) (q := (RX11, TX11, 39)) rfl rfl rfl rfl (Nat.le_of_ble_eq_true rfl) dX11_ones_12 (fun σ3 => ?_)
    refine jo_iinc (pc := 15) (lv' := [(2, .int (i2 + 1)), (0, .ref (adr w 306)), (1, .int x0)]) 2 rfl dX11_ones_15 (congrArg (fun z => i2 + z) (ic_i_1)) (ltb rfl) rfl ?_
    refine jo_goto (pc := 18) dX11_ones_18 (tgt := 2) rfl ?_
    refine jo_lv (lv' := [(0, .ref (adr w 306)), (1, .int x0), (2, .int (i2 + 1))]) [1, 2, 0] rfl ?_
    exact jo_leaf (by rfl) (hF2_2 (σ3, i2 + 1))
theorem c_X11_ones {w : Wd} (hw : WOK w) (hN : wn w = NT) {σ : Mem} {x0 : Int32} : ∀ σ', f_X11_ones σ x0 = some σ' → MC w mu_X11_ones none [.ref (adr w 306), .int x0] σ σ' := mc_ofV ok_X11_ones rfl (Nat.le_of_ble_eq_true rfl) (t_X11_ones hw hN)
abbrev mu_X11_copies : MD := (yX11_copies, cX11_copies, 4, none, 1)
theorem ok_X11_copies : MOK mu_X11_copies 2 := ⟨gw_1594, gw_171, (by decide +kernel : plainFor yX11_copies = true), ⟨(by decide +kernel : yX11_copies.cls ≠ "java/lang/invoke/MethodHandle"), (by decide +kernel : yX11_copies.cls ≠ "java/lang/invoke/VarHandle"), (by decide +kernel : (parseMethodDescriptor yX11_copies.desc).map (fun d => d.parameters.length) = some 2)⟩, Nat.le_of_ble_eq_true rfl⟩
noncomputable def l_X11_copies_2 (x0 : Int32) (x1 : Int32) (σ1 : Mem) (i2 : Int32) : Option ((Mem × Int32) ⊕ Mem) :=
  if 6 ≤ i2 then (some (Sum.inr σ1)) else ((f_X11_of σ1 x0 i2).bind (fun (v3 : Int64) => (f_X11_puts σ1 x1 i2 v3).bind (fun (σ4 : Mem) => some (Sum.inl (σ4, i2 + 1)))))
noncomputable def f_X11_copies (σ : Mem) (x0 : Int32) (x1 : Int32) : Option Mem :=
  loopO (fun (z2 : (Mem × Int32)) => l_X11_copies_2 x0 x1 z2.1 z2.2) (σ, 0)
theorem t_X11_copies {w : Wd} (hw : WOK w) (hN : wn w = NT) {σ : Mem} {x0 : Int32} {x1 : Int32} : JO w mu_X11_copies vV σ [(0, .ref (adr w 306)), (1, .int x0), (2, .int x1)] [] 0 (f_X11_copies σ x0 x1) (fun z => some ((), z)) := by
  unfold f_X11_copies
  refine jo_iconst (pc := 0) dX11_copies_0 (ic_i_0) ?_
  refine jo_istore_n (pc := 1) (lv' := [(3, .int 0), (0, .ref (adr w 306)), (1, .int x0), (2, .int x1)]) dX11_copies_1 rfl (ltb rfl) rfl ?_
  refine jo_lv (lv' := [(0, .ref (adr w 306)), (1, .int x0), (2, .int x1), (3, .int 0)]) [1, 2, 3, 0] rfl ?_
  refine jo_loop (X := Mem) (fun (z2 : (Mem × Int32)) => z2.1) (fun (z2 : (Mem × Int32)) => [(0, .ref (adr w 306)), (1, .int x0), (2, .int x1), (3, .int z2.2)]) (body := (fun (z2 : (Mem × Int32)) => l_X11_copies_2 x0 x1 z2.1 z2.2)) (fun F2_2 hF2_2 s => ?_) (σ, 0)
  obtain ⟨σ1, i2⟩ := s
  show JO w mu_X11_copies vV σ1 [(0, .ref (adr w 306)), (1, .int x0), (2, .int x1), (3, .int i2)] [] 2 (l_X11_copies_2 x0 x1 σ1 i2) _
  unfold l_X11_copies_2
  refine jo_iload_n (pc := 2) 3 rfl dX11_copies_2 rfl ?_
  refine jo_bipush (pc := 3) dX11_copies_3 (ic_b_6) ?_
  refine jo_icmp_ge (pc := 5) dX11_copies_5 (tgt := 26) rfl ?_ ?_
  · exact jo_return (pc := 26) rfl rfl dX11_copies_26
  · refine jo_aload_n (pc := 8) 0 rfl dX11_copies_8 rfl ?_
    refine jo_iload_n (pc := 9) 2 rfl dX11_copies_9 rfl ?_
    refine jo_iload_n (pc := 10) 3 rfl dX11_copies_10 rfl ?_
    refine jo_aload_n (pc := 11) 0 rfl dX11_copies_11 rfl ?_
    refine jo_iload_n (pc := 12) 1 rfl dX11_copies_12 rfl ?_
    refine jo_iload_n (pc := 13) 3 rfl dX11_copies_13 rfl ?_
    refine jo_cV_J_p (pc := 14) (μ' := mu_X11_of) (fx := f_X11_of σ1 x0 i2) (As := [.int x0, .int i2]) (c_X11_of hw hN) (ok_X11_of) (ltb rfl) (all3 gw_1527 gw_1529 gw_87) (ik_306 hw hN) (by decide) (q := (RX11, TX11, 39)) rfl rfl rfl rfl (Nat.le_of_ble_eq_true rfl) dX11_copies_14 (fun v3 => ?_)
    refine jo_cV_V_i (pc := 17) (μ' := mu_X11_puts) (fx := f_X11_puts σ1 x1 i2 v3) (As := [.int x1, .int i2, .long v3]) (c_X11_puts hw hN) (ok_X11_puts) (ltb rfl) (all3 gw_1519 gw_1521 gw_85) (ik_306 hw hN) (by decide) (q := (RX11, TX11, 39)) rfl rfl rfl rfl (Nat.le_of_ble_eq_true rfl) dX11_copies_17 (fun σ4 => ?_)
    refine jo_iinc (pc := 20) (lv' := [(3, .int (i2 + 1)), (0, .ref (adr w 306)), (1, .int x0), (2, .int x1)]) 3 rfl dX11_copies_20 (congrArg (fun z => i2 + z) (ic_i_1)) (ltb rfl) rfl ?_
    refine jo_goto (pc := 23) dX11_copies_23 (tgt := 2) rfl ?_
    refine jo_lv (lv' := [(0, .ref (adr w 306)), (1, .int x0), (2, .int x1), (3, .int (i2 + 1))]) [1, 2, 3, 0] rfl ?_
    exact jo_leaf (by rfl) (hF2_2 (σ4, i2 + 1))
theorem c_X11_copies {w : Wd} (hw : WOK w) (hN : wn w = NT) {σ : Mem} {x0 : Int32} {x1 : Int32} : ∀ σ', f_X11_copies σ x0 x1 = some σ' → MC w mu_X11_copies none [.ref (adr w 306), .int x0, .int x1] σ σ' := mc_ofV ok_X11_copies rfl (Nat.le_of_ble_eq_true rfl) (t_X11_copies hw hN)
abbrev mu_X11_laysRegister : MD := (yX11_laysRegister, cX11_laysRegister, 4, none, 1)
theorem ok_X11_laysRegister : MOK mu_X11_laysRegister 2 := ⟨gw_1562, gw_171, (by decide +kernel : plainFor yX11_laysRegister = true), ⟨(by decide +kernel : yX11_laysRegister.cls ≠ "java/lang/invoke/MethodHandle"), (by decide +kernel : yX11_laysRegister.cls ≠ "java/lang/invoke/VarHandle"), (by decide +kernel : (parseMethodDescriptor yX11_laysRegister.desc).map (fun d => d.parameters.length) = some 2)⟩, Nat.le_of_ble_eq_true rfl⟩
noncomputable def l_X11_laysRegister_2 (x0 : Int32) (x1 : Int32) (σ1 : Mem) (i2 : Int32) : Option ((Mem × Int32) ⊕ Mem) :=
  if 6 ≤ i2 then (some (Sum.inr σ1)) else ((f_X11_ofRow σ1 x1 i2).bind (fun (v3 : Int32) => (f_X11_puts σ1 x0 i2 (Int32.toInt64 v3)).bind (fun (σ4 : Mem) => some (Sum.inl (σ4, i2 + 1)))))
noncomputable def f_X11_laysRegister (σ : Mem) (x0 : Int32) (x1 : Int32) : Option Mem :=
  loopO (fun (z2 : (Mem × Int32)) => l_X11_laysRegister_2 x0 x1 z2.1 z2.2) (σ, 0)
theorem t_X11_laysRegister {w : Wd} (hw : WOK w) (hN : wn w = NT) {σ : Mem} {x0 : Int32} {x1 : Int32} : JO w mu_X11_laysRegister vV σ [(0, .ref (adr w 306)), (1, .int x0), (2, .int x1)] [] 0 (f_X11_laysRegister σ x0 x1) (fun z => some ((), z)) := by
  unfold f_X11_laysRegister
  refine jo_iconst (pc := 0) dX11_laysRegister_0 (ic_i_0) ?_
  refine jo_istore_n (pc := 1) (lv' := [(3, .int 0), (0, .ref (adr w 306)), (1, .int x0), (2, .int x1)]) dX11_laysRegister_1 rfl (ltb rfl) rfl ?_
  refine jo_lv (lv' := [(0, .ref (adr w 306)), (1, .int x0), (2, .int x1), (3, .int 0)]) [1, 2, 3, 0] rfl ?_
  refine jo_loop (X := Mem) (fun (z2 : (Mem × Int32)) => z2.1) (fun (z2 : (Mem × Int32)) => [(0, .ref (adr w 306)), (1, .int x0), (2, .int x1), (3, .int z2.2)]) (body := (fun (z2 : (Mem × Int32)) => l_X11_laysRegister_2 x0 x1 z2.1 z2.2)) (fun F2_2 hF2_2 s => ?_) (σ, 0)
  obtain ⟨σ1, i2⟩ := s
  show JO w mu_X11_laysRegister vV σ1 [(0, .ref (adr w 306)), (1, .int x0), (2, .int x1), (3, .int i2)] [] 2 (l_X11_laysRegister_2 x0 x1 σ1 i2) _
  unfold l_X11_laysRegister_2
  refine jo_iload_n (pc := 2) 3 rfl dX11_laysRegister_2 rfl ?_
  refine jo_bipush (pc := 3) dX11_laysRegister_3 (ic_b_6) ?_
  refine jo_icmp_ge (pc := 5) dX11_laysRegister_5 (tgt := 27) rfl ?_ ?_
  · exact jo_return (pc := 27) rfl rfl dX11_laysRegister_27
  · refine jo_aload_n (pc := 8) 0 rfl dX11_laysRegister_8 rfl ?_
    refine jo_iload_n (pc := 9) 1 rfl dX11_laysRegister_9 rfl ?_
    refine jo_iload_n (pc := 10) 3 rfl dX11_laysRegister_10 rfl ?_
    refine jo_aload_n (pc := 11) 0 rfl dX11_laysRegister_11 rfl ?_
    refine jo_iload_n (pc := 12) 2 rfl dX11_laysRegister_12 rfl ?_
    refine jo_iload_n (pc := 13) 3 rfl dX11_laysRegister_13 rfl ?_
    refine jo_cV_I_p (pc := 14) (μ' := mu_X11_ofRow) (fx := f_X11_ofRow σ1 x1 i2) (As := [.int x1, .int i2]) (c_X11_ofRow hw hN) (ok_X11_ofRow) (ltb rfl) (all3 gw_1563 gw_1565 gw_95) (ik_306 hw hN) (by decide) (q := (RX11, TX11, 39)) rfl rfl rfl rfl (Nat.le_of_ble_eq_true rfl) dX11_laysRegister_14 (fun v3 => ?_)
    refine jo_i2l (pc := 17) dX11_laysRegister_17 ?_
    refine jo_cV_V_i (pc := 18) (μ' := mu_X11_puts) (fx := f_X11_puts σ1 x0 i2 (Int32.toInt64 v3)) (As := [.int x0, .int i2, .long (Int32.toInt64 v3)]) (c_X11_puts hw hN) (ok_X11_puts) (ltb rfl) (all3 gw_1519 gw_1521 gw_85) (ik_306 hw hN) (by decide) (q := (RX11, TX11, 39)) rfl rfl rfl rfl (Nat.le_of_ble_eq_true rfl) dX11_laysRegister_18 (fun σ4 => ?_)
    refine jo_iinc (pc := 21) (lv' := [(3, .int (i2 + 1)), (0, .ref (adr w 306)), (1, .int x0), (2, .int x1)]) 3 rfl dX11_laysRegister_21 (congrArg (fun z => i2 + z) (ic_i_1)) (ltb rfl) rfl ?_
    refine jo_goto (pc := 24) dX11_laysRegister_24 (tgt := 2) rfl ?_
    refine jo_lv (lv' := [(0, .ref (adr w 306)), (1, .int x0), (2, .int x1), (3, .int (i2 + 1))]) [1, 2, 3, 0] rfl ?_
    exact jo_leaf (by rfl) (hF2_2 (σ4, i2 + 1))
theorem c_X11_laysRegister {w : Wd} (hw : WOK w) (hN : wn w = NT) {σ : Mem} {x0 : Int32} {x1 : Int32} : ∀ σ', f_X11_laysRegister σ x0 x1 = some σ' → MC w mu_X11_laysRegister none [.ref (adr w 306), .int x0, .int x1] σ σ' := mc_ofV ok_X11_laysRegister rfl (Nat.le_of_ble_eq_true rfl) (t_X11_laysRegister hw hN)
end
section
abbrev mu_X11_inverse : MD := (yX11_inverse, cX11_inverse, 4, none, 4)
theorem ok_X11_inverse : MOK mu_X11_inverse 2 := ⟨gw_1586, gw_171, (by decide +kernel : plainFor yX11_inverse = true), ⟨(by decide +kernel : yX11_inverse.cls ≠ "java/lang/invoke/MethodHandle"), (by decide +kernel : yX11_inverse.cls ≠ "java/lang/invoke/VarHandle"), (by decide +kernel : (parseMethodDescriptor yX11_inverse.desc).map (fun d => d.parameters.length) = some 2)⟩, Nat.le_of_ble_eq_true rfl⟩
noncomputable def l_X11_inverse_7 (x0 : Int32) (x1 : Int32) (σ2 : Mem) (i3 : Int32) : Option ((Mem × Int32) ⊕ Mem) :=
  (f_X11_n σ2).bind (fun (v4 : Int32) => if v4 ≤ i3 then (some (Sum.inr σ2)) else ((f_X11_copies σ2 x0 (x1 + 1)).bind (fun (σ5 : Mem) => (f_X11_times σ5 (x1 + 1) x1).bind (fun (σ6 : Mem) => (f_X11_of σ6 (x1 + 1) i3).bind (fun (v7 : Int64) => (f_X11_puts σ6 x1 i3 (-v7)).bind (fun (σ8 : Mem) => some (Sum.inl (σ8, i3 + 1))))))))
noncomputable def f_X11_inverse (σ : Mem) (x0 : Int32) (x1 : Int32) : Option Mem :=
  (f_X11_ones σ x1).bind (fun (σ1 : Mem) => loopO (fun (z3 : (Mem × Int32)) => l_X11_inverse_7 x0 x1 z3.1 z3.2) (σ1, 0))
theorem t_X11_inverse {w : Wd} (hw : WOK w) (hN : wn w = NT) {σ : Mem} {x0 : Int32} {x1 : Int32} : JO w mu_X11_inverse vV σ [(0, .ref (adr w 306)), (1, .int x0), (2, .int x1)] [] 0 (f_X11_inverse σ x0 x1) (fun z => some ((), z)) := by
  unfold f_X11_inverse
  refine jo_aload_n (pc := 0) 0 rfl dX11_inverse_0 rfl ?_
  refine jo_iload_n (pc := 1) 2 rfl dX11_inverse_1 rfl ?_
  refine jo_cV_V_i (pc := 2) (μ' := mu_X11_ones) (fx := f_X11_ones σ x1) (As := [.int x1]) (c_X11_ones hw hN) (ok_X11_ones) (ltb rfl) (all3 gw_1587 gw_1589 gw_99) (ik_306 hw hN) (by decide) (q := (RX11, TX11, 39)) rfl rfl rfl rfl (Nat.le_of_ble_eq_true rfl) dX11_inverse_2 (fun σ1 => ?_)
  refine jo_iconst (pc := 5) dX11_inverse_5 (ic_i_0) ?_
  refine jo_istore_n (pc := 6) (lv' := [(3, .int 0), (0, .ref (adr w 306)), (1, .int x0), (2, .int x1)]) dX11_inverse_6 rfl (ltb rfl) rfl ?_
  refine jo_lv (lv' := [(0, .ref (adr w 306)), (1, .int x0), (2, .int x1), (3, .int 0)]) [1, 2, 3, 0] rfl ?_
  refine jo_loop (X := Mem) (fun (z3 : (Mem × Int32)) => z3.1) (fun (z3 : (Mem × Int32)) => [(0, .ref (adr w 306)), (1, .int x0), (2, .int x1), (3, .int z3.2)]) (body := (fun (z3 : (Mem × Int32)) => l_X11_inverse_7 x0 x1 z3.1 z3.2)) (fun F7_3 hF7_3 s => ?_) (σ1, 0)
  obtain ⟨σ2, i3⟩ := s
  show JO w mu_X11_inverse vV σ2 [(0, .ref (adr w 306)), (1, .int x0), (2, .int x1), (3, .int i3)] [] 7 (l_X11_inverse_7 x0 x1 σ2 i3) _
  unfold l_X11_inverse_7
  refine jo_iload_n (pc := 7) 3 rfl dX11_inverse_7 rfl ?_
  refine jo_aload_n (pc := 8) 0 rfl dX11_inverse_8 rfl ?_
  refine jo_cV_I_p (pc := 9) (μ' := mu_X11_n) (fx := f_X11_n σ2) (As := []) (c_X11_n hw hN) (ok_X11_n) (ltb rfl) (all3 gw_1441 gw_1443 gw_68) (ik_306 hw hN) (by decide) (q := (RX11, TX11, 39)) rfl rfl rfl rfl (Nat.le_of_ble_eq_true rfl) dX11_inverse_9 (fun v4 => ?_)
  refine jo_icmp_ge (pc := 12) dX11_inverse_12 (tgt := 52) rfl ?_ ?_
  · exact jo_return (pc := 52) rfl rfl dX11_inverse_52
  · refine jo_aload_n (pc := 15) 0 rfl dX11_inverse_15 rfl ?_
    refine jo_iload_n (pc := 16) 1 rfl dX11_inverse_16 rfl ?_
    refine jo_iload_n (pc := 17) 2 rfl dX11_inverse_17 rfl ?_
    refine jo_iconst (pc := 18) dX11_inverse_18 (ic_i_1) ?_
    refine jo_iadd (pc := 19) dX11_inverse_19 ?_
    refine jo_cV_V_i (pc := 20) (μ' := mu_X11_copies) (fx := f_X11_copies σ2 x0 (x1 + 1)) (As := [.int x0, .int (x1 + 1)]) (c_X11_copies hw hN) (ok_X11_copies) (ltb rfl) (all3 gw_1591 gw_1593 gw_100) (ik_306 hw hN) (by decide) (q := (RX11, TX11, 39)) rfl rfl rfl rfl (Nat.le_of_ble_eq_true rfl) dX11_inverse_20 (fun σ5 => ?_)
    refine jo_aload_n (pc := 23) 0 rfl dX11_inverse_23 rfl ?_
    refine jo_iload_n (pc := 24) 2 rfl dX11_inverse_24 rfl ?_
    refine jo_iconst (pc := 25) dX11_inverse_25 (ic_i_1) ?_
    refine jo_iadd (pc := 26) dX11_inverse_26 ?_
    refine jo_iload_n (pc := 27) 2 rfl dX11_inverse_27 rfl ?_
    refine jo_cV_V_i (pc := 28) (μ' := mu_X11_times) (fx := f_X11_times σ5 (x1 + 1) x1) (As := [.int (x1 + 1), .int x1]) (c_X11_times hw hN) (ok_X11_times) (ltb rfl) (all3 gw_1523 gw_1525 gw_86) (ik_306 hw hN) (by decide) (q := (RX11, TX11, 39)) rfl rfl rfl rfl (Nat.le_of_ble_eq_true rfl) dX11_inverse_28 (fun σ6 => ?_)
    refine jo_aload_n (pc := 31) 0 rfl dX11_inverse_31 rfl ?_
    refine jo_iload_n (pc := 32) 2 rfl dX11_inverse_32 rfl ?_
    refine jo_iload_n (pc := 33) 3 rfl dX11_inverse_33 rfl ?_
    refine jo_aload_n (pc := 34) 0 rfl dX11_inverse_34 rfl ?_
    refine jo_iload_n (pc := 35) 2 rfl dX11_inverse_35 rfl ?_
    refine jo_iconst (pc := 36) dX11_inverse_36 (ic_i_1) ?_
    refine jo_iadd (pc := 37) dX11_inverse_37 ?_
    refine jo_iload_n (pc := 38) 3 rfl dX11_inverse_38 rfl ?_
    refine jo_cV_J_p (pc := 39) (μ' := mu_X11_of) (fx := f_X11_of σ6 (x1 + 1) i3) (As := [.int (x1 + 1), .int i3]) (c_X11_of hw hN) (ok_X11_of) (ltb rfl) (all3 gw_1527 gw_1529 gw_87) (ik_306 hw hN) (by decide) (q := (RX11, TX11, 39)) rfl rfl rfl rfl (Nat.le_of_ble_eq_true rfl) dX11_inverse_39 (fun v7 => ?_)
    refine jo_lneg (pc := 42) dX11_inverse_42 ?_
    refine jo_cV_V_i (pc := 43) (μ' := mu_X11_puts) (fx := f_X11_puts σ6 x1 i3 (-v7)) (As := [.int x1, .int i3, .long (-v7)]) (c_X11_puts hw hN) (ok_X11_puts) (ltb rfl) (all3 gw_1519 gw_1521 gw_85) (ik_306 hw hN) (by decide) (q := (RX11, TX11, 39)) rfl rfl rfl rfl (Nat.le_of_ble_eq_true rfl) dX11_inverse_43 (fun σ8 => ?_)
    refine jo_iinc (pc := 46) (lv' := [(3, .int (i3 + 1)), (0, .ref (adr w 306)), (1, .int x0), (2, .int x1)]) 3 rfl dX11_inverse_46 (congrArg (fun z => i3 + z) (ic_i_1)) (ltb rfl) rfl ?_
    refine jo_goto (pc := 49) dX11_inverse_49 (tgt := 7) rfl ?_
    refine jo_lv (lv' := [(0, .ref (adr w 306)), (1, .int x0), (2, .int x1), (3, .int (i3 + 1))]) [1, 2, 3, 0] rfl ?_
    exact jo_leaf (by rfl) (hF7_3 (σ8, i3 + 1))
theorem c_X11_inverse {w : Wd} (hw : WOK w) (hN : wn w = NT) {σ : Mem} {x0 : Int32} {x1 : Int32} : ∀ σ', f_X11_inverse σ x0 x1 = some σ' → MC w mu_X11_inverse none [.ref (adr w 306), .int x0, .int x1] σ σ' := mc_ofV ok_X11_inverse rfl (Nat.le_of_ble_eq_true rfl) (t_X11_inverse hw hN)
abbrev mu_X11_raises : MD := (yX11_raises, cX11_raises, 5, none, 5)
theorem ok_X11_raises : MOK mu_X11_raises 3 := ⟨gw_1604, gw_171, (by decide +kernel : plainFor yX11_raises = true), ⟨(by decide +kernel : yX11_raises.cls ≠ "java/lang/invoke/MethodHandle"), (by decide +kernel : yX11_raises.cls ≠ "java/lang/invoke/VarHandle"), (by decide +kernel : (parseMethodDescriptor yX11_raises.desc).map (fun d => d.parameters.length) = some 3)⟩, Nat.le_of_ble_eq_true rfl⟩
noncomputable def l_X11_raises_40 (x1 : Int32) (σ4 : Mem) (i5 : Int32) : Option ((Mem × Int32) ⊕ Mem) :=
  if i5 ≤ 0 then (some (Sum.inr σ4)) else ((f_X11_times σ4 x1 (x1 + 2)).bind (fun (σ6 : Mem) => some (Sum.inl (σ6, i5 + (-1)))))
noncomputable def j_X11_raises_38 (x1 : Int32) (σ2 : Mem) (i3 : Int32) : Option Mem :=
  loopO (fun (z5 : (Mem × Int32)) => l_X11_raises_40 x1 z5.1 z5.2) (σ2, i3)
noncomputable def j_X11_raises_23 (x1 : Int32) (x2 : Int32) (σ1 : Mem) : Option Mem :=
  (f_X11_ones σ1 x1).bind (fun (σ2 : Mem) => (if 0 ≤ x2 then (some x2) else (some (-x2)) : Option Int32).bind (fun (z3 : Int32) => j_X11_raises_38 x1 σ2 z3))
noncomputable def f_X11_raises (σ : Mem) (x0 : Int32) (x1 : Int32) (x2 : Int32) : Option Mem :=
  (if 0 ≤ x2 then ((f_X11_copies σ x0 (x1 + 2)).bind (fun (σ7 : Mem) => some σ7)) else ((f_X11_inverse σ x0 (x1 + 2)).bind (fun (σ8 : Mem) => some σ8)) : Option Mem).bind (fun (z1 : Mem) => j_X11_raises_23 x1 x2 z1)
theorem t_X11_raises {w : Wd} (hw : WOK w) (hN : wn w = NT) {σ : Mem} {x0 : Int32} {x1 : Int32} {x2 : Int32} : JO w mu_X11_raises vV σ [(0, .ref (adr w 306)), (1, .int x0), (2, .int x1), (3, .int x2)] [] 0 (f_X11_raises σ x0 x1 x2) (fun z => some ((), z)) := by
  unfold f_X11_raises
  refine jo_iload_n (pc := 0) 3 rfl dX11_raises_0 rfl ?_
  refine jo_join1 (S := Mem) (fun (z1 : Mem) => z1) (fun (z1 : Mem) => [(0, .ref (adr w 306)), (2, .int x1), (3, .int x2)]) (fun (z1 : Mem) => []) 23 ?_ (fun h23_1 => ?_)
  · intro σ1
    show JO w mu_X11_raises vV σ1 [(0, .ref (adr w 306)), (2, .int x1), (3, .int x2)] [] 23 (j_X11_raises_23 x1 x2 σ1) _
    unfold j_X11_raises_23
    refine jo_aload_n (pc := 23) 0 rfl dX11_raises_23 rfl ?_
    refine jo_iload_n (pc := 24) 1 rfl dX11_raises_24 rfl ?_
    refine jo_cV_V_i (pc := 25) (μ' := mu_X11_ones) (fx := f_X11_ones σ1 x1) (As := [.int x1]) (c_X11_ones hw hN) (ok_X11_ones) (ltb rfl) (all3 gw_1587 gw_1589 gw_99) (ik_306 hw hN) (by decide) (q := (RX11, TX11, 39)) rfl rfl rfl rfl (Nat.le_of_ble_eq_true rfl) dX11_raises_25 (fun σ2 => ?_)
    refine jo_iload_n (pc := 28) 2 rfl dX11_raises_28 rfl ?_
    refine jo_join1 (S := Int32) (fun (z3 : Int32) => σ2) (fun (z3 : Int32) => [(0, .ref (adr w 306)), (2, .int x1)]) (fun (z3 : Int32) => [.int z3]) 38 ?_ (fun h38_3 => ?_)
    · intro i3
      show JO w mu_X11_raises vV σ2 [(0, .ref (adr w 306)), (2, .int x1)] [.int i3] 38 (j_X11_raises_38 x1 σ2 i3) _
      unfold j_X11_raises_38
      refine jo_istore (pc := 38) (lv' := [(4, .int i3), (0, .ref (adr w 306)), (2, .int x1)]) dX11_raises_38 (ltb rfl) rfl ?_
      refine jo_lv (lv' := [(0, .ref (adr w 306)), (2, .int x1), (4, .int i3)]) [1, 2, 0] rfl ?_
      refine jo_loop (X := Mem) (fun (z5 : (Mem × Int32)) => z5.1) (fun (z5 : (Mem × Int32)) => [(0, .ref (adr w 306)), (2, .int x1), (4, .int z5.2)]) (body := (fun (z5 : (Mem × Int32)) => l_X11_raises_40 x1 z5.1 z5.2)) (fun F40_5 hF40_5 s => ?_) (σ2, i3)
      obtain ⟨σ4, i5⟩ := s
      show JO w mu_X11_raises vV σ4 [(0, .ref (adr w 306)), (2, .int x1), (4, .int i5)] [] 40 (l_X11_raises_40 x1 σ4 i5) _
      unfold l_X11_raises_40
      refine jo_iload (pc := 40) 2 rfl dX11_raises_40 ?_
      refine jo_if_le (pc := 42) dX11_raises_42 (tgt := 59) rfl ?_ ?_
      · exact jo_return (pc := 59) rfl rfl dX11_raises_59
      · refine jo_aload_n (pc := 45) 0 rfl dX11_raises_45 rfl ?_
        refine jo_iload_n (pc := 46) 1 rfl dX11_raises_46 rfl ?_
        refine jo_iload_n (pc := 47) 1 rfl dX11_raises_47 rfl ?_
        refine jo_iconst (pc := 48) dX11_raises_48 (ic_i_2) ?_
        refine jo_iadd (pc := 49) dX11_raises_49 ?_
        refine jo_cV_V_i (pc := 50) (μ' := mu_X11_times) (fx := f_X11_times σ4 x1 (x1 + 2)) (As := [.int x1, .int (x1 + 2)]) (c_X11_times hw hN) (ok_X11_times) (ltb rfl) (all3 gw_1523 gw_1525 gw_86) (ik_306 hw hN) (by decide) (q := (RX11, TX11, 39)) rfl rfl rfl rfl (Nat.le_of_ble_eq_true rfl) dX11_raises_50 (fun σ6 => ?_)
        refine jo_iinc (pc := 53) (lv' := [(4, .int (i5 + (-1))), (0, .ref (adr w 306)), (2, .int x1)]) 2 rfl dX11_raises_53 (congrArg (fun z => i5 + z) (ic_i_m1)) (ltb rfl) rfl ?_
        refine jo_goto (pc := 56) dX11_raises_56 (tgt := 40) rfl ?_
        refine jo_lv (lv' := [(0, .ref (adr w 306)), (2, .int x1), (4, .int (i5 + (-1)))]) [1, 2, 0] rfl ?_
        exact jo_leaf (by rfl) (hF40_5 (σ6, i5 + (-1)))
    · refine jo_if_ge (pc := 29) dX11_raises_29 (tgt := 37) rfl ?_ ?_
      · refine jo_iload_n (pc := 37) 2 rfl dX11_raises_37 rfl ?_
        refine jo_lv (lv' := [(0, .ref (adr w 306)), (2, .int x1)]) [0, 1] rfl ?_
        exact jo_leaf (by rfl) (h38_3 x2)
      · refine jo_iload_n (pc := 32) 2 rfl dX11_raises_32 rfl ?_
        refine jo_ineg (pc := 33) dX11_raises_33 ?_
        refine jo_goto (pc := 34) dX11_raises_34 (tgt := 38) rfl ?_
        refine jo_lv (lv' := [(0, .ref (adr w 306)), (2, .int x1)]) [0, 1] rfl ?_
        exact jo_leaf (by rfl) (h38_3 (-x2))
  · refine jo_if_ge (pc := 1) dX11_raises_1 (tgt := 15) rfl ?_ ?_
    · refine jo_aload_n (pc := 15) 0 rfl dX11_raises_15 rfl ?_
      refine jo_iload_n (pc := 16) 1 rfl dX11_raises_16 rfl ?_
      refine jo_iload_n (pc := 17) 2 rfl dX11_raises_17 rfl ?_
      refine jo_iconst (pc := 18) dX11_raises_18 (ic_i_2) ?_
      refine jo_iadd (pc := 19) dX11_raises_19 ?_
      refine jo_cV_V_i (pc := 20) (μ' := mu_X11_copies) (fx := f_X11_copies σ x0 (x1 + 2)) (As := [.int x0, .int (x1 + 2)]) (c_X11_copies hw hN) (ok_X11_copies) (ltb rfl) (all3 gw_1591 gw_1593 gw_100) (ik_306 hw hN) (by decide) (q := (RX11, TX11, 39)) rfl rfl rfl rfl (Nat.le_of_ble_eq_true rfl) dX11_raises_20 (fun σ7 => ?_)
      refine jo_lv (lv' := [(0, .ref (adr w 306)), (2, .int x1), (3, .int x2)]) [0, 2, 3] rfl ?_
      exact jo_leaf (by rfl) (h23_1 σ7)
    · refine jo_aload_n (pc := 4) 0 rfl dX11_raises_4 rfl ?_
      refine jo_iload_n (pc := 5) 1 rfl dX11_raises_5 rfl ?_
      refine jo_iload_n (pc := 6) 2 rfl dX11_raises_6 rfl ?_
      refine jo_iconst (pc := 7) dX11_raises_7 (ic_i_2) ?_
      refine jo_iadd (pc := 8) dX11_raises_8 ?_
      refine jo_cV_V_i (pc := 9) (μ' := mu_X11_inverse) (fx := f_X11_inverse σ x0 (x1 + 2)) (As := [.int x0, .int (x1 + 2)]) (c_X11_inverse hw hN) (ok_X11_inverse) (ltb rfl) (all3 gw_1583 gw_1585 gw_98) (ik_306 hw hN) (by decide) (q := (RX11, TX11, 39)) rfl rfl rfl rfl (Nat.le_of_ble_eq_true rfl) dX11_raises_9 (fun σ8 => ?_)
      refine jo_goto (pc := 12) dX11_raises_12 (tgt := 23) rfl ?_
      refine jo_lv (lv' := [(0, .ref (adr w 306)), (2, .int x1), (3, .int x2)]) [0, 2, 3] rfl ?_
      exact jo_leaf (by rfl) (h23_1 σ8)
theorem c_X11_raises {w : Wd} (hw : WOK w) (hN : wn w = NT) {σ : Mem} {x0 : Int32} {x1 : Int32} {x2 : Int32} : ∀ σ', f_X11_raises σ x0 x1 x2 = some σ' → MC w mu_X11_raises none [.ref (adr w 306), .int x0, .int x1, .int x2] σ σ' := mc_ofV ok_X11_raises rfl (Nat.le_of_ble_eq_true rfl) (t_X11_raises hw hN)
abbrev mu_X11_commutator : MD := (yX11_commutator, cX11_commutator, 4, none, 5)
theorem ok_X11_commutator : MOK mu_X11_commutator 3 := ⟨gw_1612, gw_171, (by decide +kernel : plainFor yX11_commutator = true), ⟨(by decide +kernel : yX11_commutator.cls ≠ "java/lang/invoke/MethodHandle"), (by decide +kernel : yX11_commutator.cls ≠ "java/lang/invoke/VarHandle"), (by decide +kernel : (parseMethodDescriptor yX11_commutator.desc).map (fun d => d.parameters.length) = some 3)⟩, Nat.le_of_ble_eq_true rfl⟩
noncomputable def f_X11_commutator (σ : Mem) (x0 : Int32) (x1 : Int32) (x2 : Int32) : Option Mem :=
  (f_X11_inverse σ x0 x2).bind (fun (σ1 : Mem) => (f_X11_inverse σ1 x1 (x2 + 1)).bind (fun (σ2 : Mem) => (f_X11_times σ2 x2 (x2 + 1)).bind (fun (σ3 : Mem) => (f_X11_times σ3 x2 x0).bind (fun (σ4 : Mem) => (f_X11_times σ4 x2 x1).bind (fun (σ5 : Mem) => some σ5)))))
theorem t_X11_commutator {w : Wd} (hw : WOK w) (hN : wn w = NT) {σ : Mem} {x0 : Int32} {x1 : Int32} {x2 : Int32} : JO w mu_X11_commutator vV σ [(0, .ref (adr w 306)), (1, .int x0), (2, .int x1), (3, .int x2)] [] 0 (f_X11_commutator σ x0 x1 x2) (fun z => some ((), z)) := by
  unfold f_X11_commutator
  refine jo_aload_n (pc := 0) 0 rfl dX11_commutator_0 rfl ?_
  refine jo_iload_n (pc := 1) 1 rfl dX11_commutator_1 rfl ?_
  refine jo_iload_n (pc := 2) 3 rfl dX11_commutator_2 rfl ?_
  refine jo_cV_V_i (pc := 3) (μ' := mu_X11_inverse) (fx := f_X11_inverse σ x0 x2) (As := [.int x0, .int x2]) (c_X11_inverse hw hN) (ok_X11_inverse) (ltb rfl) (all3 gw_1583 gw_1585 gw_98) (ik_306 hw hN) (by decide) (q := (RX11, TX11, 39)) rfl rfl rfl rfl (Nat.le_of_ble_eq_true rfl) dX11_commutator_3 (fun σ1 => ?_)
  refine jo_aload_n (pc := 6) 0 rfl dX11_commutator_6 rfl ?_
  refine jo_iload_n (pc := 7) 2 rfl dX11_commutator_7 rfl ?_
  refine jo_iload_n (pc := 8) 3 rfl dX11_commutator_8 rfl ?_
  refine jo_iconst (pc := 9) dX11_commutator_9 (ic_i_1) ?_
  refine jo_iadd (pc := 10) dX11_commutator_10 ?_
  refine jo_cV_V_i (pc := 11) (μ' := mu_X11_inverse) (fx := f_X11_inverse σ1 x1 (x2 + 1)) (As := [.int x1, .int (x2 + 1)]) (c_X11_inverse hw hN) (ok_X11_inverse) (ltb rfl) (all3 gw_1583 gw_1585 gw_98) (ik_306 hw hN) (by decide) (q := (RX11, TX11, 39)) rfl rfl rfl rfl (Nat.le_of_ble_eq_true rfl) dX11_commutator_11 (fun σ2 => ?_)
  refine jo_aload_n (pc := 14) 0 rfl dX11_commutator_14 rfl ?_
  refine jo_iload_n (pc := 15) 3 rfl dX11_commutator_15 rfl ?_
  refine jo_iload_n (pc := 16) 3 rfl dX11_commutator_16 rfl ?_
  refine jo_iconst (pc := 17) dX11_commutator_17 (ic_i_1) ?_
  refine jo_iadd (pc := 18) dX11_commutator_18 ?_
  refine jo_cV_V_i (pc := 19) (μ' := mu_X11_times) (fx := f_X11_times σ2 x2 (x2 + 1)) (As := [.int x2, .int (x2 + 1)]) (c_X11_times hw hN) (ok_X11_times) (ltb rfl) (all3 gw_1523 gw_1525 gw_86) (ik_306 hw hN) (by decide) (q := (RX11, TX11, 39)) rfl rfl rfl rfl (Nat.le_of_ble_eq_true rfl) dX11_commutator_19 (fun σ3 => ?_)
  refine jo_aload_n (pc := 22) 0 rfl dX11_commutator_22 rfl ?_
  refine jo_iload_n (pc := 23) 3 rfl dX11_commutator_23 rfl ?_
  refine jo_iload_n (pc := 24) 1 rfl dX11_commutator_24 rfl ?_
  refine jo_cV_V_i (pc := 25) (μ' := mu_X11_times) (fx := f_X11_times σ3 x2 x0) (As := [.int x2, .int x0]) (c_X11_times hw hN) (ok_X11_times) (ltb rfl) (all3 gw_1523 gw_1525 gw_86) (ik_306 hw hN) (by decide) (q := (RX11, TX11, 39)) rfl rfl rfl rfl (Nat.le_of_ble_eq_true rfl) dX11_commutator_25 (fun σ4 => ?_)
  refine jo_aload_n (pc := 28) 0 rfl dX11_commutator_28 rfl ?_
  refine jo_iload_n (pc := 29) 3 rfl dX11_commutator_29 rfl ?_
  refine jo_iload_n (pc := 30) 2 rfl dX11_commutator_30 rfl ?_
  refine jo_cV_V_i (pc := 31) (μ' := mu_X11_times) (fx := f_X11_times σ4 x2 x1) (As := [.int x2, .int x1]) (c_X11_times hw hN) (ok_X11_times) (ltb rfl) (all3 gw_1523 gw_1525 gw_86) (ik_306 hw hN) (by decide) (q := (RX11, TX11, 39)) rfl rfl rfl rfl (Nat.le_of_ble_eq_true rfl) dX11_commutator_31 (fun σ5 => ?_)
  exact jo_return (pc := 34) rfl rfl dX11_commutator_34
theorem c_X11_commutator {w : Wd} (hw : WOK w) (hN : wn w = NT) {σ : Mem} {x0 : Int32} {x1 : Int32} {x2 : Int32} : ∀ σ', f_X11_commutator σ x0 x1 x2 = some σ' → MC w mu_X11_commutator none [.ref (adr w 306), .int x0, .int x1, .int x2] σ σ' := mc_ofV ok_X11_commutator rfl (Nat.le_of_ble_eq_true rfl) (t_X11_commutator hw hN)
abbrev mu_X11_conjugates : MD := (yX11_conjugates, cX11_conjugates, 4, none, 5)
theorem ok_X11_conjugates : MOK mu_X11_conjugates 3 := ⟨gw_1620, gw_171, (by decide +kernel : plainFor yX11_conjugates = true), ⟨(by decide +kernel : yX11_conjugates.cls ≠ "java/lang/invoke/MethodHandle"), (by decide +kernel : yX11_conjugates.cls ≠ "java/lang/invoke/VarHandle"), (by decide +kernel : (parseMethodDescriptor yX11_conjugates.desc).map (fun d => d.parameters.length) = some 3)⟩, Nat.le_of_ble_eq_true rfl⟩
noncomputable def f_X11_conjugates (σ : Mem) (x0 : Int32) (x1 : Int32) (x2 : Int32) : Option Mem :=
  (f_X11_inverse σ x1 x2).bind (fun (σ1 : Mem) => (f_X11_times σ1 x2 x0).bind (fun (σ2 : Mem) => (f_X11_times σ2 x2 x1).bind (fun (σ3 : Mem) => some σ3)))
theorem t_X11_conjugates {w : Wd} (hw : WOK w) (hN : wn w = NT) {σ : Mem} {x0 : Int32} {x1 : Int32} {x2 : Int32} : JO w mu_X11_conjugates vV σ [(0, .ref (adr w 306)), (1, .int x0), (2, .int x1), (3, .int x2)] [] 0 (f_X11_conjugates σ x0 x1 x2) (fun z => some ((), z)) := by
  unfold f_X11_conjugates
  refine jo_aload_n (pc := 0) 0 rfl dX11_conjugates_0 rfl ?_
  refine jo_iload_n (pc := 1) 2 rfl dX11_conjugates_1 rfl ?_
  refine jo_iload_n (pc := 2) 3 rfl dX11_conjugates_2 rfl ?_
  refine jo_cV_V_i (pc := 3) (μ' := mu_X11_inverse) (fx := f_X11_inverse σ x1 x2) (As := [.int x1, .int x2]) (c_X11_inverse hw hN) (ok_X11_inverse) (ltb rfl) (all3 gw_1583 gw_1585 gw_98) (ik_306 hw hN) (by decide) (q := (RX11, TX11, 39)) rfl rfl rfl rfl (Nat.le_of_ble_eq_true rfl) dX11_conjugates_3 (fun σ1 => ?_)
  refine jo_aload_n (pc := 6) 0 rfl dX11_conjugates_6 rfl ?_
  refine jo_iload_n (pc := 7) 3 rfl dX11_conjugates_7 rfl ?_
  refine jo_iload_n (pc := 8) 1 rfl dX11_conjugates_8 rfl ?_
  refine jo_cV_V_i (pc := 9) (μ' := mu_X11_times) (fx := f_X11_times σ1 x2 x0) (As := [.int x2, .int x0]) (c_X11_times hw hN) (ok_X11_times) (ltb rfl) (all3 gw_1523 gw_1525 gw_86) (ik_306 hw hN) (by decide) (q := (RX11, TX11, 39)) rfl rfl rfl rfl (Nat.le_of_ble_eq_true rfl) dX11_conjugates_9 (fun σ2 => ?_)
  refine jo_aload_n (pc := 12) 0 rfl dX11_conjugates_12 rfl ?_
  refine jo_iload_n (pc := 13) 3 rfl dX11_conjugates_13 rfl ?_
  refine jo_iload_n (pc := 14) 2 rfl dX11_conjugates_14 rfl ?_
  refine jo_cV_V_i (pc := 15) (μ' := mu_X11_times) (fx := f_X11_times σ2 x2 x1) (As := [.int x2, .int x1]) (c_X11_times hw hN) (ok_X11_times) (ltb rfl) (all3 gw_1523 gw_1525 gw_86) (ik_306 hw hN) (by decide) (q := (RX11, TX11, 39)) rfl rfl rfl rfl (Nat.le_of_ble_eq_true rfl) dX11_conjugates_15 (fun σ3 => ?_)
  exact jo_return (pc := 18) rfl rfl dX11_conjugates_18
theorem c_X11_conjugates {w : Wd} (hw : WOK w) (hN : wn w = NT) {σ : Mem} {x0 : Int32} {x1 : Int32} {x2 : Int32} : ∀ σ', f_X11_conjugates σ x0 x1 x2 = some σ' → MC w mu_X11_conjugates none [.ref (adr w 306), .int x0, .int x1, .int x2] σ σ' := mc_ofV ok_X11_conjugates rfl (Nat.le_of_ble_eq_true rfl) (t_X11_conjugates hw hN)
abbrev mu_X11_isElement : MD := (yX11_isElement, cX11_isElement, 3, some .boolean, 1)
theorem ok_X11_isElement : MOK mu_X11_isElement 1 := ⟨gw_1574, gw_171, (by decide +kernel : plainFor yX11_isElement = true), ⟨(by decide +kernel : yX11_isElement.cls ≠ "java/lang/invoke/MethodHandle"), (by decide +kernel : yX11_isElement.cls ≠ "java/lang/invoke/VarHandle"), (by decide +kernel : (parseMethodDescriptor yX11_isElement.desc).map (fun d => d.parameters.length) = some 1)⟩, Nat.le_of_ble_eq_true rfl⟩
noncomputable def l_X11_isElement_2 (σ : Mem) (x0 : Int32) (i1 : Int32) : Option (Int32 ⊕ Bool) :=
  (f_X11_n σ).bind (fun (v2 : Int32) => if v2 ≤ i1 then (some (Sum.inr true)) else ((f_X11_of σ x0 i1).bind (fun (v3 : Int64) => (f_X11_isIn σ v3 (-999) 999).bind (fun (b4 : Bool) => if b4 then some (Sum.inl (i1 + 1)) else some (Sum.inr false)))))
noncomputable def f_X11_isElement (σ : Mem) (x0 : Int32) : Option Bool :=
  loopO (fun (z1 : Int32) => l_X11_isElement_2 σ x0 z1) 0
theorem t_X11_isElement {w : Wd} (hw : WOK w) (hN : wn w = NT) {σ : Mem} {x0 : Int32} : JO w mu_X11_isElement vB σ [(0, .ref (adr w 306)), (1, .int x0)] [] 0 (f_X11_isElement σ x0) (fun z => some (z, σ)) := by
  unfold f_X11_isElement
  refine jo_iconst (pc := 0) dX11_isElement_0 (ic_i_0) ?_
  refine jo_istore_n (pc := 1) (lv' := [(2, .int 0), (0, .ref (adr w 306)), (1, .int x0)]) dX11_isElement_1 rfl (ltb rfl) rfl ?_
  refine jo_lv (lv' := [(0, .ref (adr w 306)), (1, .int x0), (2, .int 0)]) [1, 2, 0] rfl ?_
  refine jo_loop (X := Bool) (fun (z1 : Int32) => σ) (fun (z1 : Int32) => [(0, .ref (adr w 306)), (1, .int x0), (2, .int z1)]) (body := (fun (z1 : Int32) => l_X11_isElement_2 σ x0 z1)) (fun F2_1 hF2_1 s => ?_) 0
  revert s; intro i1
  show JO w mu_X11_isElement vB σ [(0, .ref (adr w 306)), (1, .int x0), (2, .int i1)] [] 2 (l_X11_isElement_2 σ x0 i1) _
  unfold l_X11_isElement_2
  refine jo_iload_n (pc := 2) 2 rfl dX11_isElement_2 rfl ?_
  refine jo_aload_n (pc := 3) 0 rfl dX11_isElement_3 rfl ?_
  refine jo_cV_I_p (pc := 4) (μ' := mu_X11_n) (fx := f_X11_n σ) (As := []) (c_X11_n hw hN) (ok_X11_n) (ltb rfl) (all3 gw_1441 gw_1443 gw_68) (ik_306 hw hN) (by decide) (q := (RX11, TX11, 39)) rfl rfl rfl rfl (Nat.le_of_ble_eq_true rfl) dX11_isElement_4 (fun v2 => ?_)
  refine jo_icmp_ge (pc := 7) dX11_isElement_7 (tgt := 37) rfl ?_ ?_
  · refine jo_iconst (pc := 37) dX11_isElement_37 (ic_i_1) ?_
    exact jo_breturn (pc := 38) (b := true) rfl rfl dX11_isElement_38
  · refine jo_aload_n (pc := 10) 0 rfl dX11_isElement_10 rfl ?_
    refine jo_aload_n (pc := 11) 0 rfl dX11_isElement_11 rfl ?_
    refine jo_iload_n (pc := 12) 1 rfl dX11_isElement_12 rfl ?_
    refine jo_iload_n (pc := 13) 2 rfl dX11_isElement_13 rfl ?_
    refine jo_cV_J_p (pc := 14) (μ' := mu_X11_of) (fx := f_X11_of σ x0 i1) (As := [.int x0, .int i1]) (c_X11_of hw hN) (ok_X11_of) (ltb rfl) (all3 gw_1527 gw_1529 gw_87) (ik_306 hw hN) (by decide) (q := (RX11, TX11, 39)) rfl rfl rfl rfl (Nat.le_of_ble_eq_true rfl) dX11_isElement_14 (fun v3 => ?_)
    refine jo_ldc2 (pc := 17) dX11_isElement_17 gw_1557 ?_
    refine jo_ldc2 (pc := 20) dX11_isElement_20 gw_1558 ?_
    refine jo_cV_Z_p (pc := 23) (μ' := mu_X11_isIn) (fx := f_X11_isIn σ v3 (-999) 999) (As := [.long v3, .long (-999), .long 999]) (c_X11_isIn hw hN) (ok_X11_isIn) (ltb rfl) (all3 gw_1420 gw_1422 gw_64) (ik_306 hw hN) (by decide) (q := (RX11, TX11, 39)) rfl rfl rfl rfl (Nat.le_of_ble_eq_true rfl) dX11_isElement_23 (fun b4 => ?_)
    refine jo_ifz_ne (pc := 26) dX11_isElement_26 (tgt := 31) rfl ?_ ?_
    · refine jo_iinc (pc := 31) (lv' := [(2, .int (i1 + 1)), (0, .ref (adr w 306)), (1, .int x0)]) 2 rfl dX11_isElement_31 (congrArg (fun z => i1 + z) (ic_i_1)) (ltb rfl) rfl ?_
      refine jo_goto (pc := 34) dX11_isElement_34 (tgt := 2) rfl ?_
      refine jo_lv (lv' := [(0, .ref (adr w 306)), (1, .int x0), (2, .int (i1 + 1))]) [1, 2, 0] rfl ?_
      exact jo_leaf (by rfl) (hF2_1 (i1 + 1))
    · refine jo_iconst (pc := 29) dX11_isElement_29 (ic_i_0) ?_
      exact jo_breturn (pc := 30) (b := false) rfl rfl dX11_isElement_30
theorem c_X11_isElement {w : Wd} (hw : WOK w) (hN : wn w = NT) {σ : Mem} {x0 : Int32} : ∀ r, f_X11_isElement σ x0 = some r → MC w mu_X11_isElement (vB r) [.ref (adr w 306), .int x0] σ σ := mc_ofP ok_X11_isElement rfl (Nat.le_of_ble_eq_true rfl) (t_X11_isElement hw hN)
abbrev mu_X11_isOne : MD := (yX11_isOne, cX11_isOne, 3, some .boolean, 1)
theorem ok_X11_isOne : MOK mu_X11_isOne 1 := ⟨gw_1753, gw_171, (by decide +kernel : plainFor yX11_isOne = true), ⟨(by decide +kernel : yX11_isOne.cls ≠ "java/lang/invoke/MethodHandle"), (by decide +kernel : yX11_isOne.cls ≠ "java/lang/invoke/VarHandle"), (by decide +kernel : (parseMethodDescriptor yX11_isOne.desc).map (fun d => d.parameters.length) = some 1)⟩, Nat.le_of_ble_eq_true rfl⟩
noncomputable def l_X11_isOne_2 (σ : Mem) (x0 : Int32) (i1 : Int32) : Option (Int32 ⊕ Bool) :=
  (f_X11_n σ).bind (fun (v2 : Int32) => if v2 ≤ i1 then (some (Sum.inr true)) else ((f_X11_of σ x0 i1).bind (fun (v3 : Int64) => if v3 = 0 then (some (Sum.inl (i1 + 1))) else (some (Sum.inr false)))))
noncomputable def f_X11_isOne (σ : Mem) (x0 : Int32) : Option Bool :=
  loopO (fun (z1 : Int32) => l_X11_isOne_2 σ x0 z1) 0
theorem t_X11_isOne {w : Wd} (hw : WOK w) (hN : wn w = NT) {σ : Mem} {x0 : Int32} : JO w mu_X11_isOne vB σ [(0, .ref (adr w 306)), (1, .int x0)] [] 0 (f_X11_isOne σ x0) (fun z => some (z, σ)) := by
  unfold f_X11_isOne
  refine jo_iconst (pc := 0) dX11_isOne_0 (ic_i_0) ?_
  refine jo_istore_n (pc := 1) (lv' := [(2, .int 0), (0, .ref (adr w 306)), (1, .int x0)]) dX11_isOne_1 rfl (ltb rfl) rfl ?_
  refine jo_lv (lv' := [(0, .ref (adr w 306)), (1, .int x0), (2, .int 0)]) [1, 2, 0] rfl ?_
  refine jo_loop (X := Bool) (fun (z1 : Int32) => σ) (fun (z1 : Int32) => [(0, .ref (adr w 306)), (1, .int x0), (2, .int z1)]) (body := (fun (z1 : Int32) => l_X11_isOne_2 σ x0 z1)) (fun F2_1 hF2_1 s => ?_) 0
  revert s; intro i1
  show JO w mu_X11_isOne vB σ [(0, .ref (adr w 306)), (1, .int x0), (2, .int i1)] [] 2 (l_X11_isOne_2 σ x0 i1) _
  unfold l_X11_isOne_2
  refine jo_iload_n (pc := 2) 2 rfl dX11_isOne_2 rfl ?_
  refine jo_aload_n (pc := 3) 0 rfl dX11_isOne_3 rfl ?_
  refine jo_cV_I_p (pc := 4) (μ' := mu_X11_n) (fx := f_X11_n σ) (As := []) (c_X11_n hw hN) (ok_X11_n) (ltb rfl) (all3 gw_1441 gw_1443 gw_68) (ik_306 hw hN) (by decide) (q := (RX11, TX11, 39)) rfl rfl rfl rfl (Nat.le_of_ble_eq_true rfl) dX11_isOne_4 (fun v2 => ?_)
  refine jo_icmp_ge (pc := 7) dX11_isOne_7 (tgt := 29) rfl ?_ ?_
  · refine jo_iconst (pc := 29) dX11_isOne_29 (ic_i_1) ?_
    exact jo_breturn (pc := 30) (b := true) rfl rfl dX11_isOne_30
  · refine jo_aload_n (pc := 10) 0 rfl dX11_isOne_10 rfl ?_
    refine jo_iload_n (pc := 11) 1 rfl dX11_isOne_11 rfl ?_
    refine jo_iload_n (pc := 12) 2 rfl dX11_isOne_12 rfl ?_
    refine jo_cV_J_p (pc := 13) (μ' := mu_X11_of) (fx := f_X11_of σ x0 i1) (As := [.int x0, .int i1]) (c_X11_of hw hN) (ok_X11_of) (ltb rfl) (all3 gw_1527 gw_1529 gw_87) (ik_306 hw hN) (by decide) (q := (RX11, TX11, 39)) rfl rfl rfl rfl (Nat.le_of_ble_eq_true rfl) dX11_isOne_13 (fun v3 => ?_)
    refine jo_lconst (pc := 16) dX11_isOne_16 (ic_l_0) ?_
    refine jo_lcmp_eq (pc := 17) dX11_isOne_17 dX11_isOne_18 (tgt := 23) rfl ?_ ?_
    · refine jo_iinc (pc := 23) (lv' := [(2, .int (i1 + 1)), (0, .ref (adr w 306)), (1, .int x0)]) 2 rfl dX11_isOne_23 (congrArg (fun z => i1 + z) (ic_i_1)) (ltb rfl) rfl ?_
      refine jo_goto (pc := 26) dX11_isOne_26 (tgt := 2) rfl ?_
      refine jo_lv (lv' := [(0, .ref (adr w 306)), (1, .int x0), (2, .int (i1 + 1))]) [1, 2, 0] rfl ?_
      exact jo_leaf (by rfl) (hF2_1 (i1 + 1))
    · refine jo_iconst (pc := 21) dX11_isOne_21 (ic_i_0) ?_
      exact jo_breturn (pc := 22) (b := false) rfl rfl dX11_isOne_22
theorem c_X11_isOne {w : Wd} (hw : WOK w) (hN : wn w = NT) {σ : Mem} {x0 : Int32} : ∀ r, f_X11_isOne σ x0 = some r → MC w mu_X11_isOne (vB r) [.ref (adr w 306), .int x0] σ σ := mc_ofP ok_X11_isOne rfl (Nat.le_of_ble_eq_true rfl) (t_X11_isOne hw hN)
abbrev mu_X11_areSame : MD := (yX11_areSame, cX11_areSame, 4, some .boolean, 1)
theorem ok_X11_areSame : MOK mu_X11_areSame 2 := ⟨gw_1644, gw_171, (by decide +kernel : plainFor yX11_areSame = true), ⟨(by decide +kernel : yX11_areSame.cls ≠ "java/lang/invoke/MethodHandle"), (by decide +kernel : yX11_areSame.cls ≠ "java/lang/invoke/VarHandle"), (by decide +kernel : (parseMethodDescriptor yX11_areSame.desc).map (fun d => d.parameters.length) = some 2)⟩, Nat.le_of_ble_eq_true rfl⟩
noncomputable def l_X11_areSame_2 (σ : Mem) (x0 : Int32) (x1 : Int32) (i1 : Int32) : Option (Int32 ⊕ Bool) :=
  (f_X11_n σ).bind (fun (v2 : Int32) => if v2 ≤ i1 then (some (Sum.inr true)) else ((f_X11_of σ x0 i1).bind (fun (v3 : Int64) => (f_X11_of σ x1 i1).bind (fun (v4 : Int64) => if v3 = v4 then (some (Sum.inl (i1 + 1))) else (some (Sum.inr false))))))
noncomputable def f_X11_areSame (σ : Mem) (x0 : Int32) (x1 : Int32) : Option Bool :=
  loopO (fun (z1 : Int32) => l_X11_areSame_2 σ x0 x1 z1) 0
theorem t_X11_areSame {w : Wd} (hw : WOK w) (hN : wn w = NT) {σ : Mem} {x0 : Int32} {x1 : Int32} : JO w mu_X11_areSame vB σ [(0, .ref (adr w 306)), (1, .int x0), (2, .int x1)] [] 0 (f_X11_areSame σ x0 x1) (fun z => some (z, σ)) := by
  unfold f_X11_areSame
  refine jo_iconst (pc := 0) dX11_areSame_0 (ic_i_0) ?_
  refine jo_istore_n (pc := 1) (lv' := [(3, .int 0), (0, .ref (adr w 306)), (1, .int x0), (2, .int x1)]) dX11_areSame_1 rfl (ltb rfl) rfl ?_
  refine jo_lv (lv' := [(0, .ref (adr w 306)), (1, .int x0), (2, .int x1), (3, .int 0)]) [1, 2, 3, 0] rfl ?_
  refine jo_loop (X := Bool) (fun (z1 : Int32) => σ) (fun (z1 : Int32) => [(0, .ref (adr w 306)), (1, .int x0), (2, .int x1), (3, .int z1)]) (body := (fun (z1 : Int32) => l_X11_areSame_2 σ x0 x1 z1)) (fun F2_1 hF2_1 s => ?_) 0
  revert s; intro i1
  show JO w mu_X11_areSame vB σ [(0, .ref (adr w 306)), (1, .int x0), (2, .int x1), (3, .int i1)] [] 2 (l_X11_areSame_2 σ x0 x1 i1) _
  unfold l_X11_areSame_2
  refine jo_iload_n (pc := 2) 3 rfl dX11_areSame_2 rfl ?_
  refine jo_aload_n (pc := 3) 0 rfl dX11_areSame_3 rfl ?_
  refine jo_cV_I_p (pc := 4) (μ' := mu_X11_n) (fx := f_X11_n σ) (As := []) (c_X11_n hw hN) (ok_X11_n) (ltb rfl) (all3 gw_1441 gw_1443 gw_68) (ik_306 hw hN) (by decide) (q := (RX11, TX11, 39)) rfl rfl rfl rfl (Nat.le_of_ble_eq_true rfl) dX11_areSame_4 (fun v2 => ?_)
  refine jo_icmp_ge (pc := 7) dX11_areSame_7 (tgt := 34) rfl ?_ ?_
  · refine jo_iconst (pc := 34) dX11_areSame_34 (ic_i_1) ?_
    exact jo_breturn (pc := 35) (b := true) rfl rfl dX11_areSame_35
  · refine jo_aload_n (pc := 10) 0 rfl dX11_areSame_10 rfl ?_
    refine jo_iload_n (pc := 11) 1 rfl dX11_areSame_11 rfl ?_
    refine jo_iload_n (pc := 12) 3 rfl dX11_areSame_12 rfl ?_
    refine jo_cV_J_p (pc := 13) (μ' := mu_X11_of) (fx := f_X11_of σ x0 i1) (As := [.int x0, .int i1]) (c_X11_of hw hN) (ok_X11_of) (ltb rfl) (all3 gw_1527 gw_1529 gw_87) (ik_306 hw hN) (by decide) (q := (RX11, TX11, 39)) rfl rfl rfl rfl (Nat.le_of_ble_eq_true rfl) dX11_areSame_13 (fun v3 => ?_)
    refine jo_aload_n (pc := 16) 0 rfl dX11_areSame_16 rfl ?_
    refine jo_iload_n (pc := 17) 2 rfl dX11_areSame_17 rfl ?_
    refine jo_iload_n (pc := 18) 3 rfl dX11_areSame_18 rfl ?_
    refine jo_cV_J_p (pc := 19) (μ' := mu_X11_of) (fx := f_X11_of σ x1 i1) (As := [.int x1, .int i1]) (c_X11_of hw hN) (ok_X11_of) (ltb rfl) (all3 gw_1527 gw_1529 gw_87) (ik_306 hw hN) (by decide) (q := (RX11, TX11, 39)) rfl rfl rfl rfl (Nat.le_of_ble_eq_true rfl) dX11_areSame_19 (fun v4 => ?_)
    refine jo_lcmp_eq (pc := 22) dX11_areSame_22 dX11_areSame_23 (tgt := 28) rfl ?_ ?_
    · refine jo_iinc (pc := 28) (lv' := [(3, .int (i1 + 1)), (0, .ref (adr w 306)), (1, .int x0), (2, .int x1)]) 3 rfl dX11_areSame_28 (congrArg (fun z => i1 + z) (ic_i_1)) (ltb rfl) rfl ?_
      refine jo_goto (pc := 31) dX11_areSame_31 (tgt := 2) rfl ?_
      refine jo_lv (lv' := [(0, .ref (adr w 306)), (1, .int x0), (2, .int x1), (3, .int (i1 + 1))]) [1, 2, 3, 0] rfl ?_
      exact jo_leaf (by rfl) (hF2_1 (i1 + 1))
    · refine jo_iconst (pc := 26) dX11_areSame_26 (ic_i_0) ?_
      exact jo_breturn (pc := 27) (b := false) rfl rfl dX11_areSame_27
theorem c_X11_areSame {w : Wd} (hw : WOK w) (hN : wn w = NT) {σ : Mem} {x0 : Int32} {x1 : Int32} : ∀ r, f_X11_areSame σ x0 x1 = some r → MC w mu_X11_areSame (vB r) [.ref (adr w 306), .int x0, .int x1] σ σ := mc_ofP ok_X11_areSame rfl (Nat.le_of_ble_eq_true rfl) (t_X11_areSame hw hN)
abbrev mu_X11_isRegister : MD := (yX11_isRegister, cX11_isRegister, 2, some .boolean, 1)
theorem ok_X11_isRegister : MOK mu_X11_isRegister 1 := ⟨gw_1473, gw_171, (by decide +kernel : plainFor yX11_isRegister = true), ⟨(by decide +kernel : yX11_isRegister.cls ≠ "java/lang/invoke/MethodHandle"), (by decide +kernel : yX11_isRegister.cls ≠ "java/lang/invoke/VarHandle"), (by decide +kernel : (parseMethodDescriptor yX11_isRegister.desc).map (fun d => d.parameters.length) = some 1)⟩, Nat.le_of_ble_eq_true rfl⟩
noncomputable def f_X11_isRegister (σ : Mem) (x0 : Int32) : Option Bool :=
  (f_X11_isIn σ (Int32.toInt64 x0) 0 9).bind (fun (b1 : Bool) => some b1)
theorem t_X11_isRegister {w : Wd} (hw : WOK w) (hN : wn w = NT) {σ : Mem} {x0 : Int32} : JO w mu_X11_isRegister vB σ [(0, .ref (adr w 306)), (1, .int x0)] [] 0 (f_X11_isRegister σ x0) (fun z => some (z, σ)) := by
  unfold f_X11_isRegister
  refine jo_aload_n (pc := 0) 0 rfl dX11_isRegister_0 rfl ?_
  refine jo_iload_n (pc := 1) 1 rfl dX11_isRegister_1 rfl ?_
  refine jo_i2l (pc := 2) dX11_isRegister_2 ?_
  refine jo_lconst (pc := 3) dX11_isRegister_3 (ic_l_0) ?_
  refine jo_ldc2 (pc := 4) dX11_isRegister_4 gw_1474 ?_
  refine jo_cV_Z_p (pc := 7) (μ' := mu_X11_isIn) (fx := f_X11_isIn σ (Int32.toInt64 x0) 0 9) (As := [.long (Int32.toInt64 x0), .long 0, .long 9]) (c_X11_isIn hw hN) (ok_X11_isIn) (ltb rfl) (all3 gw_1420 gw_1422 gw_64) (ik_306 hw hN) (by decide) (q := (RX11, TX11, 39)) rfl rfl rfl rfl (Nat.le_of_ble_eq_true rfl) dX11_isRegister_7 (fun b1 => ?_)
  exact jo_breturn (pc := 10) (b := b1) rfl rfl dX11_isRegister_10
theorem c_X11_isRegister {w : Wd} (hw : WOK w) (hN : wn w = NT) {σ : Mem} {x0 : Int32} : ∀ r, f_X11_isRegister σ x0 = some r → MC w mu_X11_isRegister (vB r) [.ref (adr w 306), .int x0] σ σ := mc_ofP ok_X11_isRegister rfl (Nat.le_of_ble_eq_true rfl) (t_X11_isRegister hw hN)
abbrev mu_X11_gives : MD := (yX11_gives, cX11_gives, 4, some .boolean, 2)
theorem ok_X11_gives : MOK mu_X11_gives 2 := ⟨gw_1570, gw_171, (by decide +kernel : plainFor yX11_gives = true), ⟨(by decide +kernel : yX11_gives.cls ≠ "java/lang/invoke/MethodHandle"), (by decide +kernel : yX11_gives.cls ≠ "java/lang/invoke/VarHandle"), (by decide +kernel : (parseMethodDescriptor yX11_gives.desc).map (fun d => d.parameters.length) = some 2)⟩, Nat.le_of_ble_eq_true rfl⟩
noncomputable def j_X11_gives_65 (x0 : Int32) (σ3 : Mem) (i4 : Int32) (i6 : Int32) : Option ((Mem × Int32) ⊕ (Bool × Mem)) :=
  pI σ3 307 ((223 + (6 * x0)) + i4) i6 (fun (σ7 : Mem) => some (Sum.inl (σ7, i4 + 1)))
noncomputable def l_X11_gives_26 (x0 : Int32) (x1 : Int32) (σ3 : Mem) (i4 : Int32) : Option ((Mem × Int32) ⊕ (Bool × Mem)) :=
  if 6 ≤ i4 then (some (Sum.inr (true, σ3))) else ((f_X11_n σ3).bind (fun (v5 : Int32) => (if v5 ≤ i4 then (some 0) else ((f_X11_of σ3 x1 i4).bind (fun (v8 : Int64) => some (Int64.toInt32 v8))) : Option Int32).bind (fun (z6 : Int32) => j_X11_gives_65 x0 σ3 i4 z6)))
noncomputable def f_X11_gives (σ : Mem) (x0 : Int32) (x1 : Int32) : Option (Bool × Mem) :=
  (f_X11_isElement σ x1).bind (fun (b1 : Bool) => if b1 then (f_X11_keepsAct σ).bind (fun (σ2 : Mem) => loopO (fun (z4 : (Mem × Int32)) => l_X11_gives_26 x0 x1 z4.1 z4.2) (σ2, 0)) else gF σ 306 4 (fun (v9 : Int32) => pF σ 306 4 (v9 + 1) (fun (σ10 : Mem) => some (false, σ10))))
theorem t_X11_gives {w : Wd} (hw : WOK w) (hN : wn w = NT) {σ : Mem} {x0 : Int32} {x1 : Int32} : JO w mu_X11_gives vB σ [(0, .ref (adr w 306)), (1, .int x0), (2, .int x1)] [] 0 (f_X11_gives σ x0 x1) some := by
  unfold f_X11_gives
  refine jo_aload_n (pc := 0) 0 rfl dX11_gives_0 rfl ?_
  refine jo_iload_n (pc := 1) 2 rfl dX11_gives_1 rfl ?_
  refine jo_cV_Z_p (pc := 2) (μ' := mu_X11_isElement) (fx := f_X11_isElement σ x1) (As := [.int x1]) (c_X11_isElement hw hN) (ok_X11_isElement) (ltb rfl) (all3 gw_1571 gw_1573 gw_97) (ik_306 hw hN) (by decide) (q := (RX11, TX11, 39)) rfl rfl rfl rfl (Nat.le_of_ble_eq_true rfl) dX11_gives_2 (fun b1 => ?_)
  refine jo_ifz_ne (pc := 5) dX11_gives_5 (tgt := 20) rfl ?_ ?_
  · refine jo_aload_n (pc := 20) 0 rfl dX11_gives_20 rfl ?_
    refine jo_cV_V_i (pc := 21) (μ' := mu_X11_keepsAct) (fx := f_X11_keepsAct σ) (As := []) (c_X11_keepsAct hw hN) (ok_X11_keepsAct) (ltb rfl) (all3 gw_1429 gw_1431 gw_66) (ik_306 hw hN) (by decide) (q := (RX11, TX11, 39)) rfl rfl rfl rfl (Nat.le_of_ble_eq_true rfl) dX11_gives_21 (fun σ2 => ?_)
    refine jo_iconst (pc := 24) dX11_gives_24 (ic_i_0) ?_
    refine jo_istore_n (pc := 25) (lv' := [(3, .int 0), (0, .ref (adr w 306)), (1, .int x0), (2, .int x1)]) dX11_gives_25 rfl (ltb rfl) rfl ?_
    refine jo_lv (lv' := [(0, .ref (adr w 306)), (1, .int x0), (2, .int x1), (3, .int 0)]) [1, 2, 3, 0] rfl ?_
    refine jo_loop (X := (Bool × Mem)) (fun (z4 : (Mem × Int32)) => z4.1) (fun (z4 : (Mem × Int32)) => [(0, .ref (adr w 306)), (1, .int x0), (2, .int x1), (3, .int z4.2)]) (body := (fun (z4 : (Mem × Int32)) => l_X11_gives_26 x0 x1 z4.1 z4.2)) (fun F26_4 hF26_4 s => ?_) (σ2, 0)
    obtain ⟨σ3, i4⟩ := s
    show JO w mu_X11_gives vB σ3 [(0, .ref (adr w 306)), (1, .int x0), (2, .int x1), (3, .int i4)] [] 26 (l_X11_gives_26 x0 x1 σ3 i4) _
    unfold l_X11_gives_26
    refine jo_iload_n (pc := 26) 3 rfl dX11_gives_26 rfl ?_
    refine jo_bipush (pc := 27) dX11_gives_27 (ic_b_6) ?_
    refine jo_icmp_ge (pc := 29) dX11_gives_29 (tgt := 72) rfl ?_ ?_
    · refine jo_iconst (pc := 72) dX11_gives_72 (ic_i_1) ?_
      exact jo_breturn (pc := 73) (b := true) rfl rfl dX11_gives_73
    · refine jo_aload_n (pc := 32) 0 rfl dX11_gives_32 rfl ?_
      refine jo_getrE (pc := 33) ok_11_1 (ik_306 hw hN) rf_306_1 gw_1294 dX11_gives_33 ?_
      refine jo_sipush (pc := 36) dX11_gives_36 (ic_s_223) ?_
      refine jo_bipush (pc := 39) dX11_gives_39 (ic_b_6) ?_
      refine jo_iload_n (pc := 41) 1 rfl dX11_gives_41 rfl ?_
      refine jo_imul (pc := 42) dX11_gives_42 ?_
      refine jo_iadd (pc := 43) dX11_gives_43 ?_
      refine jo_iload_n (pc := 44) 3 rfl dX11_gives_44 rfl ?_
      refine jo_iadd (pc := 45) dX11_gives_45 ?_
      refine jo_iload_n (pc := 46) 3 rfl dX11_gives_46 rfl ?_
      refine jo_aload_n (pc := 47) 0 rfl dX11_gives_47 rfl ?_
      refine jo_cV_I_p (pc := 48) (μ' := mu_X11_n) (fx := f_X11_n σ3) (As := []) (c_X11_n hw hN) (ok_X11_n) (ltb rfl) (all3 gw_1441 gw_1443 gw_68) (ik_306 hw hN) (by decide) (q := (RX11, TX11, 39)) rfl rfl rfl rfl (Nat.le_of_ble_eq_true rfl) dX11_gives_48 (fun v5 => ?_)
      refine jo_join1 (S := Int32) (fun (z6 : Int32) => σ3) (fun (z6 : Int32) => [(0, .ref (adr w 306)), (1, .int x0), (2, .int x1), (3, .int i4)]) (fun (z6 : Int32) => [.int z6, .int ((223 + (6 * x0)) + i4), .ref (adr w 307)]) 65 ?_ (fun h65_6 => ?_)
      · intro i6
        show JO w mu_X11_gives vB σ3 [(0, .ref (adr w 306)), (1, .int x0), (2, .int x1), (3, .int i4)] [.int i6, .int ((223 + (6 * x0)) + i4), .ref (adr w 307)] 65 (j_X11_gives_65 x0 σ3 i4 i6) _
        unfold j_X11_gives_65
        refine jo_iast (pc := 65) (ik_307 hw hN) dX11_gives_65 (fun σ7 => ?_)
        refine jo_iinc (pc := 66) (lv' := [(3, .int (i4 + 1)), (0, .ref (adr w 306)), (1, .int x0), (2, .int x1)]) 3 rfl dX11_gives_66 (congrArg (fun z => i4 + z) (ic_i_1)) (ltb rfl) rfl ?_
        refine jo_goto (pc := 69) dX11_gives_69 (tgt := 26) rfl ?_
        refine jo_lv (lv' := [(0, .ref (adr w 306)), (1, .int x0), (2, .int x1), (3, .int (i4 + 1))]) [1, 2, 3, 0] rfl ?_
        exact jo_leaf (by rfl) (hF26_4 (σ7, i4 + 1))
      · refine jo_icmp_ge (pc := 51) dX11_gives_51 (tgt := 64) rfl ?_ ?_
        · refine jo_iconst (pc := 64) dX11_gives_64 (ic_i_0) ?_
          exact jo_leaf (by rfl) (h65_6 0)
        · refine jo_aload_n (pc := 54) 0 rfl dX11_gives_54 rfl ?_
          refine jo_iload_n (pc := 55) 2 rfl dX11_gives_55 rfl ?_
          refine jo_iload_n (pc := 56) 3 rfl dX11_gives_56 rfl ?_
          refine jo_cV_J_p (pc := 57) (μ' := mu_X11_of) (fx := f_X11_of σ3 x1 i4) (As := [.int x1, .int i4]) (c_X11_of hw hN) (ok_X11_of) (ltb rfl) (all3 gw_1527 gw_1529 gw_87) (ik_306 hw hN) (by decide) (q := (RX11, TX11, 39)) rfl rfl rfl rfl (Nat.le_of_ble_eq_true rfl) dX11_gives_57 (fun v8 => ?_)
          refine jo_l2i (pc := 60) dX11_gives_60 ?_
          refine jo_goto (pc := 61) dX11_gives_61 (tgt := 65) rfl ?_
          exact jo_leaf (by rfl) (h65_6 (Int64.toInt32 v8))
  · refine jo_aload_n (pc := 8) 0 rfl dX11_gives_8 rfl ?_
    refine jo_aload_n (pc := 9) 0 rfl dX11_gives_9 rfl ?_
    refine jo_getf (pc := 10) ok_11_4 (ik_306 hw hN) gw_1297 dX11_gives_10 (fun v9 => ?_)
    refine jo_iconst (pc := 13) dX11_gives_13 (ic_i_1) ?_
    refine jo_iadd (pc := 14) dX11_gives_14 ?_
    refine jo_putf (pc := 15) ok_11_4 okp_11_4 (ik_306 hw hN) gw_1297 dX11_gives_15 (fun σ10 => ?_)
    refine jo_iconst (pc := 18) dX11_gives_18 (ic_i_0) ?_
    exact jo_breturn (pc := 19) (b := false) rfl rfl dX11_gives_19
theorem c_X11_gives {w : Wd} (hw : WOK w) (hN : wn w = NT) {σ : Mem} {x0 : Int32} {x1 : Int32} : ∀ r σ', f_X11_gives σ x0 x1 = some (r, σ') → MC w mu_X11_gives (vB r) [.ref (adr w 306), .int x0, .int x1] σ σ' := mc_of ok_X11_gives rfl (Nat.le_of_ble_eq_true rfl) (t_X11_gives hw hN)
abbrev mu_X11_can : MD := (yX11_can, cX11_can, 4, some .boolean, 37)
theorem ok_X11_can : MOK mu_X11_can 3 := ⟨gw_1469, gw_171, (by decide +kernel : plainFor yX11_can = true), ⟨(by decide +kernel : yX11_can.cls ≠ "java/lang/invoke/MethodHandle"), (by decide +kernel : yX11_can.cls ≠ "java/lang/invoke/VarHandle"), (by decide +kernel : (parseMethodDescriptor yX11_can.desc).map (fun d => d.parameters.length) = some 3)⟩, Nat.le_of_ble_eq_true rfl⟩
noncomputable def j_X11_can_40 (σ3 : Mem) : Option (Bool × Mem) :=
  some (false, σ3)
noncomputable def f_X11_can (σ : Mem) (x0 : Int32) (x1 : Int32) (x2 : Int32) : Option (Bool × Mem) :=
  pF σ 306 0 0 (fun (σ1 : Mem) => (f_X11_isRegister σ1 x0).bind (fun (b2 : Bool) => (if b2 then (f_X11_isRegister σ1 x1).bind (fun (b4 : Bool) => if b4 then (f_X11_isRegister σ1 x2).bind (fun (b5 : Bool) => if b5 then bq (f_X11_isConsistent σ1) (fun (b6 : Bool) (σ7 : Mem) => if b6 then some (Sum.inr (true, σ7)) else some (Sum.inl σ7)) else some (Sum.inl σ1)) else some (Sum.inl σ1)) else some (Sum.inl σ1) : Option (Mem ⊕ (Bool × Mem))).bind (Sum.elim (fun (z3 : Mem) => j_X11_can_40 z3) some)))
theorem t_X11_can {w : Wd} (hw : WOK w) (hN : wn w = NT) {σ : Mem} {x0 : Int32} {x1 : Int32} {x2 : Int32} : JO w mu_X11_can vB σ [(0, .ref (adr w 306)), (1, .int x0), (2, .int x1), (3, .int x2)] [] 0 (f_X11_can σ x0 x1 x2) some := by
  unfold f_X11_can
  refine jo_aload_n (pc := 0) 0 rfl dX11_can_0 rfl ?_
  refine jo_iconst (pc := 1) dX11_can_1 (ic_i_0) ?_
  refine jo_putf (pc := 2) ok_11_0 okp_11_0 (ik_306 hw hN) gw_1293 dX11_can_2 (fun σ1 => ?_)
  refine jo_aload_n (pc := 5) 0 rfl dX11_can_5 rfl ?_
  refine jo_iload_n (pc := 6) 1 rfl dX11_can_6 rfl ?_
  refine jo_cV_Z_p (pc := 7) (μ' := mu_X11_isRegister) (fx := f_X11_isRegister σ1 x0) (As := [.int x0]) (c_X11_isRegister hw hN) (ok_X11_isRegister) (ltb rfl) (all3 gw_1470 gw_1472 gw_73) (ik_306 hw hN) (by decide) (q := (RX11, TX11, 39)) rfl rfl rfl rfl (Nat.le_of_ble_eq_true rfl) dX11_can_7 (fun b2 => ?_)
  refine jo_joinS (S := Mem) (fun (z3 : Mem) => z3) (fun (z3 : Mem) => []) (fun (z3 : Mem) => []) 40 ?_ (fun h40_3 => ?_)
  · intro σ3
    show JO w mu_X11_can vB σ3 [] [] 40 (j_X11_can_40 σ3) _
    unfold j_X11_can_40
    refine jo_iconst (pc := 40) dX11_can_40 (ic_i_0) ?_
    exact jo_breturn (pc := 41) (b := false) rfl rfl dX11_can_41
  · refine jo_ifz_eq (pc := 10) dX11_can_10 (tgt := 40) rfl ?_ ?_
    · refine jo_lv (lv' := []) [] rfl ?_
      exact jo_leaf (by rfl) (h40_3 σ1)
    · refine jo_aload_n (pc := 13) 0 rfl dX11_can_13 rfl ?_
      refine jo_iload_n (pc := 14) 2 rfl dX11_can_14 rfl ?_
      refine jo_cV_Z_p (pc := 15) (μ' := mu_X11_isRegister) (fx := f_X11_isRegister σ1 x1) (As := [.int x1]) (c_X11_isRegister hw hN) (ok_X11_isRegister) (ltb rfl) (all3 gw_1470 gw_1472 gw_73) (ik_306 hw hN) (by decide) (q := (RX11, TX11, 39)) rfl rfl rfl rfl (Nat.le_of_ble_eq_true rfl) dX11_can_15 (fun b4 => ?_)
      refine jo_ifz_eq (pc := 18) dX11_can_18 (tgt := 40) rfl ?_ ?_
      · refine jo_lv (lv' := []) [] rfl ?_
        exact jo_leaf (by rfl) (h40_3 σ1)
      · refine jo_aload_n (pc := 21) 0 rfl dX11_can_21 rfl ?_
        refine jo_iload_n (pc := 22) 3 rfl dX11_can_22 rfl ?_
        refine jo_cV_Z_p (pc := 23) (μ' := mu_X11_isRegister) (fx := f_X11_isRegister σ1 x2) (As := [.int x2]) (c_X11_isRegister hw hN) (ok_X11_isRegister) (ltb rfl) (all3 gw_1470 gw_1472 gw_73) (ik_306 hw hN) (by decide) (q := (RX11, TX11, 39)) rfl rfl rfl rfl (Nat.le_of_ble_eq_true rfl) dX11_can_23 (fun b5 => ?_)
        refine jo_ifz_eq (pc := 26) dX11_can_26 (tgt := 40) rfl ?_ ?_
        · refine jo_lv (lv' := []) [] rfl ?_
          exact jo_leaf (by rfl) (h40_3 σ1)
        · refine jo_aload_n (pc := 29) 0 rfl dX11_can_29 rfl ?_
          refine jo_cV_Z_i (pc := 30) (μ' := mu_X11_isConsistent) (fx := f_X11_isConsistent σ1) (As := []) (c_X11_isConsistent hw hN) (ok_X11_isConsistent) (ltb rfl) (all3 gw_1475 gw_1477 gw_74) (ik_306 hw hN) (by decide) (q := (RX11, TX11, 39)) rfl rfl rfl rfl (Nat.le_of_ble_eq_true rfl) dX11_can_30 (fun b6 σ7 => ?_)
          refine jo_ifz_eq (pc := 33) dX11_can_33 (tgt := 40) rfl ?_ ?_
          · refine jo_lv (lv' := []) [] rfl ?_
            exact jo_leaf (by rfl) (h40_3 σ7)
          · refine jo_iconst (pc := 36) dX11_can_36 (ic_i_1) ?_
            refine jo_goto (pc := 37) dX11_can_37 (tgt := 41) rfl ?_
            exact jo_breturn (pc := 41) (b := true) rfl rfl dX11_can_41
theorem c_X11_can {w : Wd} (hw : WOK w) (hN : wn w = NT) {σ : Mem} {x0 : Int32} {x1 : Int32} {x2 : Int32} : ∀ r σ', f_X11_can σ x0 x1 x2 = some (r, σ') → MC w mu_X11_can (vB r) [.ref (adr w 306), .int x0, .int x1, .int x2] σ σ' := mc_of ok_X11_can rfl (Nat.le_of_ble_eq_true rfl) (t_X11_can hw hN)
abbrev mu_X11_set : MD := (yX11_set, cX11_set, 4, some .boolean, 38)
theorem ok_X11_set : MOK mu_X11_set 3 := ⟨gw_1465, gw_171, (by decide +kernel : plainFor yX11_set = true), ⟨(by decide +kernel : yX11_set.cls ≠ "java/lang/invoke/MethodHandle"), (by decide +kernel : yX11_set.cls ≠ "java/lang/invoke/VarHandle"), (by decide +kernel : (parseMethodDescriptor yX11_set.desc).map (fun d => d.parameters.length) = some 3)⟩, Nat.le_of_ble_eq_true rfl⟩
noncomputable def f_X11_set (σ : Mem) (x0 : Int32) (x1 : Int32) (x2 : Int32) : Option (Bool × Mem) :=
  bq (f_X11_can σ x0 0 0) (fun (b1 : Bool) (σ2 : Mem) => if b1 then (f_X11_n σ2).bind (fun (v3 : Int32) => (f_X11_isIn σ2 (Int32.toInt64 x1) 1 (Int32.toInt64 v3)).bind (fun (b4 : Bool) => if b4 then (f_X11_isIn σ2 (Int32.toInt64 x2) (-999) 999).bind (fun (b5 : Bool) => if b5 then (f_X11_laysRegister σ2 0 x0).bind (fun (σ6 : Mem) => (f_X11_puts σ6 0 (x1 - 1) (Int32.toInt64 x2)).bind (fun (σ7 : Mem) => bq (f_X11_gives σ7 x0 0) (fun (b8 : Bool) (σ9 : Mem) => some (b8, σ9)))) else some (false, σ2)) else some (false, σ2))) else some (false, σ2))
theorem t_X11_set {w : Wd} (hw : WOK w) (hN : wn w = NT) {σ : Mem} {x0 : Int32} {x1 : Int32} {x2 : Int32} : JO w mu_X11_set vB σ [(0, .ref (adr w 306)), (1, .int x0), (2, .int x1), (3, .int x2)] [] 0 (f_X11_set σ x0 x1 x2) some := by
  unfold f_X11_set
  refine jo_aload_n (pc := 0) 0 rfl dX11_set_0 rfl ?_
  refine jo_iload_n (pc := 1) 1 rfl dX11_set_1 rfl ?_
  refine jo_iconst (pc := 2) dX11_set_2 (ic_i_0) ?_
  refine jo_iconst (pc := 3) dX11_set_3 (ic_i_0) ?_
  refine jo_cV_Z_i (pc := 4) (μ' := mu_X11_can) (fx := f_X11_can σ x0 0 0) (As := [.int x0, .int 0, .int 0]) (c_X11_can hw hN) (ok_X11_can) (ltb rfl) (all3 gw_1466 gw_1468 gw_72) (ik_306 hw hN) (by decide) (q := (RX11, TX11, 39)) rfl rfl rfl rfl (Nat.le_of_ble_eq_true rfl) dX11_set_4 (fun b1 σ2 => ?_)
  refine jo_ifz_eq (pc := 7) dX11_set_7 (tgt := 40) rfl ?_ ?_
  · refine jo_iconst (pc := 40) dX11_set_40 (ic_i_0) ?_
    exact jo_breturn (pc := 41) (b := false) rfl rfl dX11_set_41
  · refine jo_aload_n (pc := 10) 0 rfl dX11_set_10 rfl ?_
    refine jo_iload_n (pc := 11) 2 rfl dX11_set_11 rfl ?_
    refine jo_i2l (pc := 12) dX11_set_12 ?_
    refine jo_lconst (pc := 13) dX11_set_13 (ic_l_1) ?_
    refine jo_aload_n (pc := 14) 0 rfl dX11_set_14 rfl ?_
    refine jo_cV_I_p (pc := 15) (μ' := mu_X11_n) (fx := f_X11_n σ2) (As := []) (c_X11_n hw hN) (ok_X11_n) (ltb rfl) (all3 gw_1441 gw_1443 gw_68) (ik_306 hw hN) (by decide) (q := (RX11, TX11, 39)) rfl rfl rfl rfl (Nat.le_of_ble_eq_true rfl) dX11_set_15 (fun v3 => ?_)
    refine jo_i2l (pc := 18) dX11_set_18 ?_
    refine jo_cV_Z_p (pc := 19) (μ' := mu_X11_isIn) (fx := f_X11_isIn σ2 (Int32.toInt64 x1) 1 (Int32.toInt64 v3)) (As := [.long (Int32.toInt64 x1), .long 1, .long (Int32.toInt64 v3)]) (c_X11_isIn hw hN) (ok_X11_isIn) (ltb rfl) (all3 gw_1420 gw_1422 gw_64) (ik_306 hw hN) (by decide) (q := (RX11, TX11, 39)) rfl rfl rfl rfl (Nat.le_of_ble_eq_true rfl) dX11_set_19 (fun b4 => ?_)
    refine jo_ifz_eq (pc := 22) dX11_set_22 (tgt := 40) rfl ?_ ?_
    · refine jo_iconst (pc := 40) dX11_set_40 (ic_i_0) ?_
      exact jo_breturn (pc := 41) (b := false) rfl rfl dX11_set_41
    · refine jo_aload_n (pc := 25) 0 rfl dX11_set_25 rfl ?_
      refine jo_iload_n (pc := 26) 3 rfl dX11_set_26 rfl ?_
      refine jo_i2l (pc := 27) dX11_set_27 ?_
      refine jo_ldc2 (pc := 28) dX11_set_28 gw_1557 ?_
      refine jo_ldc2 (pc := 31) dX11_set_31 gw_1558 ?_
      refine jo_cV_Z_p (pc := 34) (μ' := mu_X11_isIn) (fx := f_X11_isIn σ2 (Int32.toInt64 x2) (-999) 999) (As := [.long (Int32.toInt64 x2), .long (-999), .long 999]) (c_X11_isIn hw hN) (ok_X11_isIn) (ltb rfl) (all3 gw_1420 gw_1422 gw_64) (ik_306 hw hN) (by decide) (q := (RX11, TX11, 39)) rfl rfl rfl rfl (Nat.le_of_ble_eq_true rfl) dX11_set_34 (fun b5 => ?_)
      refine jo_ifz_ne (pc := 37) dX11_set_37 (tgt := 42) rfl ?_ ?_
      · refine jo_aload_n (pc := 42) 0 rfl dX11_set_42 rfl ?_
        refine jo_iconst (pc := 43) dX11_set_43 (ic_i_0) ?_
        refine jo_iload_n (pc := 44) 1 rfl dX11_set_44 rfl ?_
        refine jo_cV_V_i (pc := 45) (μ' := mu_X11_laysRegister) (fx := f_X11_laysRegister σ2 0 x0) (As := [.int 0, .int x0]) (c_X11_laysRegister hw hN) (ok_X11_laysRegister) (ltb rfl) (all3 gw_1559 gw_1561 gw_94) (ik_306 hw hN) (by decide) (q := (RX11, TX11, 39)) rfl rfl rfl rfl (Nat.le_of_ble_eq_true rfl) dX11_set_45 (fun σ6 => ?_)
        refine jo_aload_n (pc := 48) 0 rfl dX11_set_48 rfl ?_
        refine jo_iconst (pc := 49) dX11_set_49 (ic_i_0) ?_
        refine jo_iload_n (pc := 50) 2 rfl dX11_set_50 rfl ?_
        refine jo_iconst (pc := 51) dX11_set_51 (ic_i_1) ?_
        refine jo_isub (pc := 52) dX11_set_52 ?_
        refine jo_iload_n (pc := 53) 3 rfl dX11_set_53 rfl ?_
        refine jo_i2l (pc := 54) dX11_set_54 ?_
        refine jo_cV_V_i (pc := 55) (μ' := mu_X11_puts) (fx := f_X11_puts σ6 0 (x1 - 1) (Int32.toInt64 x2)) (As := [.int 0, .int (x1 - 1), .long (Int32.toInt64 x2)]) (c_X11_puts hw hN) (ok_X11_puts) (ltb rfl) (all3 gw_1519 gw_1521 gw_85) (ik_306 hw hN) (by decide) (q := (RX11, TX11, 39)) rfl rfl rfl rfl (Nat.le_of_ble_eq_true rfl) dX11_set_55 (fun σ7 => ?_)
        refine jo_aload_n (pc := 58) 0 rfl dX11_set_58 rfl ?_
        refine jo_iload_n (pc := 59) 1 rfl dX11_set_59 rfl ?_
        refine jo_iconst (pc := 60) dX11_set_60 (ic_i_0) ?_
        refine jo_cV_Z_i (pc := 61) (μ' := mu_X11_gives) (fx := f_X11_gives σ7 x0 0) (As := [.int x0, .int 0]) (c_X11_gives hw hN) (ok_X11_gives) (ltb rfl) (all3 gw_1567 gw_1569 gw_96) (ik_306 hw hN) (by decide) (q := (RX11, TX11, 39)) rfl rfl rfl rfl (Nat.le_of_ble_eq_true rfl) dX11_set_61 (fun b8 σ9 => ?_)
        exact jo_breturn (pc := 64) (b := b8) rfl rfl dX11_set_64
      · refine jo_iconst (pc := 40) dX11_set_40 (ic_i_0) ?_
        exact jo_breturn (pc := 41) (b := false) rfl rfl dX11_set_41
theorem c_X11_set {w : Wd} (hw : WOK w) (hN : wn w = NT) {σ : Mem} {x0 : Int32} {x1 : Int32} {x2 : Int32} : ∀ r σ', f_X11_set σ x0 x1 x2 = some (r, σ') → MC w mu_X11_set (vB r) [.ref (adr w 306), .int x0, .int x1, .int x2] σ σ' := mc_of ok_X11_set rfl (Nat.le_of_ble_eq_true rfl) (t_X11_set hw hN)
abbrev mu_X11_multiply : MD := (yX11_multiply, cX11_multiply, 4, some .boolean, 38)
theorem ok_X11_multiply : MOK mu_X11_multiply 3 := ⟨gw_1578, gw_171, (by decide +kernel : plainFor yX11_multiply = true), ⟨(by decide +kernel : yX11_multiply.cls ≠ "java/lang/invoke/MethodHandle"), (by decide +kernel : yX11_multiply.cls ≠ "java/lang/invoke/VarHandle"), (by decide +kernel : (parseMethodDescriptor yX11_multiply.desc).map (fun d => d.parameters.length) = some 3)⟩, Nat.le_of_ble_eq_true rfl⟩
noncomputable def f_X11_multiply (σ : Mem) (x0 : Int32) (x1 : Int32) (x2 : Int32) : Option (Bool × Mem) :=
  bq (f_X11_can σ x0 x1 x2) (fun (b1 : Bool) (σ2 : Mem) => if b1 then (f_X11_laysRegister σ2 0 x1).bind (fun (σ3 : Mem) => (f_X11_laysRegister σ3 1 x2).bind (fun (σ4 : Mem) => (f_X11_times σ4 0 1).bind (fun (σ5 : Mem) => bq (f_X11_gives σ5 x0 0) (fun (b6 : Bool) (σ7 : Mem) => some (b6, σ7))))) else some (false, σ2))
theorem t_X11_multiply {w : Wd} (hw : WOK w) (hN : wn w = NT) {σ : Mem} {x0 : Int32} {x1 : Int32} {x2 : Int32} : JO w mu_X11_multiply vB σ [(0, .ref (adr w 306)), (1, .int x0), (2, .int x1), (3, .int x2)] [] 0 (f_X11_multiply σ x0 x1 x2) some := by
  unfold f_X11_multiply
  refine jo_aload_n (pc := 0) 0 rfl dX11_multiply_0 rfl ?_
  refine jo_iload_n (pc := 1) 1 rfl dX11_multiply_1 rfl ?_
  refine jo_iload_n (pc := 2) 2 rfl dX11_multiply_2 rfl ?_
  refine jo_iload_n (pc := 3) 3 rfl dX11_multiply_3 rfl ?_
  refine jo_cV_Z_i (pc := 4) (μ' := mu_X11_can) (fx := f_X11_can σ x0 x1 x2) (As := [.int x0, .int x1, .int x2]) (c_X11_can hw hN) (ok_X11_can) (ltb rfl) (all3 gw_1466 gw_1468 gw_72) (ik_306 hw hN) (by decide) (q := (RX11, TX11, 39)) rfl rfl rfl rfl (Nat.le_of_ble_eq_true rfl) dX11_multiply_4 (fun b1 σ2 => ?_)
  refine jo_ifz_ne (pc := 7) dX11_multiply_7 (tgt := 12) rfl ?_ ?_
  · refine jo_aload_n (pc := 12) 0 rfl dX11_multiply_12 rfl ?_
    refine jo_iconst (pc := 13) dX11_multiply_13 (ic_i_0) ?_
    refine jo_iload_n (pc := 14) 2 rfl dX11_multiply_14 rfl ?_
    refine jo_cV_V_i (pc := 15) (μ' := mu_X11_laysRegister) (fx := f_X11_laysRegister σ2 0 x1) (As := [.int 0, .int x1]) (c_X11_laysRegister hw hN) (ok_X11_laysRegister) (ltb rfl) (all3 gw_1559 gw_1561 gw_94) (ik_306 hw hN) (by decide) (q := (RX11, TX11, 39)) rfl rfl rfl rfl (Nat.le_of_ble_eq_true rfl) dX11_multiply_15 (fun σ3 => ?_)
    refine jo_aload_n (pc := 18) 0 rfl dX11_multiply_18 rfl ?_
    refine jo_iconst (pc := 19) dX11_multiply_19 (ic_i_1) ?_
    refine jo_iload_n (pc := 20) 3 rfl dX11_multiply_20 rfl ?_
    refine jo_cV_V_i (pc := 21) (μ' := mu_X11_laysRegister) (fx := f_X11_laysRegister σ3 1 x2) (As := [.int 1, .int x2]) (c_X11_laysRegister hw hN) (ok_X11_laysRegister) (ltb rfl) (all3 gw_1559 gw_1561 gw_94) (ik_306 hw hN) (by decide) (q := (RX11, TX11, 39)) rfl rfl rfl rfl (Nat.le_of_ble_eq_true rfl) dX11_multiply_21 (fun σ4 => ?_)
    refine jo_aload_n (pc := 24) 0 rfl dX11_multiply_24 rfl ?_
    refine jo_iconst (pc := 25) dX11_multiply_25 (ic_i_0) ?_
    refine jo_iconst (pc := 26) dX11_multiply_26 (ic_i_1) ?_
    refine jo_cV_V_i (pc := 27) (μ' := mu_X11_times) (fx := f_X11_times σ4 0 1) (As := [.int 0, .int 1]) (c_X11_times hw hN) (ok_X11_times) (ltb rfl) (all3 gw_1523 gw_1525 gw_86) (ik_306 hw hN) (by decide) (q := (RX11, TX11, 39)) rfl rfl rfl rfl (Nat.le_of_ble_eq_true rfl) dX11_multiply_27 (fun σ5 => ?_)
    refine jo_aload_n (pc := 30) 0 rfl dX11_multiply_30 rfl ?_
    refine jo_iload_n (pc := 31) 1 rfl dX11_multiply_31 rfl ?_
    refine jo_iconst (pc := 32) dX11_multiply_32 (ic_i_0) ?_
    refine jo_cV_Z_i (pc := 33) (μ' := mu_X11_gives) (fx := f_X11_gives σ5 x0 0) (As := [.int x0, .int 0]) (c_X11_gives hw hN) (ok_X11_gives) (ltb rfl) (all3 gw_1567 gw_1569 gw_96) (ik_306 hw hN) (by decide) (q := (RX11, TX11, 39)) rfl rfl rfl rfl (Nat.le_of_ble_eq_true rfl) dX11_multiply_33 (fun b6 σ7 => ?_)
    exact jo_breturn (pc := 36) (b := b6) rfl rfl dX11_multiply_36
  · refine jo_iconst (pc := 10) dX11_multiply_10 (ic_i_0) ?_
    exact jo_breturn (pc := 11) (b := false) rfl rfl dX11_multiply_11
theorem c_X11_multiply {w : Wd} (hw : WOK w) (hN : wn w = NT) {σ : Mem} {x0 : Int32} {x1 : Int32} {x2 : Int32} : ∀ r σ', f_X11_multiply σ x0 x1 x2 = some (r, σ') → MC w mu_X11_multiply (vB r) [.ref (adr w 306), .int x0, .int x1, .int x2] σ σ' := mc_of ok_X11_multiply rfl (Nat.le_of_ble_eq_true rfl) (t_X11_multiply hw hN)
abbrev mu_X11_invert : MD := (yX11_invert, cX11_invert, 3, some .boolean, 38)
theorem ok_X11_invert : MOK mu_X11_invert 2 := ⟨gw_1582, gw_171, (by decide +kernel : plainFor yX11_invert = true), ⟨(by decide +kernel : yX11_invert.cls ≠ "java/lang/invoke/MethodHandle"), (by decide +kernel : yX11_invert.cls ≠ "java/lang/invoke/VarHandle"), (by decide +kernel : (parseMethodDescriptor yX11_invert.desc).map (fun d => d.parameters.length) = some 2)⟩, Nat.le_of_ble_eq_true rfl⟩
noncomputable def f_X11_invert (σ : Mem) (x0 : Int32) (x1 : Int32) : Option (Bool × Mem) :=
  bq (f_X11_can σ x0 x1 x1) (fun (b1 : Bool) (σ2 : Mem) => if b1 then (f_X11_laysRegister σ2 0 x1).bind (fun (σ3 : Mem) => (f_X11_inverse σ3 0 1).bind (fun (σ4 : Mem) => bq (f_X11_gives σ4 x0 1) (fun (b5 : Bool) (σ6 : Mem) => some (b5, σ6)))) else some (false, σ2))
theorem t_X11_invert {w : Wd} (hw : WOK w) (hN : wn w = NT) {σ : Mem} {x0 : Int32} {x1 : Int32} : JO w mu_X11_invert vB σ [(0, .ref (adr w 306)), (1, .int x0), (2, .int x1)] [] 0 (f_X11_invert σ x0 x1) some := by
  unfold f_X11_invert
  refine jo_aload_n (pc := 0) 0 rfl dX11_invert_0 rfl ?_
  refine jo_iload_n (pc := 1) 1 rfl dX11_invert_1 rfl ?_
  refine jo_iload_n (pc := 2) 2 rfl dX11_invert_2 rfl ?_
  refine jo_iload_n (pc := 3) 2 rfl dX11_invert_3 rfl ?_
  refine jo_cV_Z_i (pc := 4) (μ' := mu_X11_can) (fx := f_X11_can σ x0 x1 x1) (As := [.int x0, .int x1, .int x1]) (c_X11_can hw hN) (ok_X11_can) (ltb rfl) (all3 gw_1466 gw_1468 gw_72) (ik_306 hw hN) (by decide) (q := (RX11, TX11, 39)) rfl rfl rfl rfl (Nat.le_of_ble_eq_true rfl) dX11_invert_4 (fun b1 σ2 => ?_)
  refine jo_ifz_ne (pc := 7) dX11_invert_7 (tgt := 12) rfl ?_ ?_
  · refine jo_aload_n (pc := 12) 0 rfl dX11_invert_12 rfl ?_
    refine jo_iconst (pc := 13) dX11_invert_13 (ic_i_0) ?_
    refine jo_iload_n (pc := 14) 2 rfl dX11_invert_14 rfl ?_
    refine jo_cV_V_i (pc := 15) (μ' := mu_X11_laysRegister) (fx := f_X11_laysRegister σ2 0 x1) (As := [.int 0, .int x1]) (c_X11_laysRegister hw hN) (ok_X11_laysRegister) (ltb rfl) (all3 gw_1559 gw_1561 gw_94) (ik_306 hw hN) (by decide) (q := (RX11, TX11, 39)) rfl rfl rfl rfl (Nat.le_of_ble_eq_true rfl) dX11_invert_15 (fun σ3 => ?_)
    refine jo_aload_n (pc := 18) 0 rfl dX11_invert_18 rfl ?_
    refine jo_iconst (pc := 19) dX11_invert_19 (ic_i_0) ?_
    refine jo_iconst (pc := 20) dX11_invert_20 (ic_i_1) ?_
    refine jo_cV_V_i (pc := 21) (μ' := mu_X11_inverse) (fx := f_X11_inverse σ3 0 1) (As := [.int 0, .int 1]) (c_X11_inverse hw hN) (ok_X11_inverse) (ltb rfl) (all3 gw_1583 gw_1585 gw_98) (ik_306 hw hN) (by decide) (q := (RX11, TX11, 39)) rfl rfl rfl rfl (Nat.le_of_ble_eq_true rfl) dX11_invert_21 (fun σ4 => ?_)
    refine jo_aload_n (pc := 24) 0 rfl dX11_invert_24 rfl ?_
    refine jo_iload_n (pc := 25) 1 rfl dX11_invert_25 rfl ?_
    refine jo_iconst (pc := 26) dX11_invert_26 (ic_i_1) ?_
    refine jo_cV_Z_i (pc := 27) (μ' := mu_X11_gives) (fx := f_X11_gives σ4 x0 1) (As := [.int x0, .int 1]) (c_X11_gives hw hN) (ok_X11_gives) (ltb rfl) (all3 gw_1567 gw_1569 gw_96) (ik_306 hw hN) (by decide) (q := (RX11, TX11, 39)) rfl rfl rfl rfl (Nat.le_of_ble_eq_true rfl) dX11_invert_27 (fun b5 σ6 => ?_)
    exact jo_breturn (pc := 30) (b := b5) rfl rfl dX11_invert_30
  · refine jo_iconst (pc := 10) dX11_invert_10 (ic_i_0) ?_
    exact jo_breturn (pc := 11) (b := false) rfl rfl dX11_invert_11
theorem c_X11_invert {w : Wd} (hw : WOK w) (hN : wn w = NT) {σ : Mem} {x0 : Int32} {x1 : Int32} : ∀ r σ', f_X11_invert σ x0 x1 = some (r, σ') → MC w mu_X11_invert (vB r) [.ref (adr w 306), .int x0, .int x1] σ σ' := mc_of ok_X11_invert rfl (Nat.le_of_ble_eq_true rfl) (t_X11_invert hw hN)
abbrev mu_X11_power : MD := (yX11_power, cX11_power, 4, some .boolean, 38)
theorem ok_X11_power : MOK mu_X11_power 3 := ⟨gw_1598, gw_171, (by decide +kernel : plainFor yX11_power = true), ⟨(by decide +kernel : yX11_power.cls ≠ "java/lang/invoke/MethodHandle"), (by decide +kernel : yX11_power.cls ≠ "java/lang/invoke/VarHandle"), (by decide +kernel : (parseMethodDescriptor yX11_power.desc).map (fun d => d.parameters.length) = some 3)⟩, Nat.le_of_ble_eq_true rfl⟩
noncomputable def f_X11_power (σ : Mem) (x0 : Int32) (x1 : Int32) (x2 : Int32) : Option (Bool × Mem) :=
  bq (f_X11_can σ x0 x1 x1) (fun (b1 : Bool) (σ2 : Mem) => if b1 then (f_X11_isIn σ2 (Int32.toInt64 x2) (-99) 99).bind (fun (b3 : Bool) => if b3 then (f_X11_laysRegister σ2 0 x1).bind (fun (σ4 : Mem) => (f_X11_raises σ4 0 1 x2).bind (fun (σ5 : Mem) => bq (f_X11_gives σ5 x0 1) (fun (b6 : Bool) (σ7 : Mem) => some (b6, σ7)))) else some (false, σ2)) else some (false, σ2))
theorem t_X11_power {w : Wd} (hw : WOK w) (hN : wn w = NT) {σ : Mem} {x0 : Int32} {x1 : Int32} {x2 : Int32} : JO w mu_X11_power vB σ [(0, .ref (adr w 306)), (1, .int x0), (2, .int x1), (3, .int x2)] [] 0 (f_X11_power σ x0 x1 x2) some := by
  unfold f_X11_power
  refine jo_aload_n (pc := 0) 0 rfl dX11_power_0 rfl ?_
  refine jo_iload_n (pc := 1) 1 rfl dX11_power_1 rfl ?_
  refine jo_iload_n (pc := 2) 2 rfl dX11_power_2 rfl ?_
  refine jo_iload_n (pc := 3) 2 rfl dX11_power_3 rfl ?_
  refine jo_cV_Z_i (pc := 4) (μ' := mu_X11_can) (fx := f_X11_can σ x0 x1 x1) (As := [.int x0, .int x1, .int x1]) (c_X11_can hw hN) (ok_X11_can) (ltb rfl) (all3 gw_1466 gw_1468 gw_72) (ik_306 hw hN) (by decide) (q := (RX11, TX11, 39)) rfl rfl rfl rfl (Nat.le_of_ble_eq_true rfl) dX11_power_4 (fun b1 σ2 => ?_)
  refine jo_ifz_eq (pc := 7) dX11_power_7 (tgt := 25) rfl ?_ ?_
  · refine jo_iconst (pc := 25) dX11_power_25 (ic_i_0) ?_
    exact jo_breturn (pc := 26) (b := false) rfl rfl dX11_power_26
  · refine jo_aload_n (pc := 10) 0 rfl dX11_power_10 rfl ?_
    refine jo_iload_n (pc := 11) 3 rfl dX11_power_11 rfl ?_
    refine jo_i2l (pc := 12) dX11_power_12 ?_
    refine jo_ldc2 (pc := 13) dX11_power_13 gw_1599 ?_
    refine jo_ldc2 (pc := 16) dX11_power_16 gw_1600 ?_
    refine jo_cV_Z_p (pc := 19) (μ' := mu_X11_isIn) (fx := f_X11_isIn σ2 (Int32.toInt64 x2) (-99) 99) (As := [.long (Int32.toInt64 x2), .long (-99), .long 99]) (c_X11_isIn hw hN) (ok_X11_isIn) (ltb rfl) (all3 gw_1420 gw_1422 gw_64) (ik_306 hw hN) (by decide) (q := (RX11, TX11, 39)) rfl rfl rfl rfl (Nat.le_of_ble_eq_true rfl) dX11_power_19 (fun b3 => ?_)
    refine jo_ifz_ne (pc := 22) dX11_power_22 (tgt := 27) rfl ?_ ?_
    · refine jo_aload_n (pc := 27) 0 rfl dX11_power_27 rfl ?_
      refine jo_iconst (pc := 28) dX11_power_28 (ic_i_0) ?_
      refine jo_iload_n (pc := 29) 2 rfl dX11_power_29 rfl ?_
      refine jo_cV_V_i (pc := 30) (μ' := mu_X11_laysRegister) (fx := f_X11_laysRegister σ2 0 x1) (As := [.int 0, .int x1]) (c_X11_laysRegister hw hN) (ok_X11_laysRegister) (ltb rfl) (all3 gw_1559 gw_1561 gw_94) (ik_306 hw hN) (by decide) (q := (RX11, TX11, 39)) rfl rfl rfl rfl (Nat.le_of_ble_eq_true rfl) dX11_power_30 (fun σ4 => ?_)
      refine jo_aload_n (pc := 33) 0 rfl dX11_power_33 rfl ?_
      refine jo_iconst (pc := 34) dX11_power_34 (ic_i_0) ?_
      refine jo_iconst (pc := 35) dX11_power_35 (ic_i_1) ?_
      refine jo_iload_n (pc := 36) 3 rfl dX11_power_36 rfl ?_
      refine jo_cV_V_i (pc := 37) (μ' := mu_X11_raises) (fx := f_X11_raises σ4 0 1 x2) (As := [.int 0, .int 1, .int x2]) (c_X11_raises hw hN) (ok_X11_raises) (ltb rfl) (all3 gw_1601 gw_1603 gw_101) (ik_306 hw hN) (by decide) (q := (RX11, TX11, 39)) rfl rfl rfl rfl (Nat.le_of_ble_eq_true rfl) dX11_power_37 (fun σ5 => ?_)
      refine jo_aload_n (pc := 40) 0 rfl dX11_power_40 rfl ?_
      refine jo_iload_n (pc := 41) 1 rfl dX11_power_41 rfl ?_
      refine jo_iconst (pc := 42) dX11_power_42 (ic_i_1) ?_
      refine jo_cV_Z_i (pc := 43) (μ' := mu_X11_gives) (fx := f_X11_gives σ5 x0 1) (As := [.int x0, .int 1]) (c_X11_gives hw hN) (ok_X11_gives) (ltb rfl) (all3 gw_1567 gw_1569 gw_96) (ik_306 hw hN) (by decide) (q := (RX11, TX11, 39)) rfl rfl rfl rfl (Nat.le_of_ble_eq_true rfl) dX11_power_43 (fun b6 σ7 => ?_)
      exact jo_breturn (pc := 46) (b := b6) rfl rfl dX11_power_46
    · refine jo_iconst (pc := 25) dX11_power_25 (ic_i_0) ?_
      exact jo_breturn (pc := 26) (b := false) rfl rfl dX11_power_26
theorem c_X11_power {w : Wd} (hw : WOK w) (hN : wn w = NT) {σ : Mem} {x0 : Int32} {x1 : Int32} {x2 : Int32} : ∀ r σ', f_X11_power σ x0 x1 x2 = some (r, σ') → MC w mu_X11_power (vB r) [.ref (adr w 306), .int x0, .int x1, .int x2] σ σ' := mc_of ok_X11_power rfl (Nat.le_of_ble_eq_true rfl) (t_X11_power hw hN)
abbrev mu_X11_commute : MD := (yX11_commute, cX11_commute, 4, some .boolean, 38)
theorem ok_X11_commute : MOK mu_X11_commute 3 := ⟨gw_1608, gw_171, (by decide +kernel : plainFor yX11_commute = true), ⟨(by decide +kernel : yX11_commute.cls ≠ "java/lang/invoke/MethodHandle"), (by decide +kernel : yX11_commute.cls ≠ "java/lang/invoke/VarHandle"), (by decide +kernel : (parseMethodDescriptor yX11_commute.desc).map (fun d => d.parameters.length) = some 3)⟩, Nat.le_of_ble_eq_true rfl⟩
noncomputable def f_X11_commute (σ : Mem) (x0 : Int32) (x1 : Int32) (x2 : Int32) : Option (Bool × Mem) :=
  bq (f_X11_can σ x0 x1 x2) (fun (b1 : Bool) (σ2 : Mem) => if b1 then (f_X11_laysRegister σ2 0 x1).bind (fun (σ3 : Mem) => (f_X11_laysRegister σ3 1 x2).bind (fun (σ4 : Mem) => (f_X11_commutator σ4 0 1 2).bind (fun (σ5 : Mem) => bq (f_X11_gives σ5 x0 2) (fun (b6 : Bool) (σ7 : Mem) => some (b6, σ7))))) else some (false, σ2))
theorem t_X11_commute {w : Wd} (hw : WOK w) (hN : wn w = NT) {σ : Mem} {x0 : Int32} {x1 : Int32} {x2 : Int32} : JO w mu_X11_commute vB σ [(0, .ref (adr w 306)), (1, .int x0), (2, .int x1), (3, .int x2)] [] 0 (f_X11_commute σ x0 x1 x2) some := by
  unfold f_X11_commute
  refine jo_aload_n (pc := 0) 0 rfl dX11_commute_0 rfl ?_
  refine jo_iload_n (pc := 1) 1 rfl dX11_commute_1 rfl ?_
  refine jo_iload_n (pc := 2) 2 rfl dX11_commute_2 rfl ?_
  refine jo_iload_n (pc := 3) 3 rfl dX11_commute_3 rfl ?_
  refine jo_cV_Z_i (pc := 4) (μ' := mu_X11_can) (fx := f_X11_can σ x0 x1 x2) (As := [.int x0, .int x1, .int x2]) (c_X11_can hw hN) (ok_X11_can) (ltb rfl) (all3 gw_1466 gw_1468 gw_72) (ik_306 hw hN) (by decide) (q := (RX11, TX11, 39)) rfl rfl rfl rfl (Nat.le_of_ble_eq_true rfl) dX11_commute_4 (fun b1 σ2 => ?_)
  refine jo_ifz_ne (pc := 7) dX11_commute_7 (tgt := 12) rfl ?_ ?_
  · refine jo_aload_n (pc := 12) 0 rfl dX11_commute_12 rfl ?_
    refine jo_iconst (pc := 13) dX11_commute_13 (ic_i_0) ?_
    refine jo_iload_n (pc := 14) 2 rfl dX11_commute_14 rfl ?_
    refine jo_cV_V_i (pc := 15) (μ' := mu_X11_laysRegister) (fx := f_X11_laysRegister σ2 0 x1) (As := [.int 0, .int x1]) (c_X11_laysRegister hw hN) (ok_X11_laysRegister) (ltb rfl) (all3 gw_1559 gw_1561 gw_94) (ik_306 hw hN) (by decide) (q := (RX11, TX11, 39)) rfl rfl rfl rfl (Nat.le_of_ble_eq_true rfl) dX11_commute_15 (fun σ3 => ?_)
    refine jo_aload_n (pc := 18) 0 rfl dX11_commute_18 rfl ?_
    refine jo_iconst (pc := 19) dX11_commute_19 (ic_i_1) ?_
    refine jo_iload_n (pc := 20) 3 rfl dX11_commute_20 rfl ?_
    refine jo_cV_V_i (pc := 21) (μ' := mu_X11_laysRegister) (fx := f_X11_laysRegister σ3 1 x2) (As := [.int 1, .int x2]) (c_X11_laysRegister hw hN) (ok_X11_laysRegister) (ltb rfl) (all3 gw_1559 gw_1561 gw_94) (ik_306 hw hN) (by decide) (q := (RX11, TX11, 39)) rfl rfl rfl rfl (Nat.le_of_ble_eq_true rfl) dX11_commute_21 (fun σ4 => ?_)
    refine jo_aload_n (pc := 24) 0 rfl dX11_commute_24 rfl ?_
    refine jo_iconst (pc := 25) dX11_commute_25 (ic_i_0) ?_
    refine jo_iconst (pc := 26) dX11_commute_26 (ic_i_1) ?_
    refine jo_iconst (pc := 27) dX11_commute_27 (ic_i_2) ?_
    refine jo_cV_V_i (pc := 28) (μ' := mu_X11_commutator) (fx := f_X11_commutator σ4 0 1 2) (As := [.int 0, .int 1, .int 2]) (c_X11_commutator hw hN) (ok_X11_commutator) (ltb rfl) (all3 gw_1609 gw_1611 gw_102) (ik_306 hw hN) (by decide) (q := (RX11, TX11, 39)) rfl rfl rfl rfl (Nat.le_of_ble_eq_true rfl) dX11_commute_28 (fun σ5 => ?_)
    refine jo_aload_n (pc := 31) 0 rfl dX11_commute_31 rfl ?_
    refine jo_iload_n (pc := 32) 1 rfl dX11_commute_32 rfl ?_
    refine jo_iconst (pc := 33) dX11_commute_33 (ic_i_2) ?_
    refine jo_cV_Z_i (pc := 34) (μ' := mu_X11_gives) (fx := f_X11_gives σ5 x0 2) (As := [.int x0, .int 2]) (c_X11_gives hw hN) (ok_X11_gives) (ltb rfl) (all3 gw_1567 gw_1569 gw_96) (ik_306 hw hN) (by decide) (q := (RX11, TX11, 39)) rfl rfl rfl rfl (Nat.le_of_ble_eq_true rfl) dX11_commute_34 (fun b6 σ7 => ?_)
    exact jo_breturn (pc := 37) (b := b6) rfl rfl dX11_commute_37
  · refine jo_iconst (pc := 10) dX11_commute_10 (ic_i_0) ?_
    exact jo_breturn (pc := 11) (b := false) rfl rfl dX11_commute_11
theorem c_X11_commute {w : Wd} (hw : WOK w) (hN : wn w = NT) {σ : Mem} {x0 : Int32} {x1 : Int32} {x2 : Int32} : ∀ r σ', f_X11_commute σ x0 x1 x2 = some (r, σ') → MC w mu_X11_commute (vB r) [.ref (adr w 306), .int x0, .int x1, .int x2] σ σ' := mc_of ok_X11_commute rfl (Nat.le_of_ble_eq_true rfl) (t_X11_commute hw hN)
abbrev mu_X11_conjugate : MD := (yX11_conjugate, cX11_conjugate, 4, some .boolean, 38)
theorem ok_X11_conjugate : MOK mu_X11_conjugate 3 := ⟨gw_1616, gw_171, (by decide +kernel : plainFor yX11_conjugate = true), ⟨(by decide +kernel : yX11_conjugate.cls ≠ "java/lang/invoke/MethodHandle"), (by decide +kernel : yX11_conjugate.cls ≠ "java/lang/invoke/VarHandle"), (by decide +kernel : (parseMethodDescriptor yX11_conjugate.desc).map (fun d => d.parameters.length) = some 3)⟩, Nat.le_of_ble_eq_true rfl⟩
noncomputable def f_X11_conjugate (σ : Mem) (x0 : Int32) (x1 : Int32) (x2 : Int32) : Option (Bool × Mem) :=
  bq (f_X11_can σ x0 x1 x2) (fun (b1 : Bool) (σ2 : Mem) => if b1 then (f_X11_laysRegister σ2 0 x1).bind (fun (σ3 : Mem) => (f_X11_laysRegister σ3 1 x2).bind (fun (σ4 : Mem) => (f_X11_conjugates σ4 0 1 2).bind (fun (σ5 : Mem) => bq (f_X11_gives σ5 x0 2) (fun (b6 : Bool) (σ7 : Mem) => some (b6, σ7))))) else some (false, σ2))
theorem t_X11_conjugate {w : Wd} (hw : WOK w) (hN : wn w = NT) {σ : Mem} {x0 : Int32} {x1 : Int32} {x2 : Int32} : JO w mu_X11_conjugate vB σ [(0, .ref (adr w 306)), (1, .int x0), (2, .int x1), (3, .int x2)] [] 0 (f_X11_conjugate σ x0 x1 x2) some := by
  unfold f_X11_conjugate
  refine jo_aload_n (pc := 0) 0 rfl dX11_conjugate_0 rfl ?_
  refine jo_iload_n (pc := 1) 1 rfl dX11_conjugate_1 rfl ?_
  refine jo_iload_n (pc := 2) 2 rfl dX11_conjugate_2 rfl ?_
  refine jo_iload_n (pc := 3) 3 rfl dX11_conjugate_3 rfl ?_
  refine jo_cV_Z_i (pc := 4) (μ' := mu_X11_can) (fx := f_X11_can σ x0 x1 x2) (As := [.int x0, .int x1, .int x2]) (c_X11_can hw hN) (ok_X11_can) (ltb rfl) (all3 gw_1466 gw_1468 gw_72) (ik_306 hw hN) (by decide) (q := (RX11, TX11, 39)) rfl rfl rfl rfl (Nat.le_of_ble_eq_true rfl) dX11_conjugate_4 (fun b1 σ2 => ?_)
  refine jo_ifz_ne (pc := 7) dX11_conjugate_7 (tgt := 12) rfl ?_ ?_
  · refine jo_aload_n (pc := 12) 0 rfl dX11_conjugate_12 rfl ?_
    refine jo_iconst (pc := 13) dX11_conjugate_13 (ic_i_0) ?_
    refine jo_iload_n (pc := 14) 2 rfl dX11_conjugate_14 rfl ?_
    refine jo_cV_V_i (pc := 15) (μ' := mu_X11_laysRegister) (fx := f_X11_laysRegister σ2 0 x1) (As := [.int 0, .int x1]) (c_X11_laysRegister hw hN) (ok_X11_laysRegister) (ltb rfl) (all3 gw_1559 gw_1561 gw_94) (ik_306 hw hN) (by decide) (q := (RX11, TX11, 39)) rfl rfl rfl rfl (Nat.le_of_ble_eq_true rfl) dX11_conjugate_15 (fun σ3 => ?_)
    refine jo_aload_n (pc := 18) 0 rfl dX11_conjugate_18 rfl ?_
    refine jo_iconst (pc := 19) dX11_conjugate_19 (ic_i_1) ?_
    refine jo_iload_n (pc := 20) 3 rfl dX11_conjugate_20 rfl ?_
    refine jo_cV_V_i (pc := 21) (μ' := mu_X11_laysRegister) (fx := f_X11_laysRegister σ3 1 x2) (As := [.int 1, .int x2]) (c_X11_laysRegister hw hN) (ok_X11_laysRegister) (ltb rfl) (all3 gw_1559 gw_1561 gw_94) (ik_306 hw hN) (by decide) (q := (RX11, TX11, 39)) rfl rfl rfl rfl (Nat.le_of_ble_eq_true rfl) dX11_conjugate_21 (fun σ4 => ?_)
    refine jo_aload_n (pc := 24) 0 rfl dX11_conjugate_24 rfl ?_
    refine jo_iconst (pc := 25) dX11_conjugate_25 (ic_i_0) ?_
    refine jo_iconst (pc := 26) dX11_conjugate_26 (ic_i_1) ?_
    refine jo_iconst (pc := 27) dX11_conjugate_27 (ic_i_2) ?_
    refine jo_cV_V_i (pc := 28) (μ' := mu_X11_conjugates) (fx := f_X11_conjugates σ4 0 1 2) (As := [.int 0, .int 1, .int 2]) (c_X11_conjugates hw hN) (ok_X11_conjugates) (ltb rfl) (all3 gw_1617 gw_1619 gw_103) (ik_306 hw hN) (by decide) (q := (RX11, TX11, 39)) rfl rfl rfl rfl (Nat.le_of_ble_eq_true rfl) dX11_conjugate_28 (fun σ5 => ?_)
    refine jo_aload_n (pc := 31) 0 rfl dX11_conjugate_31 rfl ?_
    refine jo_iload_n (pc := 32) 1 rfl dX11_conjugate_32 rfl ?_
    refine jo_iconst (pc := 33) dX11_conjugate_33 (ic_i_2) ?_
    refine jo_cV_Z_i (pc := 34) (μ' := mu_X11_gives) (fx := f_X11_gives σ5 x0 2) (As := [.int x0, .int 2]) (c_X11_gives hw hN) (ok_X11_gives) (ltb rfl) (all3 gw_1567 gw_1569 gw_96) (ik_306 hw hN) (by decide) (q := (RX11, TX11, 39)) rfl rfl rfl rfl (Nat.le_of_ble_eq_true rfl) dX11_conjugate_34 (fun b6 σ7 => ?_)
    exact jo_breturn (pc := 37) (b := b6) rfl rfl dX11_conjugate_37
  · refine jo_iconst (pc := 10) dX11_conjugate_10 (ic_i_0) ?_
    exact jo_breturn (pc := 11) (b := false) rfl rfl dX11_conjugate_11
theorem c_X11_conjugate {w : Wd} (hw : WOK w) (hN : wn w = NT) {σ : Mem} {x0 : Int32} {x1 : Int32} {x2 : Int32} : ∀ r σ', f_X11_conjugate σ x0 x1 x2 = some (r, σ') → MC w mu_X11_conjugate (vB r) [.ref (adr w 306), .int x0, .int x1, .int x2] σ σ' := mc_of ok_X11_conjugate rfl (Nat.le_of_ble_eq_true rfl) (t_X11_conjugate hw hN)
abbrev mu_X11_extracts : MD := (yX11_extracts, cX11_extracts, 7, some .boolean, 6)
theorem ok_X11_extracts : MOK mu_X11_extracts 3 := ⟨gw_1628, gw_171, (by decide +kernel : plainFor yX11_extracts = true), ⟨(by decide +kernel : yX11_extracts.cls ≠ "java/lang/invoke/MethodHandle"), (by decide +kernel : yX11_extracts.cls ≠ "java/lang/invoke/VarHandle"), (by decide +kernel : (parseMethodDescriptor yX11_extracts.desc).map (fun d => d.parameters.length) = some 3)⟩, Nat.le_of_ble_eq_true rfl⟩
noncomputable def l_X11_extracts_8 (x0 : Int32) (x1 : Int32) (x2 : Int32) (σ2 : Mem) (i3 : Int32) : Option ((Mem × Int32) ⊕ (Bool × Mem)) :=
  (f_X11_n σ2).bind (fun (v4 : Int32) => if v4 ≤ i3 then (some (Sum.inr (true, σ2))) else ((f_X11_raises σ2 x1 (x1 + 1) x2).bind (fun (σ5 : Mem) => (f_X11_of σ5 x0 i3).bind (fun (v6 : Int64) => (f_X11_of σ5 (x1 + 1) i3).bind (fun (v7 : Int64) => bd (v6 - v7) (fun (v8 : Int64) => nzL (Int32.toInt64 x2) (if (v8 - v8 / (Int32.toInt64 x2) * (Int32.toInt64 x2)) = 0 then (nzL (Int32.toInt64 x2) ((f_X11_puts σ5 x1 i3 (v8 / (Int32.toInt64 x2))).bind (fun (σ9 : Mem) => some (Sum.inl (σ9, i3 + 1))))) else (some (Sum.inr (false, σ5))))))))))
noncomputable def f_X11_extracts (σ : Mem) (x0 : Int32) (x1 : Int32) (x2 : Int32) : Option (Bool × Mem) :=
  (f_X11_ones σ x1).bind (fun (σ1 : Mem) => loopO (fun (z3 : (Mem × Int32)) => l_X11_extracts_8 x0 x1 x2 z3.1 z3.2) (σ1, 0))
theorem t_X11_extracts {w : Wd} (hw : WOK w) (hN : wn w = NT) {σ : Mem} {x0 : Int32} {x1 : Int32} {x2 : Int32} : JO w mu_X11_extracts vB σ [(0, .ref (adr w 306)), (1, .int x0), (2, .int x1), (3, .int x2)] [] 0 (f_X11_extracts σ x0 x1 x2) some := by
  unfold f_X11_extracts
  refine jo_aload_n (pc := 0) 0 rfl dX11_extracts_0 rfl ?_
  refine jo_iload_n (pc := 1) 2 rfl dX11_extracts_1 rfl ?_
  refine jo_cV_V_i (pc := 2) (μ' := mu_X11_ones) (fx := f_X11_ones σ x1) (As := [.int x1]) (c_X11_ones hw hN) (ok_X11_ones) (ltb rfl) (all3 gw_1587 gw_1589 gw_99) (ik_306 hw hN) (by decide) (q := (RX11, TX11, 39)) rfl rfl rfl rfl (Nat.le_of_ble_eq_true rfl) dX11_extracts_2 (fun σ1 => ?_)
  refine jo_iconst (pc := 5) dX11_extracts_5 (ic_i_0) ?_
  refine jo_istore (pc := 6) (lv' := [(4, .int 0), (0, .ref (adr w 306)), (1, .int x0), (2, .int x1), (3, .int x2)]) dX11_extracts_6 (ltb rfl) rfl ?_
  refine jo_lv (lv' := [(0, .ref (adr w 306)), (1, .int x0), (2, .int x1), (3, .int x2), (4, .int 0)]) [1, 2, 3, 4, 0] rfl ?_
  refine jo_loop (X := (Bool × Mem)) (fun (z3 : (Mem × Int32)) => z3.1) (fun (z3 : (Mem × Int32)) => [(0, .ref (adr w 306)), (1, .int x0), (2, .int x1), (3, .int x2), (4, .int z3.2)]) (body := (fun (z3 : (Mem × Int32)) => l_X11_extracts_8 x0 x1 x2 z3.1 z3.2)) (fun F8_3 hF8_3 s => ?_) (σ1, 0)
  obtain ⟨σ2, i3⟩ := s
  show JO w mu_X11_extracts vB σ2 [(0, .ref (adr w 306)), (1, .int x0), (2, .int x1), (3, .int x2), (4, .int i3)] [] 8 (l_X11_extracts_8 x0 x1 x2 σ2 i3) _
  unfold l_X11_extracts_8
  refine jo_iload (pc := 8) 4 rfl dX11_extracts_8 ?_
  refine jo_aload_n (pc := 10) 0 rfl dX11_extracts_10 rfl ?_
  refine jo_cV_I_p (pc := 11) (μ' := mu_X11_n) (fx := f_X11_n σ2) (As := []) (c_X11_n hw hN) (ok_X11_n) (ltb rfl) (all3 gw_1441 gw_1443 gw_68) (ik_306 hw hN) (by decide) (q := (RX11, TX11, 39)) rfl rfl rfl rfl (Nat.le_of_ble_eq_true rfl) dX11_extracts_11 (fun v4 => ?_)
  refine jo_icmp_ge (pc := 14) dX11_extracts_14 (tgt := 75) rfl ?_ ?_
  · refine jo_iconst (pc := 75) dX11_extracts_75 (ic_i_1) ?_
    exact jo_breturn (pc := 76) (b := true) rfl rfl dX11_extracts_76
  · refine jo_aload_n (pc := 17) 0 rfl dX11_extracts_17 rfl ?_
    refine jo_iload_n (pc := 18) 2 rfl dX11_extracts_18 rfl ?_
    refine jo_iload_n (pc := 19) 2 rfl dX11_extracts_19 rfl ?_
    refine jo_iconst (pc := 20) dX11_extracts_20 (ic_i_1) ?_
    refine jo_iadd (pc := 21) dX11_extracts_21 ?_
    refine jo_iload_n (pc := 22) 3 rfl dX11_extracts_22 rfl ?_
    refine jo_cV_V_i (pc := 23) (μ' := mu_X11_raises) (fx := f_X11_raises σ2 x1 (x1 + 1) x2) (As := [.int x1, .int (x1 + 1), .int x2]) (c_X11_raises hw hN) (ok_X11_raises) (ltb rfl) (all3 gw_1601 gw_1603 gw_101) (ik_306 hw hN) (by decide) (q := (RX11, TX11, 39)) rfl rfl rfl rfl (Nat.le_of_ble_eq_true rfl) dX11_extracts_23 (fun σ5 => ?_)
    refine jo_aload_n (pc := 26) 0 rfl dX11_extracts_26 rfl ?_
    refine jo_iload_n (pc := 27) 1 rfl dX11_extracts_27 rfl ?_
    refine jo_iload (pc := 28) 4 rfl dX11_extracts_28 ?_
    refine jo_cV_J_p (pc := 30) (μ' := mu_X11_of) (fx := f_X11_of σ5 x0 i3) (As := [.int x0, .int i3]) (c_X11_of hw hN) (ok_X11_of) (ltb rfl) (all3 gw_1527 gw_1529 gw_87) (ik_306 hw hN) (by decide) (q := (RX11, TX11, 39)) rfl rfl rfl rfl (Nat.le_of_ble_eq_true rfl) dX11_extracts_30 (fun v6 => ?_)
    refine jo_aload_n (pc := 33) 0 rfl dX11_extracts_33 rfl ?_
    refine jo_iload_n (pc := 34) 2 rfl dX11_extracts_34 rfl ?_
    refine jo_iconst (pc := 35) dX11_extracts_35 (ic_i_1) ?_
    refine jo_iadd (pc := 36) dX11_extracts_36 ?_
    refine jo_iload (pc := 37) 4 rfl dX11_extracts_37 ?_
    refine jo_cV_J_p (pc := 39) (μ' := mu_X11_of) (fx := f_X11_of σ5 (x1 + 1) i3) (As := [.int (x1 + 1), .int i3]) (c_X11_of hw hN) (ok_X11_of) (ltb rfl) (all3 gw_1527 gw_1529 gw_87) (ik_306 hw hN) (by decide) (q := (RX11, TX11, 39)) rfl rfl rfl rfl (Nat.le_of_ble_eq_true rfl) dX11_extracts_39 (fun v7 => ?_)
    refine jo_lsub (pc := 42) dX11_extracts_42 ?_
    refine jo_bd ?_
    refine jo_lstore (pc := 43) (lv' := [(5, .long (v6 - v7)), (0, .ref (adr w 306)), (1, .int x0), (2, .int x1), (3, .int x2), (4, .int i3)]) dX11_extracts_43 (ltb rfl) rfl ?_
    generalize (v6 - v7) = v8
    refine jo_lload (pc := 45) 0 rfl dX11_extracts_45 ?_
    refine jo_iload_n (pc := 47) 4 rfl dX11_extracts_47 rfl ?_
    refine jo_i2l (pc := 48) dX11_extracts_48 ?_
    refine jo_lrem (pc := 49) dX11_extracts_49 ?_
    refine jo_lconst (pc := 50) dX11_extracts_50 (ic_l_0) ?_
    refine jo_lcmp_eq (pc := 51) dX11_extracts_51 dX11_extracts_52 (tgt := 57) rfl ?_ ?_
    · refine jo_aload_n (pc := 57) 1 rfl dX11_extracts_57 rfl ?_
      refine jo_iload_n (pc := 58) 3 rfl dX11_extracts_58 rfl ?_
      refine jo_iload (pc := 59) 5 rfl dX11_extracts_59 ?_
      refine jo_lload (pc := 61) 0 rfl dX11_extracts_61 ?_
      refine jo_iload_n (pc := 63) 4 rfl dX11_extracts_63 rfl ?_
      refine jo_i2l (pc := 64) dX11_extracts_64 ?_
      refine jo_ldiv (pc := 65) dX11_extracts_65 ?_
      refine jo_cV_V_i (pc := 66) (μ' := mu_X11_puts) (fx := f_X11_puts σ5 x1 i3 (v8 / (Int32.toInt64 x2))) (As := [.int x1, .int i3, .long (v8 / (Int32.toInt64 x2))]) (c_X11_puts hw hN) (ok_X11_puts) (ltb rfl) (all3 gw_1519 gw_1521 gw_85) (ik_306 hw hN) (by decide) (q := (RX11, TX11, 39)) rfl rfl rfl rfl (Nat.le_of_ble_eq_true rfl) dX11_extracts_66 (fun σ9 => ?_)
      refine jo_iinc (pc := 69) (lv' := [(4, .int (i3 + 1)), (5, .long v8), (0, .ref (adr w 306)), (1, .int x0), (2, .int x1), (3, .int x2)]) 5 rfl dX11_extracts_69 (congrArg (fun z => i3 + z) (ic_i_1)) (ltb rfl) rfl ?_
      refine jo_goto (pc := 72) dX11_extracts_72 (tgt := 8) rfl ?_
      refine jo_lv (lv' := [(0, .ref (adr w 306)), (1, .int x0), (2, .int x1), (3, .int x2), (4, .int (i3 + 1))]) [2, 3, 4, 5, 0] rfl ?_
      exact jo_leaf (by rfl) (hF8_3 (σ9, i3 + 1))
    · refine jo_iconst (pc := 55) dX11_extracts_55 (ic_i_0) ?_
      exact jo_breturn (pc := 56) (b := false) rfl rfl dX11_extracts_56
theorem c_X11_extracts {w : Wd} (hw : WOK w) (hN : wn w = NT) {σ : Mem} {x0 : Int32} {x1 : Int32} {x2 : Int32} : ∀ r σ', f_X11_extracts σ x0 x1 x2 = some (r, σ') → MC w mu_X11_extracts (vB r) [.ref (adr w 306), .int x0, .int x1, .int x2] σ σ' := mc_of ok_X11_extracts rfl (Nat.le_of_ble_eq_true rfl) (t_X11_extracts hw hN)
abbrev mu_X11_root : MD := (yX11_root, cX11_root, 4, some .boolean, 38)
theorem ok_X11_root : MOK mu_X11_root 3 := ⟨gw_1624, gw_171, (by decide +kernel : plainFor yX11_root = true), ⟨(by decide +kernel : yX11_root.cls ≠ "java/lang/invoke/MethodHandle"), (by decide +kernel : yX11_root.cls ≠ "java/lang/invoke/VarHandle"), (by decide +kernel : (parseMethodDescriptor yX11_root.desc).map (fun d => d.parameters.length) = some 3)⟩, Nat.le_of_ble_eq_true rfl⟩
noncomputable def j_X11_root_62 (σ7 : Mem) : Option (Bool × Mem) :=
  some (false, σ7)
noncomputable def f_X11_root (σ : Mem) (x0 : Int32) (x1 : Int32) (x2 : Int32) : Option (Bool × Mem) :=
  bq (f_X11_can σ x0 x1 x1) (fun (b1 : Bool) (σ2 : Mem) => if b1 then (f_X11_isIn σ2 (Int32.toInt64 x2) 1 99).bind (fun (b3 : Bool) => if b3 then (f_X11_laysRegister σ2 0 x1).bind (fun (σ4 : Mem) => bq (f_X11_extracts σ4 0 1 x2) (fun (b5 : Bool) (σ6 : Mem) => (if b5 then (f_X11_isElement σ6 1).bind (fun (b8 : Bool) => if b8 then bq (f_X11_gives σ6 x0 1) (fun (b9 : Bool) (σ10 : Mem) => if b9 then some (Sum.inr (true, σ10)) else some (Sum.inl σ10)) else some (Sum.inl σ6)) else some (Sum.inl σ6) : Option (Mem ⊕ (Bool × Mem))).bind (Sum.elim (fun (z7 : Mem) => j_X11_root_62 z7) some))) else some (false, σ2)) else some (false, σ2))
theorem t_X11_root {w : Wd} (hw : WOK w) (hN : wn w = NT) {σ : Mem} {x0 : Int32} {x1 : Int32} {x2 : Int32} : JO w mu_X11_root vB σ [(0, .ref (adr w 306)), (1, .int x0), (2, .int x1), (3, .int x2)] [] 0 (f_X11_root σ x0 x1 x2) some := by
  unfold f_X11_root
  refine jo_aload_n (pc := 0) 0 rfl dX11_root_0 rfl ?_
  refine jo_iload_n (pc := 1) 1 rfl dX11_root_1 rfl ?_
  refine jo_iload_n (pc := 2) 2 rfl dX11_root_2 rfl ?_
  refine jo_iload_n (pc := 3) 2 rfl dX11_root_3 rfl ?_
  refine jo_cV_Z_i (pc := 4) (μ' := mu_X11_can) (fx := f_X11_can σ x0 x1 x1) (As := [.int x0, .int x1, .int x1]) (c_X11_can hw hN) (ok_X11_can) (ltb rfl) (all3 gw_1466 gw_1468 gw_72) (ik_306 hw hN) (by decide) (q := (RX11, TX11, 39)) rfl rfl rfl rfl (Nat.le_of_ble_eq_true rfl) dX11_root_4 (fun b1 σ2 => ?_)
  refine jo_ifz_eq (pc := 7) dX11_root_7 (tgt := 23) rfl ?_ ?_
  · refine jo_iconst (pc := 23) dX11_root_23 (ic_i_0) ?_
    exact jo_breturn (pc := 24) (b := false) rfl rfl dX11_root_24
  · refine jo_aload_n (pc := 10) 0 rfl dX11_root_10 rfl ?_
    refine jo_iload_n (pc := 11) 3 rfl dX11_root_11 rfl ?_
    refine jo_i2l (pc := 12) dX11_root_12 ?_
    refine jo_lconst (pc := 13) dX11_root_13 (ic_l_1) ?_
    refine jo_ldc2 (pc := 14) dX11_root_14 gw_1600 ?_
    refine jo_cV_Z_p (pc := 17) (μ' := mu_X11_isIn) (fx := f_X11_isIn σ2 (Int32.toInt64 x2) 1 99) (As := [.long (Int32.toInt64 x2), .long 1, .long 99]) (c_X11_isIn hw hN) (ok_X11_isIn) (ltb rfl) (all3 gw_1420 gw_1422 gw_64) (ik_306 hw hN) (by decide) (q := (RX11, TX11, 39)) rfl rfl rfl rfl (Nat.le_of_ble_eq_true rfl) dX11_root_17 (fun b3 => ?_)
    refine jo_ifz_ne (pc := 20) dX11_root_20 (tgt := 25) rfl ?_ ?_
    · refine jo_aload_n (pc := 25) 0 rfl dX11_root_25 rfl ?_
      refine jo_iconst (pc := 26) dX11_root_26 (ic_i_0) ?_
      refine jo_iload_n (pc := 27) 2 rfl dX11_root_27 rfl ?_
      refine jo_cV_V_i (pc := 28) (μ' := mu_X11_laysRegister) (fx := f_X11_laysRegister σ2 0 x1) (As := [.int 0, .int x1]) (c_X11_laysRegister hw hN) (ok_X11_laysRegister) (ltb rfl) (all3 gw_1559 gw_1561 gw_94) (ik_306 hw hN) (by decide) (q := (RX11, TX11, 39)) rfl rfl rfl rfl (Nat.le_of_ble_eq_true rfl) dX11_root_28 (fun σ4 => ?_)
      refine jo_aload_n (pc := 31) 0 rfl dX11_root_31 rfl ?_
      refine jo_iconst (pc := 32) dX11_root_32 (ic_i_0) ?_
      refine jo_iconst (pc := 33) dX11_root_33 (ic_i_1) ?_
      refine jo_iload_n (pc := 34) 3 rfl dX11_root_34 rfl ?_
      refine jo_cV_Z_i (pc := 35) (μ' := mu_X11_extracts) (fx := f_X11_extracts σ4 0 1 x2) (As := [.int 0, .int 1, .int x2]) (c_X11_extracts hw hN) (ok_X11_extracts) (ltb rfl) (all3 gw_1625 gw_1627 gw_104) (ik_306 hw hN) (by decide) (q := (RX11, TX11, 39)) rfl rfl rfl rfl (Nat.le_of_ble_eq_true rfl) dX11_root_35 (fun b5 σ6 => ?_)
      refine jo_joinS (S := Mem) (fun (z7 : Mem) => z7) (fun (z7 : Mem) => []) (fun (z7 : Mem) => []) 62 ?_ (fun h62_7 => ?_)
      · intro σ7
        show JO w mu_X11_root vB σ7 [] [] 62 (j_X11_root_62 σ7) _
        unfold j_X11_root_62
        refine jo_iconst (pc := 62) dX11_root_62 (ic_i_0) ?_
        exact jo_breturn (pc := 63) (b := false) rfl rfl dX11_root_63
      · refine jo_ifz_eq (pc := 38) dX11_root_38 (tgt := 62) rfl ?_ ?_
        · refine jo_lv (lv' := []) [] rfl ?_
          exact jo_leaf (by rfl) (h62_7 σ6)
        · refine jo_aload_n (pc := 41) 0 rfl dX11_root_41 rfl ?_
          refine jo_iconst (pc := 42) dX11_root_42 (ic_i_1) ?_
          refine jo_cV_Z_p (pc := 43) (μ' := mu_X11_isElement) (fx := f_X11_isElement σ6 1) (As := [.int 1]) (c_X11_isElement hw hN) (ok_X11_isElement) (ltb rfl) (all3 gw_1571 gw_1573 gw_97) (ik_306 hw hN) (by decide) (q := (RX11, TX11, 39)) rfl rfl rfl rfl (Nat.le_of_ble_eq_true rfl) dX11_root_43 (fun b8 => ?_)
          refine jo_ifz_eq (pc := 46) dX11_root_46 (tgt := 62) rfl ?_ ?_
          · refine jo_lv (lv' := []) [] rfl ?_
            exact jo_leaf (by rfl) (h62_7 σ6)
          · refine jo_aload_n (pc := 49) 0 rfl dX11_root_49 rfl ?_
            refine jo_iload_n (pc := 50) 1 rfl dX11_root_50 rfl ?_
            refine jo_iconst (pc := 51) dX11_root_51 (ic_i_1) ?_
            refine jo_cV_Z_i (pc := 52) (μ' := mu_X11_gives) (fx := f_X11_gives σ6 x0 1) (As := [.int x0, .int 1]) (c_X11_gives hw hN) (ok_X11_gives) (ltb rfl) (all3 gw_1567 gw_1569 gw_96) (ik_306 hw hN) (by decide) (q := (RX11, TX11, 39)) rfl rfl rfl rfl (Nat.le_of_ble_eq_true rfl) dX11_root_52 (fun b9 σ10 => ?_)
            refine jo_ifz_eq (pc := 55) dX11_root_55 (tgt := 62) rfl ?_ ?_
            · refine jo_lv (lv' := []) [] rfl ?_
              exact jo_leaf (by rfl) (h62_7 σ10)
            · refine jo_iconst (pc := 58) dX11_root_58 (ic_i_1) ?_
              refine jo_goto (pc := 59) dX11_root_59 (tgt := 63) rfl ?_
              exact jo_breturn (pc := 63) (b := true) rfl rfl dX11_root_63
    · refine jo_iconst (pc := 23) dX11_root_23 (ic_i_0) ?_
      exact jo_breturn (pc := 24) (b := false) rfl rfl dX11_root_24
theorem c_X11_root {w : Wd} (hw : WOK w) (hN : wn w = NT) {σ : Mem} {x0 : Int32} {x1 : Int32} {x2 : Int32} : ∀ r σ', f_X11_root σ x0 x1 x2 = some (r, σ') → MC w mu_X11_root (vB r) [.ref (adr w 306), .int x0, .int x1, .int x2] σ σ' := mc_of ok_X11_root rfl (Nat.le_of_ble_eq_true rfl) (t_X11_root hw hN)
abbrev mu_X11_seeks (d : Nat) : MD := (yX11_seeks, cX11_seeks, 4, some .boolean, 6 + d)
theorem ok_X11_seeks (d : Nat) : MOK (mu_X11_seeks d) 2 := ⟨gw_1636, gw_171, (by decide +kernel : plainFor yX11_seeks = true), ⟨(by decide +kernel : yX11_seeks.cls ≠ "java/lang/invoke/MethodHandle"), (by decide +kernel : yX11_seeks.cls ≠ "java/lang/invoke/VarHandle"), (by decide +kernel : (parseMethodDescriptor yX11_seeks.desc).map (fun d => d.parameters.length) = some 2)⟩, Nat.le_of_ble_eq_true rfl⟩
noncomputable def j_X11_seeks_20 (rec : Mem → Int32 → Int32 → Option (Bool × Mem)) (σ : Mem) : Option (Bool × Mem) :=
  (f_X11_conjugates σ 0 2 3).bind (fun (σ2 : Mem) => (f_X11_areSame σ2 3 1).bind (fun (b3 : Bool) => some (b3, σ2)))
noncomputable def j_X11_seeks_69 (rec : Mem → Int32 → Int32 → Option (Bool × Mem)) (x0 : Int32) (σ7 : Mem) : Option (Unit ⊕ (Bool × Mem)) :=
  (f_X11_puts σ7 2 x0 0).bind (fun (σ8 : Mem) => some (Sum.inr (false, σ8)))
noncomputable def l_X11_seeks_37 (rec : Mem → Int32 → Int32 → Option (Bool × Mem)) (x0 : Int32) (x1 : Int32) (σ9 : Mem) (i10 : Int32) : Option ((Mem × Int32) ⊕ (Mem ⊕ (Unit ⊕ (Bool × Mem)))) :=
  if x1 < i10 then (some (Sum.inr (Sum.inl σ9))) else ((f_X11_puts σ9 2 x0 (Int32.toInt64 i10)).bind (fun (σ11 : Mem) => bq (rec σ11 (x0 + 1) x1) (fun (b12 : Bool) (σ13 : Mem) => if b12 then some (Sum.inr (Sum.inr (Sum.inr (true, σ13)))) else some (Sum.inl (σ13, i10 + 1)))))
noncomputable def o_X11_seeks (rec : Mem → Int32 → Int32 → Option (Bool × Mem)) (σ : Mem) (x0 : Int32) (x1 : Int32) : Option (Bool × Mem) :=
  (f_X11_n σ).bind (fun (v1 : Int32) => (if x0 = v1 then (some (Sum.inl ())) else ((f_X11_weight σ x0).bind (fun (v4 : Int32) => (f_X11_level σ).bind (fun (v5 : Int32) => if v4 = v5 then (some (Sum.inl ())) else (bd (-x1) (fun (v6 : Int32) => (loopO (fun (z10 : (Mem × Int32)) => l_X11_seeks_37 rec x0 x1 z10.1 z10.2) (σ, v6) : Option (Mem ⊕ (Unit ⊕ (Bool × Mem)))).bind (Sum.elim (fun (z7 : Mem) => j_X11_seeks_69 rec x0 z7) some)))))) : Option (Unit ⊕ (Bool × Mem))).bind (Sum.elim (fun (z1 : Unit) => j_X11_seeks_20 rec σ) some))
theorem t_X11_seeks {w : Wd} (hw : WOK w) (hN : wn w = NT) {d : Nat} {rec : Mem → Int32 → Int32 → Option (Bool × Mem)} (hrec : ∀ {τ0 : Mem} {y0 : Int32} {y1 : Int32}, ∀ r τ, rec τ0 y0 y1 = some (r, τ) → MC w (mu_X11_seeks d) (vB r) [.ref (adr w 306), .int y0, .int y1] τ0 τ) {σ : Mem} {x0 : Int32} {x1 : Int32} : JO w (mu_X11_seeks (d + 1)) vB σ [(0, .ref (adr w 306)), (1, .int x0), (2, .int x1)] [] 0 (o_X11_seeks rec σ x0 x1) some := by
  unfold o_X11_seeks
  refine jo_iload_n (pc := 0) 1 rfl dX11_seeks_0 rfl ?_
  refine jo_aload_n (pc := 1) 0 rfl dX11_seeks_1 rfl ?_
  refine jo_cV_I_p (pc := 2) (μ' := mu_X11_n) (fx := f_X11_n σ) (As := []) (c_X11_n hw hN) (ok_X11_n) (by simp only [mu_X11_seeks, mu_X11_n]; omega) (all3 gw_1441 gw_1443 gw_68) (ik_306 hw hN) (by decide) (q := (RX11, TX11, 39)) rfl rfl rfl rfl (Nat.le_of_ble_eq_true rfl) dX11_seeks_2 (fun v1 => ?_)
  refine jo_joinS (S := Unit) (fun (z1 : Unit) => σ) (fun (z1 : Unit) => [(0, .ref (adr w 306))]) (fun (z1 : Unit) => []) 20 ?_ (fun h20_1 => ?_)
  · intro _
    show JO w (mu_X11_seeks (d + 1)) vB σ [(0, .ref (adr w 306))] [] 20 (j_X11_seeks_20 rec σ) _
    unfold j_X11_seeks_20
    refine jo_aload_n (pc := 20) 0 rfl dX11_seeks_20 rfl ?_
    refine jo_iconst (pc := 21) dX11_seeks_21 (ic_i_0) ?_
    refine jo_iconst (pc := 22) dX11_seeks_22 (ic_i_2) ?_
    refine jo_iconst (pc := 23) dX11_seeks_23 (ic_i_3) ?_
    refine jo_cV_V_i (pc := 24) (μ' := mu_X11_conjugates) (fx := f_X11_conjugates σ 0 2 3) (As := [.int 0, .int 2, .int 3]) (c_X11_conjugates hw hN) (ok_X11_conjugates) (by simp only [mu_X11_seeks, mu_X11_conjugates]; omega) (all3 gw_1617 gw_1619 gw_103) (ik_306 hw hN) (by decide) (q := (RX11, TX11, 39)) rfl rfl rfl rfl (Nat.le_of_ble_eq_true rfl) dX11_seeks_24 (fun σ2 => ?_)
    refine jo_aload_n (pc := 27) 0 rfl dX11_seeks_27 rfl ?_
    refine jo_iconst (pc := 28) dX11_seeks_28 (ic_i_3) ?_
    refine jo_iconst (pc := 29) dX11_seeks_29 (ic_i_1) ?_
    refine jo_cV_Z_p (pc := 30) (μ' := mu_X11_areSame) (fx := f_X11_areSame σ2 3 1) (As := [.int 3, .int 1]) (c_X11_areSame hw hN) (ok_X11_areSame) (by simp only [mu_X11_seeks, mu_X11_areSame]; omega) (all3 gw_1641 gw_1643 gw_107) (ik_306 hw hN) (by decide) (q := (RX11, TX11, 39)) rfl rfl rfl rfl (Nat.le_of_ble_eq_true rfl) dX11_seeks_30 (fun b3 => ?_)
    exact jo_breturn (pc := 33) (b := b3) rfl rfl dX11_seeks_33
  · refine jo_icmp_eq (pc := 5) dX11_seeks_5 (tgt := 20) rfl ?_ ?_
    · refine jo_lv (lv' := [(0, .ref (adr w 306))]) [0] rfl ?_
      exact jo_leaf (by rfl) (h20_1 ())
    · refine jo_aload_n (pc := 8) 0 rfl dX11_seeks_8 rfl ?_
      refine jo_iload_n (pc := 9) 1 rfl dX11_seeks_9 rfl ?_
      refine jo_cV_I_p (pc := 10) (μ' := mu_X11_weight) (fx := f_X11_weight σ x0) (As := [.int x0]) (c_X11_weight hw hN) (ok_X11_weight) (by simp only [mu_X11_seeks, mu_X11_weight]; omega) (all3 gw_1446 gw_1448 gw_69) (ik_306 hw hN) (by decide) (q := (RX11, TX11, 39)) rfl rfl rfl rfl (Nat.le_of_ble_eq_true rfl) dX11_seeks_10 (fun v4 => ?_)
      refine jo_aload_n (pc := 13) 0 rfl dX11_seeks_13 rfl ?_
      refine jo_cV_I_p (pc := 14) (μ' := mu_X11_level) (fx := f_X11_level σ) (As := []) (c_X11_level hw hN) (ok_X11_level) (by simp only [mu_X11_seeks, mu_X11_level]; omega) (all3 gw_1637 gw_1639 gw_106) (ik_306 hw hN) (by decide) (q := (RX11, TX11, 39)) rfl rfl rfl rfl (Nat.le_of_ble_eq_true rfl) dX11_seeks_14 (fun v5 => ?_)
      refine jo_icmp_ne (pc := 17) dX11_seeks_17 (tgt := 34) rfl ?_ ?_
      · refine jo_iload_n (pc := 34) 2 rfl dX11_seeks_34 rfl ?_
        refine jo_ineg (pc := 35) dX11_seeks_35 ?_
        refine jo_bd ?_
        refine jo_istore_n (pc := 36) (lv' := [(3, .int (-x1)), (0, .ref (adr w 306)), (1, .int x0), (2, .int x1)]) dX11_seeks_36 rfl (ltb rfl) rfl ?_
        generalize (-x1) = v6
        refine jo_joinS (S := Mem) (fun (z7 : Mem) => z7) (fun (z7 : Mem) => [(0, .ref (adr w 306)), (1, .int x0)]) (fun (z7 : Mem) => []) 69 ?_ (fun h69_7 => ?_)
        · intro σ7
          show JO w (mu_X11_seeks (d + 1)) vB σ7 [(0, .ref (adr w 306)), (1, .int x0)] [] 69 (j_X11_seeks_69 rec x0 σ7) _
          unfold j_X11_seeks_69
          refine jo_aload_n (pc := 69) 0 rfl dX11_seeks_69 rfl ?_
          refine jo_iconst (pc := 70) dX11_seeks_70 (ic_i_2) ?_
          refine jo_iload_n (pc := 71) 1 rfl dX11_seeks_71 rfl ?_
          refine jo_lconst (pc := 72) dX11_seeks_72 (ic_l_0) ?_
          refine jo_cV_V_i (pc := 73) (μ' := mu_X11_puts) (fx := f_X11_puts σ7 2 x0 0) (As := [.int 2, .int x0, .long 0]) (c_X11_puts hw hN) (ok_X11_puts) (by simp only [mu_X11_seeks, mu_X11_puts]; omega) (all3 gw_1519 gw_1521 gw_85) (ik_306 hw hN) (by decide) (q := (RX11, TX11, 39)) rfl rfl rfl rfl (Nat.le_of_ble_eq_true rfl) dX11_seeks_73 (fun σ8 => ?_)
          refine jo_iconst (pc := 76) dX11_seeks_76 (ic_i_0) ?_
          exact jo_breturn (pc := 77) (b := false) rfl rfl dX11_seeks_77
        · refine jo_lv (lv' := [(0, .ref (adr w 306)), (1, .int x0), (2, .int x1), (3, .int v6)]) [1, 2, 3, 0] rfl ?_
          refine jo_loop (X := Mem ⊕ (Unit ⊕ (Bool × Mem))) (fun (z10 : (Mem × Int32)) => z10.1) (fun (z10 : (Mem × Int32)) => [(0, .ref (adr w 306)), (1, .int x0), (2, .int x1), (3, .int z10.2)]) (body := (fun (z10 : (Mem × Int32)) => l_X11_seeks_37 rec x0 x1 z10.1 z10.2)) (fun F37_10 hF37_10 s => ?_) (σ, v6)
          obtain ⟨σ9, i10⟩ := s
          show JO w (mu_X11_seeks (d + 1)) vB σ9 [(0, .ref (adr w 306)), (1, .int x0), (2, .int x1), (3, .int i10)] [] 37 (l_X11_seeks_37 rec x0 x1 σ9 i10) _
          unfold l_X11_seeks_37
          refine jo_iload_n (pc := 37) 3 rfl dX11_seeks_37 rfl ?_
          refine jo_iload_n (pc := 38) 2 rfl dX11_seeks_38 rfl ?_
          refine jo_icmp_gt (pc := 39) dX11_seeks_39 (tgt := 69) rfl ?_ ?_
          · refine jo_lv (lv' := [(0, .ref (adr w 306)), (1, .int x0)]) [0, 1] rfl ?_
            exact jo_leaf (by rfl) (h69_7 σ9)
          · refine jo_aload_n (pc := 42) 0 rfl dX11_seeks_42 rfl ?_
            refine jo_iconst (pc := 43) dX11_seeks_43 (ic_i_2) ?_
            refine jo_iload_n (pc := 44) 1 rfl dX11_seeks_44 rfl ?_
            refine jo_iload_n (pc := 45) 3 rfl dX11_seeks_45 rfl ?_
            refine jo_i2l (pc := 46) dX11_seeks_46 ?_
            refine jo_cV_V_i (pc := 47) (μ' := mu_X11_puts) (fx := f_X11_puts σ9 2 x0 (Int32.toInt64 i10)) (As := [.int 2, .int x0, .long (Int32.toInt64 i10)]) (c_X11_puts hw hN) (ok_X11_puts) (by simp only [mu_X11_seeks, mu_X11_puts]; omega) (all3 gw_1519 gw_1521 gw_85) (ik_306 hw hN) (by decide) (q := (RX11, TX11, 39)) rfl rfl rfl rfl (Nat.le_of_ble_eq_true rfl) dX11_seeks_47 (fun σ11 => ?_)
            refine jo_aload_n (pc := 50) 0 rfl dX11_seeks_50 rfl ?_
            refine jo_iload_n (pc := 51) 1 rfl dX11_seeks_51 rfl ?_
            refine jo_iconst (pc := 52) dX11_seeks_52 (ic_i_1) ?_
            refine jo_iadd (pc := 53) dX11_seeks_53 ?_
            refine jo_iload_n (pc := 54) 2 rfl dX11_seeks_54 rfl ?_
            refine jo_cV_Z_i (pc := 55) (μ' := (mu_X11_seeks d)) (fx := rec σ11 (x0 + 1) x1) (As := [.int (x0 + 1), .int x1]) (hrec) (ok_X11_seeks _) (by simp only [mu_X11_seeks, mu_X11_seeks]; omega) (all3 gw_1633 gw_1635 gw_105) (ik_306 hw hN) (by decide) (q := (RX11, TX11, 39)) rfl rfl rfl rfl (Nat.le_of_ble_eq_true rfl) dX11_seeks_55 (fun b12 σ13 => ?_)
            refine jo_ifz_eq (pc := 58) dX11_seeks_58 (tgt := 63) rfl ?_ ?_
            · refine jo_iinc (pc := 63) (lv' := [(3, .int (i10 + 1)), (0, .ref (adr w 306)), (1, .int x0), (2, .int x1)]) 3 rfl dX11_seeks_63 (congrArg (fun z => i10 + z) (ic_i_1)) (ltb rfl) rfl ?_
              refine jo_goto (pc := 66) dX11_seeks_66 (tgt := 37) rfl ?_
              refine jo_lv (lv' := [(0, .ref (adr w 306)), (1, .int x0), (2, .int x1), (3, .int (i10 + 1))]) [1, 2, 3, 0] rfl ?_
              exact jo_leaf (by rfl) (hF37_10 (σ13, i10 + 1))
            · refine jo_iconst (pc := 61) dX11_seeks_61 (ic_i_1) ?_
              exact jo_breturn (pc := 62) (b := true) rfl rfl dX11_seeks_62
      · refine jo_lv (lv' := [(0, .ref (adr w 306))]) [0] rfl ?_
        exact jo_leaf (by rfl) (h20_1 ())
theorem co_X11_seeks {w : Wd} (hw : WOK w) (hN : wn w = NT) {d : Nat} {rec : Mem → Int32 → Int32 → Option (Bool × Mem)} (hrec : ∀ {τ0 : Mem} {y0 : Int32} {y1 : Int32}, ∀ r τ, rec τ0 y0 y1 = some (r, τ) → MC w (mu_X11_seeks d) (vB r) [.ref (adr w 306), .int y0, .int y1] τ0 τ) {σ : Mem} {x0 : Int32} {x1 : Int32} : ∀ r σ', o_X11_seeks rec σ x0 x1 = some (r, σ') → MC w (mu_X11_seeks (d + 1)) (vB r) [.ref (adr w 306), .int x0, .int x1] σ σ' := mc_of (ok_X11_seeks _) rfl (Nat.le_of_ble_eq_true rfl) (t_X11_seeks hw hN hrec)
noncomputable def f_X11_seeks : Nat → Mem → Int32 → Int32 → Option (Bool × Mem)
  | 0 => fun _ _ _ => none
  | n + 1 => fun σ x0 x1 => o_X11_seeks (f_X11_seeks n) σ x0 x1
theorem c_X11_seeks (n : Nat) {w : Wd} (hw : WOK w) (hN : wn w = NT) {σ : Mem} {x0 : Int32} {x1 : Int32} : ∀ r σ', f_X11_seeks n σ x0 x1 = some (r, σ') → MC w (mu_X11_seeks (1 * n)) (vB r) [.ref (adr w 306), .int x0, .int x1] σ σ' := by
  induction n generalizing σ x0 x1 with
  | zero => intro r σ' h; cases h
  | succ n ih => exact co_X11_seeks hw hN (rec := f_X11_seeks n) (d := 1 * n) ih
end
section
abbrev mu_X11_seek : MD := (yX11_seek, cX11_seek, 5, some .boolean, 38)
theorem ok_X11_seek : MOK mu_X11_seek 4 := ⟨gw_1632, gw_171, (by decide +kernel : plainFor yX11_seek = true), ⟨(by decide +kernel : yX11_seek.cls ≠ "java/lang/invoke/MethodHandle"), (by decide +kernel : yX11_seek.cls ≠ "java/lang/invoke/VarHandle"), (by decide +kernel : (parseMethodDescriptor yX11_seek.desc).map (fun d => d.parameters.length) = some 4)⟩, Nat.le_of_ble_eq_true rfl⟩
noncomputable def j_X11_seek_66 (σ9 : Mem) : Option (Bool × Mem) :=
  some (false, σ9)
noncomputable def f_X11_seek (σ : Mem) (x0 : Int32) (x1 : Int32) (x2 : Int32) (x3 : Int32) : Option (Bool × Mem) :=
  bq (f_X11_can σ x0 x1 x2) (fun (b1 : Bool) (σ2 : Mem) => if b1 then (f_X11_isIn σ2 (Int32.toInt64 x3) 1 3).bind (fun (b3 : Bool) => if b3 then (f_X11_laysRegister σ2 0 x1).bind (fun (σ4 : Mem) => (f_X11_laysRegister σ4 1 x2).bind (fun (σ5 : Mem) => (f_X11_ones σ5 2).bind (fun (σ6 : Mem) => bq (f_X11_seeks 8 σ6 0 x3) (fun (b7 : Bool) (σ8 : Mem) => (if b7 then bq (f_X11_gives σ8 x0 2) (fun (b10 : Bool) (σ11 : Mem) => if b10 then some (Sum.inr (true, σ11)) else some (Sum.inl σ11)) else some (Sum.inl σ8) : Option (Mem ⊕ (Bool × Mem))).bind (Sum.elim (fun (z9 : Mem) => j_X11_seek_66 z9) some))))) else some (false, σ2)) else some (false, σ2))
theorem t_X11_seek {w : Wd} (hw : WOK w) (hN : wn w = NT) {σ : Mem} {x0 : Int32} {x1 : Int32} {x2 : Int32} {x3 : Int32} : JO w mu_X11_seek vB σ [(0, .ref (adr w 306)), (1, .int x0), (2, .int x1), (3, .int x2), (4, .int x3)] [] 0 (f_X11_seek σ x0 x1 x2 x3) some := by
  unfold f_X11_seek
  refine jo_aload_n (pc := 0) 0 rfl dX11_seek_0 rfl ?_
  refine jo_iload_n (pc := 1) 1 rfl dX11_seek_1 rfl ?_
  refine jo_iload_n (pc := 2) 2 rfl dX11_seek_2 rfl ?_
  refine jo_iload_n (pc := 3) 3 rfl dX11_seek_3 rfl ?_
  refine jo_cV_Z_i (pc := 4) (μ' := mu_X11_can) (fx := f_X11_can σ x0 x1 x2) (As := [.int x0, .int x1, .int x2]) (c_X11_can hw hN) (ok_X11_can) (ltb rfl) (all3 gw_1466 gw_1468 gw_72) (ik_306 hw hN) (by decide) (q := (RX11, TX11, 39)) rfl rfl rfl rfl (Nat.le_of_ble_eq_true rfl) dX11_seek_4 (fun b1 σ2 => ?_)
  refine jo_ifz_eq (pc := 7) dX11_seek_7 (tgt := 24) rfl ?_ ?_
  · refine jo_iconst (pc := 24) dX11_seek_24 (ic_i_0) ?_
    exact jo_breturn (pc := 25) (b := false) rfl rfl dX11_seek_25
  · refine jo_aload_n (pc := 10) 0 rfl dX11_seek_10 rfl ?_
    refine jo_iload (pc := 11) 4 rfl dX11_seek_11 ?_
    refine jo_i2l (pc := 13) dX11_seek_13 ?_
    refine jo_lconst (pc := 14) dX11_seek_14 (ic_l_1) ?_
    refine jo_ldc2 (pc := 15) dX11_seek_15 gw_1445 ?_
    refine jo_cV_Z_p (pc := 18) (μ' := mu_X11_isIn) (fx := f_X11_isIn σ2 (Int32.toInt64 x3) 1 3) (As := [.long (Int32.toInt64 x3), .long 1, .long 3]) (c_X11_isIn hw hN) (ok_X11_isIn) (ltb rfl) (all3 gw_1420 gw_1422 gw_64) (ik_306 hw hN) (by decide) (q := (RX11, TX11, 39)) rfl rfl rfl rfl (Nat.le_of_ble_eq_true rfl) dX11_seek_18 (fun b3 => ?_)
    refine jo_ifz_ne (pc := 21) dX11_seek_21 (tgt := 26) rfl ?_ ?_
    · refine jo_aload_n (pc := 26) 0 rfl dX11_seek_26 rfl ?_
      refine jo_iconst (pc := 27) dX11_seek_27 (ic_i_0) ?_
      refine jo_iload_n (pc := 28) 2 rfl dX11_seek_28 rfl ?_
      refine jo_cV_V_i (pc := 29) (μ' := mu_X11_laysRegister) (fx := f_X11_laysRegister σ2 0 x1) (As := [.int 0, .int x1]) (c_X11_laysRegister hw hN) (ok_X11_laysRegister) (ltb rfl) (all3 gw_1559 gw_1561 gw_94) (ik_306 hw hN) (by decide) (q := (RX11, TX11, 39)) rfl rfl rfl rfl (Nat.le_of_ble_eq_true rfl) dX11_seek_29 (fun σ4 => ?_)
      refine jo_aload_n (pc := 32) 0 rfl dX11_seek_32 rfl ?_
      refine jo_iconst (pc := 33) dX11_seek_33 (ic_i_1) ?_
      refine jo_iload_n (pc := 34) 3 rfl dX11_seek_34 rfl ?_
      refine jo_cV_V_i (pc := 35) (μ' := mu_X11_laysRegister) (fx := f_X11_laysRegister σ4 1 x2) (As := [.int 1, .int x2]) (c_X11_laysRegister hw hN) (ok_X11_laysRegister) (ltb rfl) (all3 gw_1559 gw_1561 gw_94) (ik_306 hw hN) (by decide) (q := (RX11, TX11, 39)) rfl rfl rfl rfl (Nat.le_of_ble_eq_true rfl) dX11_seek_35 (fun σ5 => ?_)
      refine jo_aload_n (pc := 38) 0 rfl dX11_seek_38 rfl ?_
      refine jo_iconst (pc := 39) dX11_seek_39 (ic_i_2) ?_
      refine jo_cV_V_i (pc := 40) (μ' := mu_X11_ones) (fx := f_X11_ones σ5 2) (As := [.int 2]) (c_X11_ones hw hN) (ok_X11_ones) (ltb rfl) (all3 gw_1587 gw_1589 gw_99) (ik_306 hw hN) (by decide) (q := (RX11, TX11, 39)) rfl rfl rfl rfl (Nat.le_of_ble_eq_true rfl) dX11_seek_40 (fun σ6 => ?_)
      refine jo_aload_n (pc := 43) 0 rfl dX11_seek_43 rfl ?_
      refine jo_iconst (pc := 44) dX11_seek_44 (ic_i_0) ?_
      refine jo_iload (pc := 45) 4 rfl dX11_seek_45 ?_
      refine jo_cV_Z_i (pc := 47) (μ' := (mu_X11_seeks 8)) (fx := f_X11_seeks 8 σ6 0 x3) (As := [.int 0, .int x3]) (c_X11_seeks 8 hw hN) (ok_X11_seeks _) (ltb rfl) (all3 gw_1633 gw_1635 gw_105) (ik_306 hw hN) (by decide) (q := (RX11, TX11, 39)) rfl rfl rfl rfl (Nat.le_of_ble_eq_true rfl) dX11_seek_47 (fun b7 σ8 => ?_)
      refine jo_joinS (S := Mem) (fun (z9 : Mem) => z9) (fun (z9 : Mem) => []) (fun (z9 : Mem) => []) 66 ?_ (fun h66_9 => ?_)
      · intro σ9
        show JO w mu_X11_seek vB σ9 [] [] 66 (j_X11_seek_66 σ9) _
        unfold j_X11_seek_66
        refine jo_iconst (pc := 66) dX11_seek_66 (ic_i_0) ?_
        exact jo_breturn (pc := 67) (b := false) rfl rfl dX11_seek_67
      · refine jo_ifz_eq (pc := 50) dX11_seek_50 (tgt := 66) rfl ?_ ?_
        · refine jo_lv (lv' := []) [] rfl ?_
          exact jo_leaf (by rfl) (h66_9 σ8)
        · refine jo_aload_n (pc := 53) 0 rfl dX11_seek_53 rfl ?_
          refine jo_iload_n (pc := 54) 1 rfl dX11_seek_54 rfl ?_
          refine jo_iconst (pc := 55) dX11_seek_55 (ic_i_2) ?_
          refine jo_cV_Z_i (pc := 56) (μ' := mu_X11_gives) (fx := f_X11_gives σ8 x0 2) (As := [.int x0, .int 2]) (c_X11_gives hw hN) (ok_X11_gives) (ltb rfl) (all3 gw_1567 gw_1569 gw_96) (ik_306 hw hN) (by decide) (q := (RX11, TX11, 39)) rfl rfl rfl rfl (Nat.le_of_ble_eq_true rfl) dX11_seek_56 (fun b10 σ11 => ?_)
          refine jo_ifz_eq (pc := 59) dX11_seek_59 (tgt := 66) rfl ?_ ?_
          · refine jo_lv (lv' := []) [] rfl ?_
            exact jo_leaf (by rfl) (h66_9 σ11)
          · refine jo_iconst (pc := 62) dX11_seek_62 (ic_i_1) ?_
            refine jo_goto (pc := 63) dX11_seek_63 (tgt := 67) rfl ?_
            exact jo_breturn (pc := 67) (b := true) rfl rfl dX11_seek_67
    · refine jo_iconst (pc := 24) dX11_seek_24 (ic_i_0) ?_
      exact jo_breturn (pc := 25) (b := false) rfl rfl dX11_seek_25
theorem c_X11_seek {w : Wd} (hw : WOK w) (hN : wn w = NT) {σ : Mem} {x0 : Int32} {x1 : Int32} {x2 : Int32} {x3 : Int32} : ∀ r σ', f_X11_seek σ x0 x1 x2 x3 = some (r, σ') → MC w mu_X11_seek (vB r) [.ref (adr w 306), .int x0, .int x1, .int x2, .int x3] σ σ' := mc_of ok_X11_seek rfl (Nat.le_of_ble_eq_true rfl) (t_X11_seek hw hN)
abbrev mu_X11_types : MD := (yX11_types, cX11_types, 3, none, 0)
theorem ok_X11_types : MOK mu_X11_types 1 := ⟨gw_1652, gw_171, (by decide +kernel : plainFor yX11_types = true), ⟨(by decide +kernel : yX11_types.cls ≠ "java/lang/invoke/MethodHandle"), (by decide +kernel : yX11_types.cls ≠ "java/lang/invoke/VarHandle"), (by decide +kernel : (parseMethodDescriptor yX11_types.desc).map (fun d => d.parameters.length) = some 1)⟩, Nat.le_of_ble_eq_true rfl⟩
noncomputable def l_X11_types_3 (x0 : Int32) (σ1 : Mem) (i2 : Int32) : Option ((Mem × Int32) ⊕ Mem) :=
  if i2 < 0 then (some (Sum.inr σ1)) else (gF σ1 306 18 (fun (v3 : Int32) => pI σ1 317 v3 ((x0 >>> (i2 &&& 31)) &&& 255) (fun (σ4 : Mem) => gF σ4 306 18 (fun (v5 : Int32) => pF σ4 306 18 (v5 + 1) (fun (σ6 : Mem) => some (Sum.inl (σ6, i2 + (-8))))))))
noncomputable def f_X11_types (σ : Mem) (x0 : Int32) : Option Mem :=
  loopO (fun (z2 : (Mem × Int32)) => l_X11_types_3 x0 z2.1 z2.2) (σ, 24)
theorem t_X11_types {w : Wd} (hw : WOK w) (hN : wn w = NT) {σ : Mem} {x0 : Int32} : JO w mu_X11_types vV σ [(0, .ref (adr w 306)), (1, .int x0)] [] 0 (f_X11_types σ x0) (fun z => some ((), z)) := by
  unfold f_X11_types
  refine jo_bipush (pc := 0) dX11_types_0 (ic_b_24) ?_
  refine jo_istore_n (pc := 2) (lv' := [(2, .int 24), (0, .ref (adr w 306)), (1, .int x0)]) dX11_types_2 rfl (ltb rfl) rfl ?_
  refine jo_lv (lv' := [(0, .ref (adr w 306)), (1, .int x0), (2, .int 24)]) [1, 2, 0] rfl ?_
  refine jo_loop (X := Mem) (fun (z2 : (Mem × Int32)) => z2.1) (fun (z2 : (Mem × Int32)) => [(0, .ref (adr w 306)), (1, .int x0), (2, .int z2.2)]) (body := (fun (z2 : (Mem × Int32)) => l_X11_types_3 x0 z2.1 z2.2)) (fun F3_2 hF3_2 s => ?_) (σ, 24)
  obtain ⟨σ1, i2⟩ := s
  show JO w mu_X11_types vV σ1 [(0, .ref (adr w 306)), (1, .int x0), (2, .int i2)] [] 3 (l_X11_types_3 x0 σ1 i2) _
  unfold l_X11_types_3
  refine jo_iload_n (pc := 3) 2 rfl dX11_types_3 rfl ?_
  refine jo_if_lt (pc := 4) dX11_types_4 (tgt := 39) rfl ?_ ?_
  · exact jo_return (pc := 39) rfl rfl dX11_types_39
  · refine jo_aload_n (pc := 7) 0 rfl dX11_types_7 rfl ?_
    refine jo_getrE (pc := 8) ok_11_17 (ik_306 hw hN) rf_306_17 gw_1310 dX11_types_8 ?_
    refine jo_aload_n (pc := 11) 0 rfl dX11_types_11 rfl ?_
    refine jo_getf (pc := 12) ok_11_18 (ik_306 hw hN) gw_1311 dX11_types_12 (fun v3 => ?_)
    refine jo_iload_n (pc := 15) 1 rfl dX11_types_15 rfl ?_
    refine jo_iload_n (pc := 16) 2 rfl dX11_types_16 rfl ?_
    refine jo_ishr (pc := 17) dX11_types_17 ?_
    refine jo_sipush (pc := 18) dX11_types_18 (ic_s_255) ?_
    refine jo_iand (pc := 21) dX11_types_21 ?_
    refine jo_iast (pc := 22) (ik_317 hw hN) dX11_types_22 (fun σ4 => ?_)
    refine jo_aload_n (pc := 23) 0 rfl dX11_types_23 rfl ?_
    refine jo_aload_n (pc := 24) 0 rfl dX11_types_24 rfl ?_
    refine jo_getf (pc := 25) ok_11_18 (ik_306 hw hN) gw_1311 dX11_types_25 (fun v5 => ?_)
    refine jo_iconst (pc := 28) dX11_types_28 (ic_i_1) ?_
    refine jo_iadd (pc := 29) dX11_types_29 ?_
    refine jo_putf (pc := 30) ok_11_18 okp_11_18 (ik_306 hw hN) gw_1311 dX11_types_30 (fun σ6 => ?_)
    refine jo_iinc (pc := 33) (lv' := [(2, .int (i2 + (-8))), (0, .ref (adr w 306)), (1, .int x0)]) 2 rfl dX11_types_33 (congrArg (fun z => i2 + z) (ic_i_m8)) (ltb rfl) rfl ?_
    refine jo_goto (pc := 36) dX11_types_36 (tgt := 3) rfl ?_
    refine jo_lv (lv' := [(0, .ref (adr w 306)), (1, .int x0), (2, .int (i2 + (-8)))]) [1, 2, 0] rfl ?_
    exact jo_leaf (by rfl) (hF3_2 (σ6, i2 + (-8)))
theorem c_X11_types {w : Wd} (hw : WOK w) (hN : wn w = NT) {σ : Mem} {x0 : Int32} : ∀ σ', f_X11_types σ x0 = some σ' → MC w mu_X11_types none [.ref (adr w 306), .int x0] σ σ' := mc_ofV ok_X11_types rfl (Nat.le_of_ble_eq_true rfl) (t_X11_types hw hN)
abbrev mu_X11_feed : MD := (yX11_feed, cX11_feed, 6, some .int, 1)
theorem ok_X11_feed : MOK mu_X11_feed 5 := ⟨gw_1648, gw_171, (by decide +kernel : plainFor yX11_feed = true), ⟨(by decide +kernel : yX11_feed.cls ≠ "java/lang/invoke/MethodHandle"), (by decide +kernel : yX11_feed.cls ≠ "java/lang/invoke/VarHandle"), (by decide +kernel : (parseMethodDescriptor yX11_feed.desc).map (fun d => d.parameters.length) = some 5)⟩, Nat.le_of_ble_eq_true rfl⟩
noncomputable def f_X11_feed (σ : Mem) (x0 : Int32) (x1 : Int32) (x2 : Int32) (x3 : Int32) (x4 : Int32) : Option (Int32 × Mem) :=
  pF σ 306 0 0 (fun (σ1 : Mem) => gF σ1 306 18 (fun (v2 : Int32) => if v2 ≤ 180 then ((f_X11_types σ1 x0).bind (fun (σ3 : Mem) => (f_X11_types σ3 x1).bind (fun (σ4 : Mem) => (f_X11_types σ4 x2).bind (fun (σ5 : Mem) => (f_X11_types σ5 x3).bind (fun (σ6 : Mem) => (f_X11_types σ6 x4).bind (fun (σ7 : Mem) => gF σ7 306 18 (fun (v8 : Int32) => some (v8, σ7)))))))) else (some ((-1), σ1))))
theorem t_X11_feed {w : Wd} (hw : WOK w) (hN : wn w = NT) {σ : Mem} {x0 : Int32} {x1 : Int32} {x2 : Int32} {x3 : Int32} {x4 : Int32} : JO w mu_X11_feed vI σ [(0, .ref (adr w 306)), (1, .int x0), (2, .int x1), (3, .int x2), (4, .int x3), (5, .int x4)] [] 0 (f_X11_feed σ x0 x1 x2 x3 x4) some := by
  unfold f_X11_feed
  refine jo_aload_n (pc := 0) 0 rfl dX11_feed_0 rfl ?_
  refine jo_iconst (pc := 1) dX11_feed_1 (ic_i_0) ?_
  refine jo_putf (pc := 2) ok_11_0 okp_11_0 (ik_306 hw hN) gw_1293 dX11_feed_2 (fun σ1 => ?_)
  refine jo_aload_n (pc := 5) 0 rfl dX11_feed_5 rfl ?_
  refine jo_getf (pc := 6) ok_11_18 (ik_306 hw hN) gw_1311 dX11_feed_6 (fun v2 => ?_)
  refine jo_sipush (pc := 9) dX11_feed_9 (ic_s_180) ?_
  refine jo_icmp_le (pc := 12) dX11_feed_12 (tgt := 17) rfl ?_ ?_
  · refine jo_aload_n (pc := 17) 0 rfl dX11_feed_17 rfl ?_
    refine jo_iload_n (pc := 18) 1 rfl dX11_feed_18 rfl ?_
    refine jo_cV_V_i (pc := 19) (μ' := mu_X11_types) (fx := f_X11_types σ1 x0) (As := [.int x0]) (c_X11_types hw hN) (ok_X11_types) (ltb rfl) (all3 gw_1649 gw_1651 gw_108) (ik_306 hw hN) (by decide) (q := (RX11, TX11, 39)) rfl rfl rfl rfl (Nat.le_of_ble_eq_true rfl) dX11_feed_19 (fun σ3 => ?_)
    refine jo_aload_n (pc := 22) 0 rfl dX11_feed_22 rfl ?_
    refine jo_iload_n (pc := 23) 2 rfl dX11_feed_23 rfl ?_
    refine jo_cV_V_i (pc := 24) (μ' := mu_X11_types) (fx := f_X11_types σ3 x1) (As := [.int x1]) (c_X11_types hw hN) (ok_X11_types) (ltb rfl) (all3 gw_1649 gw_1651 gw_108) (ik_306 hw hN) (by decide) (q := (RX11, TX11, 39)) rfl rfl rfl rfl (Nat.le_of_ble_eq_true rfl) dX11_feed_24 (fun σ4 => ?_)
    refine jo_aload_n (pc := 27) 0 rfl dX11_feed_27 rfl ?_
    refine jo_iload_n (pc := 28) 3 rfl dX11_feed_28 rfl ?_
    refine jo_cV_V_i (pc := 29) (μ' := mu_X11_types) (fx := f_X11_types σ4 x2) (As := [.int x2]) (c_X11_types hw hN) (ok_X11_types) (ltb rfl) (all3 gw_1649 gw_1651 gw_108) (ik_306 hw hN) (by decide) (q := (RX11, TX11, 39)) rfl rfl rfl rfl (Nat.le_of_ble_eq_true rfl) dX11_feed_29 (fun σ5 => ?_)
    refine jo_aload_n (pc := 32) 0 rfl dX11_feed_32 rfl ?_
    refine jo_iload (pc := 33) 4 rfl dX11_feed_33 ?_
    refine jo_cV_V_i (pc := 35) (μ' := mu_X11_types) (fx := f_X11_types σ5 x3) (As := [.int x3]) (c_X11_types hw hN) (ok_X11_types) (ltb rfl) (all3 gw_1649 gw_1651 gw_108) (ik_306 hw hN) (by decide) (q := (RX11, TX11, 39)) rfl rfl rfl rfl (Nat.le_of_ble_eq_true rfl) dX11_feed_35 (fun σ6 => ?_)
    refine jo_aload_n (pc := 38) 0 rfl dX11_feed_38 rfl ?_
    refine jo_iload (pc := 39) 5 rfl dX11_feed_39 ?_
    refine jo_cV_V_i (pc := 41) (μ' := mu_X11_types) (fx := f_X11_types σ6 x4) (As := [.int x4]) (c_X11_types hw hN) (ok_X11_types) (ltb rfl) (all3 gw_1649 gw_1651 gw_108) (ik_306 hw hN) (by decide) (q := (RX11, TX11, 39)) rfl rfl rfl rfl (Nat.le_of_ble_eq_true rfl) dX11_feed_41 (fun σ7 => ?_)
    refine jo_aload_n (pc := 44) 0 rfl dX11_feed_44 rfl ?_
    refine jo_getf (pc := 45) ok_11_18 (ik_306 hw hN) gw_1311 dX11_feed_45 (fun v8 => ?_)
    exact jo_ireturn (pc := 48) rfl rfl dX11_feed_48
  · refine jo_iconst (pc := 15) dX11_feed_15 (ic_i_m1) ?_
    exact jo_ireturn (pc := 16) rfl rfl dX11_feed_16
theorem c_X11_feed {w : Wd} (hw : WOK w) (hN : wn w = NT) {σ : Mem} {x0 : Int32} {x1 : Int32} {x2 : Int32} {x3 : Int32} {x4 : Int32} : ∀ r σ', f_X11_feed σ x0 x1 x2 x3 x4 = some (r, σ') → MC w mu_X11_feed (vI r) [.ref (adr w 306), .int x0, .int x1, .int x2, .int x3, .int x4] σ σ' := mc_of ok_X11_feed rfl (Nat.le_of_ble_eq_true rfl) (t_X11_feed hw hN)
abbrev mu_X11_end : MD := (yX11_end, cX11_end, 2, some .boolean, 1)
theorem ok_X11_end : MOK mu_X11_end 1 := ⟨gw_1656, gw_171, (by decide +kernel : plainFor yX11_end = true), ⟨(by decide +kernel : yX11_end.cls ≠ "java/lang/invoke/MethodHandle"), (by decide +kernel : yX11_end.cls ≠ "java/lang/invoke/VarHandle"), (by decide +kernel : (parseMethodDescriptor yX11_end.desc).map (fun d => d.parameters.length) = some 1)⟩, Nat.le_of_ble_eq_true rfl⟩
noncomputable def f_X11_end (σ : Mem) (x0 : Int32) : Option (Bool × Mem) :=
  pF σ 306 0 0 (fun (σ1 : Mem) => gF σ1 306 18 (fun (v2 : Int32) => (f_X11_isIn σ1 (Int32.toInt64 x0) 0 (Int32.toInt64 v2)).bind (fun (b3 : Bool) => if b3 then pF σ1 306 18 x0 (fun (σ4 : Mem) => some (true, σ4)) else some (false, σ1))))
theorem t_X11_end {w : Wd} (hw : WOK w) (hN : wn w = NT) {σ : Mem} {x0 : Int32} : JO w mu_X11_end vB σ [(0, .ref (adr w 306)), (1, .int x0)] [] 0 (f_X11_end σ x0) some := by
  unfold f_X11_end
  refine jo_aload_n (pc := 0) 0 rfl dX11_end_0 rfl ?_
  refine jo_iconst (pc := 1) dX11_end_1 (ic_i_0) ?_
  refine jo_putf (pc := 2) ok_11_0 okp_11_0 (ik_306 hw hN) gw_1293 dX11_end_2 (fun σ1 => ?_)
  refine jo_aload_n (pc := 5) 0 rfl dX11_end_5 rfl ?_
  refine jo_iload_n (pc := 6) 1 rfl dX11_end_6 rfl ?_
  refine jo_i2l (pc := 7) dX11_end_7 ?_
  refine jo_lconst (pc := 8) dX11_end_8 (ic_l_0) ?_
  refine jo_aload_n (pc := 9) 0 rfl dX11_end_9 rfl ?_
  refine jo_getf (pc := 10) ok_11_18 (ik_306 hw hN) gw_1311 dX11_end_10 (fun v2 => ?_)
  refine jo_i2l (pc := 13) dX11_end_13 ?_
  refine jo_cV_Z_p (pc := 14) (μ' := mu_X11_isIn) (fx := f_X11_isIn σ1 (Int32.toInt64 x0) 0 (Int32.toInt64 v2)) (As := [.long (Int32.toInt64 x0), .long 0, .long (Int32.toInt64 v2)]) (c_X11_isIn hw hN) (ok_X11_isIn) (ltb rfl) (all3 gw_1420 gw_1422 gw_64) (ik_306 hw hN) (by decide) (q := (RX11, TX11, 39)) rfl rfl rfl rfl (Nat.le_of_ble_eq_true rfl) dX11_end_14 (fun b3 => ?_)
  refine jo_ifz_ne (pc := 17) dX11_end_17 (tgt := 22) rfl ?_ ?_
  · refine jo_aload_n (pc := 22) 0 rfl dX11_end_22 rfl ?_
    refine jo_iload_n (pc := 23) 1 rfl dX11_end_23 rfl ?_
    refine jo_putf (pc := 24) ok_11_18 okp_11_18 (ik_306 hw hN) gw_1311 dX11_end_24 (fun σ4 => ?_)
    refine jo_iconst (pc := 27) dX11_end_27 (ic_i_1) ?_
    exact jo_breturn (pc := 28) (b := true) rfl rfl dX11_end_28
  · refine jo_iconst (pc := 20) dX11_end_20 (ic_i_0) ?_
    exact jo_breturn (pc := 21) (b := false) rfl rfl dX11_end_21
theorem c_X11_end {w : Wd} (hw : WOK w) (hN : wn w = NT) {σ : Mem} {x0 : Int32} : ∀ r σ', f_X11_end σ x0 = some (r, σ') → MC w mu_X11_end (vB r) [.ref (adr w 306), .int x0] σ σ' := mc_of ok_X11_end rfl (Nat.le_of_ble_eq_true rfl) (t_X11_end hw hN)
abbrev mu_X11_here : MD := (yX11_here, cX11_here, 1, some .int, 0)
theorem ok_X11_here : MOK mu_X11_here 0 := ⟨gw_1676, gw_171, (by decide +kernel : plainFor yX11_here = true), ⟨(by decide +kernel : yX11_here.cls ≠ "java/lang/invoke/MethodHandle"), (by decide +kernel : yX11_here.cls ≠ "java/lang/invoke/VarHandle"), (by decide +kernel : (parseMethodDescriptor yX11_here.desc).map (fun d => d.parameters.length) = some 0)⟩, Nat.le_of_ble_eq_true rfl⟩
noncomputable def f_X11_here (σ : Mem) : Option Int32 :=
  gF σ 306 21 (fun (v1 : Int32) => gF σ 306 22 (fun (v2 : Int32) => if v2 ≤ v1 then (some (-1)) else (gF σ 306 21 (fun (v3 : Int32) => gI σ 317 v3 (fun (v4 : Int32) => some v4)))))
theorem t_X11_here {w : Wd} (hw : WOK w) (hN : wn w = NT) {σ : Mem} : JO w mu_X11_here vI σ [(0, .ref (adr w 306))] [] 0 (f_X11_here σ) (fun z => some (z, σ)) := by
  unfold f_X11_here
  refine jo_aload_n (pc := 0) 0 rfl dX11_here_0 rfl ?_
  refine jo_getf (pc := 1) ok_11_21 (ik_306 hw hN) gw_1314 dX11_here_1 (fun v1 => ?_)
  refine jo_aload_n (pc := 4) 0 rfl dX11_here_4 rfl ?_
  refine jo_getf (pc := 5) ok_11_22 (ik_306 hw hN) gw_1315 dX11_here_5 (fun v2 => ?_)
  refine jo_icmp_ge (pc := 8) dX11_here_8 (tgt := 23) rfl ?_ ?_
  · refine jo_iconst (pc := 23) dX11_here_23 (ic_i_m1) ?_
    exact jo_ireturn (pc := 24) rfl rfl dX11_here_24
  · refine jo_aload_n (pc := 11) 0 rfl dX11_here_11 rfl ?_
    refine jo_getrE (pc := 12) ok_11_17 (ik_306 hw hN) rf_306_17 gw_1310 dX11_here_12 ?_
    refine jo_aload_n (pc := 15) 0 rfl dX11_here_15 rfl ?_
    refine jo_getf (pc := 16) ok_11_21 (ik_306 hw hN) gw_1314 dX11_here_16 (fun v3 => ?_)
    refine jo_iald (pc := 19) (ik_317 hw hN) dX11_here_19 (fun v4 => ?_)
    refine jo_goto (pc := 20) dX11_here_20 (tgt := 24) rfl ?_
    exact jo_ireturn (pc := 24) rfl rfl dX11_here_24
theorem c_X11_here {w : Wd} (hw : WOK w) (hN : wn w = NT) {σ : Mem} : ∀ r, f_X11_here σ = some r → MC w mu_X11_here (vI r) [.ref (adr w 306)] σ σ := mc_ofP ok_X11_here rfl (Nat.le_of_ble_eq_true rfl) (t_X11_here hw hN)
abbrev mu_X11_behindBlanks : MD := (yX11_behindBlanks, cX11_behindBlanks, 1, some .int, 1)
theorem ok_X11_behindBlanks : MOK mu_X11_behindBlanks 0 := ⟨gw_1672, gw_171, (by decide +kernel : plainFor yX11_behindBlanks = true), ⟨(by decide +kernel : yX11_behindBlanks.cls ≠ "java/lang/invoke/MethodHandle"), (by decide +kernel : yX11_behindBlanks.cls ≠ "java/lang/invoke/VarHandle"), (by decide +kernel : (parseMethodDescriptor yX11_behindBlanks.desc).map (fun d => d.parameters.length) = some 0)⟩, Nat.le_of_ble_eq_true rfl⟩
noncomputable def j_X11_behindBlanks_22 (σ1 : Mem) : Option (Int32 × Mem) :=
  (f_X11_here σ1).bind (fun (v2 : Int32) => some (v2, σ1))
noncomputable def l_X11_behindBlanks_0 (σ3 : Mem) : Option (Mem ⊕ Mem) :=
  (f_X11_here σ3).bind (fun (v4 : Int32) => if v4 = 32 then (gF σ3 306 21 (fun (v5 : Int32) => pF σ3 306 21 (v5 + 1) (fun (σ6 : Mem) => some (Sum.inl σ6)))) else (some (Sum.inr σ3)))
noncomputable def f_X11_behindBlanks (σ : Mem) : Option (Int32 × Mem) :=
  (loopO (fun (z3 : Mem) => l_X11_behindBlanks_0 z3) σ : Option Mem).bind (fun (z1 : Mem) => j_X11_behindBlanks_22 z1)
theorem t_X11_behindBlanks {w : Wd} (hw : WOK w) (hN : wn w = NT) {σ : Mem} : JO w mu_X11_behindBlanks vI σ [(0, .ref (adr w 306))] [] 0 (f_X11_behindBlanks σ) some := by
  unfold f_X11_behindBlanks
  refine jo_join1 (S := Mem) (fun (z1 : Mem) => z1) (fun (z1 : Mem) => [(0, .ref (adr w 306))]) (fun (z1 : Mem) => []) 22 ?_ (fun h22_1 => ?_)
  · intro σ1
    show JO w mu_X11_behindBlanks vI σ1 [(0, .ref (adr w 306))] [] 22 (j_X11_behindBlanks_22 σ1) _
    unfold j_X11_behindBlanks_22
    refine jo_aload_n (pc := 22) 0 rfl dX11_behindBlanks_22 rfl ?_
    refine jo_cV_I_p (pc := 23) (μ' := mu_X11_here) (fx := f_X11_here σ1) (As := []) (c_X11_here hw hN) (ok_X11_here) (ltb rfl) (all3 gw_1673 gw_1675 gw_112) (ik_306 hw hN) (by decide) (q := (RX11, TX11, 39)) rfl rfl rfl rfl (Nat.le_of_ble_eq_true rfl) dX11_behindBlanks_23 (fun v2 => ?_)
    exact jo_ireturn (pc := 26) rfl rfl dX11_behindBlanks_26
  · refine jo_loop (X := Mem) (fun (z3 : Mem) => z3) (fun (z3 : Mem) => [(0, .ref (adr w 306))]) (body := (fun (z3 : Mem) => l_X11_behindBlanks_0 z3)) (fun F0_3 hF0_3 s => ?_) σ
    revert s; intro σ3
    show JO w mu_X11_behindBlanks vI σ3 [(0, .ref (adr w 306))] [] 0 (l_X11_behindBlanks_0 σ3) _
    unfold l_X11_behindBlanks_0
    refine jo_aload_n (pc := 0) 0 rfl dX11_behindBlanks_0 rfl ?_
    refine jo_cV_I_p (pc := 1) (μ' := mu_X11_here) (fx := f_X11_here σ3) (As := []) (c_X11_here hw hN) (ok_X11_here) (ltb rfl) (all3 gw_1673 gw_1675 gw_112) (ik_306 hw hN) (by decide) (q := (RX11, TX11, 39)) rfl rfl rfl rfl (Nat.le_of_ble_eq_true rfl) dX11_behindBlanks_1 (fun v4 => ?_)
    refine jo_bipush (pc := 4) dX11_behindBlanks_4 (ic_b_32) ?_
    refine jo_icmp_ne (pc := 6) dX11_behindBlanks_6 (tgt := 22) rfl ?_ ?_
    · exact jo_leaf (by rfl) (h22_1 σ3)
    · refine jo_aload_n (pc := 9) 0 rfl dX11_behindBlanks_9 rfl ?_
      refine jo_aload_n (pc := 10) 0 rfl dX11_behindBlanks_10 rfl ?_
      refine jo_getf (pc := 11) ok_11_21 (ik_306 hw hN) gw_1314 dX11_behindBlanks_11 (fun v5 => ?_)
      refine jo_iconst (pc := 14) dX11_behindBlanks_14 (ic_i_1) ?_
      refine jo_iadd (pc := 15) dX11_behindBlanks_15 ?_
      refine jo_putf (pc := 16) ok_11_21 okp_11_21 (ik_306 hw hN) gw_1314 dX11_behindBlanks_16 (fun σ6 => ?_)
      refine jo_goto (pc := 19) dX11_behindBlanks_19 (tgt := 0) rfl ?_
      exact jo_leaf (by rfl) (hF0_3 σ6)
theorem c_X11_behindBlanks {w : Wd} (hw : WOK w) (hN : wn w = NT) {σ : Mem} : ∀ r σ', f_X11_behindBlanks σ = some (r, σ') → MC w mu_X11_behindBlanks (vI r) [.ref (adr w 306)] σ σ' := mc_of ok_X11_behindBlanks rfl (Nat.le_of_ble_eq_true rfl) (t_X11_behindBlanks hw hN)
abbrev mu_X11_isDigit : MD := (yX11_isDigit, cX11_isDigit, 2, some .boolean, 0)
theorem ok_X11_isDigit : MOK mu_X11_isDigit 1 := ⟨gw_1692, gw_171, (by decide +kernel : plainFor yX11_isDigit = true), ⟨(by decide +kernel : yX11_isDigit.cls ≠ "java/lang/invoke/MethodHandle"), (by decide +kernel : yX11_isDigit.cls ≠ "java/lang/invoke/VarHandle"), (by decide +kernel : (parseMethodDescriptor yX11_isDigit.desc).map (fun d => d.parameters.length) = some 1)⟩, Nat.le_of_ble_eq_true rfl⟩
noncomputable def j_X11_isDigit_16  : Option Bool :=
  some false
noncomputable def f_X11_isDigit (σ : Mem) (x0 : Int32) : Option Bool :=
  (if x0 < 48 then (some (Sum.inl ())) else (if 57 < x0 then (some (Sum.inl ())) else (some (Sum.inr true))) : Option (Unit ⊕ Bool)).bind (Sum.elim (fun (z0 : Unit) => j_X11_isDigit_16) some)
theorem t_X11_isDigit {w : Wd} (hw : WOK w) (hN : wn w = NT) {σ : Mem} {x0 : Int32} : JO w mu_X11_isDigit vB σ [(0, .ref (adr w 306)), (1, .int x0)] [] 0 (f_X11_isDigit σ x0) (fun z => some (z, σ)) := by
  unfold f_X11_isDigit
  refine jo_iload_n (pc := 0) 1 rfl dX11_isDigit_0 rfl ?_
  refine jo_bipush (pc := 1) dX11_isDigit_1 (ic_b_48) ?_
  refine jo_joinS (S := Unit) (fun (z0 : Unit) => σ) (fun (z0 : Unit) => []) (fun (z0 : Unit) => []) 16 ?_ (fun h16_0 => ?_)
  · intro _
    show JO w mu_X11_isDigit vB σ [] [] 16 (j_X11_isDigit_16) _
    unfold j_X11_isDigit_16
    refine jo_iconst (pc := 16) dX11_isDigit_16 (ic_i_0) ?_
    exact jo_breturn (pc := 17) (b := false) rfl rfl dX11_isDigit_17
  · refine jo_icmp_lt (pc := 3) dX11_isDigit_3 (tgt := 16) rfl ?_ ?_
    · refine jo_lv (lv' := []) [] rfl ?_
      exact jo_leaf (by rfl) (h16_0 ())
    · refine jo_iload_n (pc := 6) 1 rfl dX11_isDigit_6 rfl ?_
      refine jo_bipush (pc := 7) dX11_isDigit_7 (ic_b_57) ?_
      refine jo_icmp_gt (pc := 9) dX11_isDigit_9 (tgt := 16) rfl ?_ ?_
      · refine jo_lv (lv' := []) [] rfl ?_
        exact jo_leaf (by rfl) (h16_0 ())
      · refine jo_iconst (pc := 12) dX11_isDigit_12 (ic_i_1) ?_
        refine jo_goto (pc := 13) dX11_isDigit_13 (tgt := 17) rfl ?_
        exact jo_breturn (pc := 17) (b := true) rfl rfl dX11_isDigit_17
theorem c_X11_isDigit {w : Wd} (hw : WOK w) (hN : wn w = NT) {σ : Mem} {x0 : Int32} : ∀ r, f_X11_isDigit σ x0 = some r → MC w mu_X11_isDigit (vB r) [.ref (adr w 306), .int x0] σ σ := mc_ofP ok_X11_isDigit rfl (Nat.le_of_ble_eq_true rfl) (t_X11_isDigit hw hN)
abbrev mu_X11_isWrong : MD := (yX11_isWrong, cX11_isWrong, 1, some .boolean, 0)
theorem ok_X11_isWrong : MOK mu_X11_isWrong 0 := ⟨gw_1668, gw_171, (by decide +kernel : plainFor yX11_isWrong = true), ⟨(by decide +kernel : yX11_isWrong.cls ≠ "java/lang/invoke/MethodHandle"), (by decide +kernel : yX11_isWrong.cls ≠ "java/lang/invoke/VarHandle"), (by decide +kernel : (parseMethodDescriptor yX11_isWrong.desc).map (fun d => d.parameters.length) = some 0)⟩, Nat.le_of_ble_eq_true rfl⟩
noncomputable def f_X11_isWrong (σ : Mem) : Option Bool :=
  gF σ 306 20 (fun (v1 : Int32) => if v1 = (-1) then (some false) else (some true))
theorem t_X11_isWrong {w : Wd} (hw : WOK w) (hN : wn w = NT) {σ : Mem} : JO w mu_X11_isWrong vB σ [(0, .ref (adr w 306))] [] 0 (f_X11_isWrong σ) (fun z => some (z, σ)) := by
  unfold f_X11_isWrong
  refine jo_aload_n (pc := 0) 0 rfl dX11_isWrong_0 rfl ?_
  refine jo_getf (pc := 1) ok_11_20 (ik_306 hw hN) gw_1313 dX11_isWrong_1 (fun v1 => ?_)
  refine jo_iconst (pc := 4) dX11_isWrong_4 (ic_i_m1) ?_
  refine jo_icmp_eq (pc := 5) dX11_isWrong_5 (tgt := 12) rfl ?_ ?_
  · refine jo_iconst (pc := 12) dX11_isWrong_12 (ic_i_0) ?_
    exact jo_breturn (pc := 13) (b := false) rfl rfl dX11_isWrong_13
  · refine jo_iconst (pc := 8) dX11_isWrong_8 (ic_i_1) ?_
    refine jo_goto (pc := 9) dX11_isWrong_9 (tgt := 13) rfl ?_
    exact jo_breturn (pc := 13) (b := true) rfl rfl dX11_isWrong_13
theorem c_X11_isWrong {w : Wd} (hw : WOK w) (hN : wn w = NT) {σ : Mem} : ∀ r, f_X11_isWrong σ = some r → MC w mu_X11_isWrong (vB r) [.ref (adr w 306)] σ σ := mc_ofP ok_X11_isWrong rfl (Nat.le_of_ble_eq_true rfl) (t_X11_isWrong hw hN)
abbrev mu_X11_errs : MD := (yX11_errs, cX11_errs, 3, none, 1)
theorem ok_X11_errs : MOK mu_X11_errs 2 := ⟨gw_1688, gw_171, (by decide +kernel : plainFor yX11_errs = true), ⟨(by decide +kernel : yX11_errs.cls ≠ "java/lang/invoke/MethodHandle"), (by decide +kernel : yX11_errs.cls ≠ "java/lang/invoke/VarHandle"), (by decide +kernel : (parseMethodDescriptor yX11_errs.desc).map (fun d => d.parameters.length) = some 2)⟩, Nat.le_of_ble_eq_true rfl⟩
noncomputable def f_X11_errs (σ : Mem) (x0 : Int32) (x1 : Int32) : Option Mem :=
  (f_X11_isWrong σ).bind (fun (b1 : Bool) => if b1 then some σ else pF σ 306 19 x0 (fun (σ2 : Mem) => pF σ2 306 20 x1 (fun (σ3 : Mem) => some σ3)))
theorem t_X11_errs {w : Wd} (hw : WOK w) (hN : wn w = NT) {σ : Mem} {x0 : Int32} {x1 : Int32} : JO w mu_X11_errs vV σ [(0, .ref (adr w 306)), (1, .int x0), (2, .int x1)] [] 0 (f_X11_errs σ x0 x1) (fun z => some ((), z)) := by
  unfold f_X11_errs
  refine jo_aload_n (pc := 0) 0 rfl dX11_errs_0 rfl ?_
  refine jo_cV_Z_p (pc := 1) (μ' := mu_X11_isWrong) (fx := f_X11_isWrong σ) (As := []) (c_X11_isWrong hw hN) (ok_X11_isWrong) (ltb rfl) (all3 gw_1665 gw_1667 gw_110) (ik_306 hw hN) (by decide) (q := (RX11, TX11, 39)) rfl rfl rfl rfl (Nat.le_of_ble_eq_true rfl) dX11_errs_1 (fun b1 => ?_)
  refine jo_ifz_eq (pc := 4) dX11_errs_4 (tgt := 8) rfl ?_ ?_
  · refine jo_aload_n (pc := 8) 0 rfl dX11_errs_8 rfl ?_
    refine jo_iload_n (pc := 9) 1 rfl dX11_errs_9 rfl ?_
    refine jo_putf (pc := 10) ok_11_19 okp_11_19 (ik_306 hw hN) gw_1312 dX11_errs_10 (fun σ2 => ?_)
    refine jo_aload_n (pc := 13) 0 rfl dX11_errs_13 rfl ?_
    refine jo_iload_n (pc := 14) 2 rfl dX11_errs_14 rfl ?_
    refine jo_putf (pc := 15) ok_11_20 okp_11_20 (ik_306 hw hN) gw_1313 dX11_errs_15 (fun σ3 => ?_)
    exact jo_return (pc := 18) rfl rfl dX11_errs_18
  · exact jo_return (pc := 7) rfl rfl dX11_errs_7
theorem c_X11_errs {w : Wd} (hw : WOK w) (hN : wn w = NT) {σ : Mem} {x0 : Int32} {x1 : Int32} : ∀ σ', f_X11_errs σ x0 x1 = some σ' → MC w mu_X11_errs none [.ref (adr w 306), .int x0, .int x1] σ σ' := mc_ofV ok_X11_errs rfl (Nat.le_of_ble_eq_true rfl) (t_X11_errs hw hN)
abbrev mu_X11_checks : MD := (yX11_checks, cX11_checks, 2, none, 2)
theorem ok_X11_checks : MOK mu_X11_checks 1 := ⟨gw_1708, gw_171, (by decide +kernel : plainFor yX11_checks = true), ⟨(by decide +kernel : yX11_checks.cls ≠ "java/lang/invoke/MethodHandle"), (by decide +kernel : yX11_checks.cls ≠ "java/lang/invoke/VarHandle"), (by decide +kernel : (parseMethodDescriptor yX11_checks.desc).map (fun d => d.parameters.length) = some 1)⟩, Nat.le_of_ble_eq_true rfl⟩
noncomputable def f_X11_checks (σ : Mem) (x0 : Int32) : Option Mem :=
  gF σ 306 24 (fun (v1 : Int32) => if v1 = (-1) then ((f_X11_isElement σ x0).bind (fun (b2 : Bool) => if b2 then some σ else gF σ 306 23 (fun (v3 : Int32) => pF σ 306 24 v3 (fun (σ4 : Mem) => (f_X11_ones σ4 x0).bind (fun (σ5 : Mem) => some σ5))))) else ((f_X11_ones σ x0).bind (fun (σ6 : Mem) => some σ6)))
theorem t_X11_checks {w : Wd} (hw : WOK w) (hN : wn w = NT) {σ : Mem} {x0 : Int32} : JO w mu_X11_checks vV σ [(0, .ref (adr w 306)), (1, .int x0)] [] 0 (f_X11_checks σ x0) (fun z => some ((), z)) := by
  unfold f_X11_checks
  refine jo_aload_n (pc := 0) 0 rfl dX11_checks_0 rfl ?_
  refine jo_getf (pc := 1) ok_11_24 (ik_306 hw hN) gw_1317 dX11_checks_1 (fun v1 => ?_)
  refine jo_iconst (pc := 4) dX11_checks_4 (ic_i_m1) ?_
  refine jo_icmp_eq (pc := 5) dX11_checks_5 (tgt := 14) rfl ?_ ?_
  · refine jo_aload_n (pc := 14) 0 rfl dX11_checks_14 rfl ?_
    refine jo_iload_n (pc := 15) 1 rfl dX11_checks_15 rfl ?_
    refine jo_cV_Z_p (pc := 16) (μ' := mu_X11_isElement) (fx := f_X11_isElement σ x0) (As := [.int x0]) (c_X11_isElement hw hN) (ok_X11_isElement) (ltb rfl) (all3 gw_1571 gw_1573 gw_97) (ik_306 hw hN) (by decide) (q := (RX11, TX11, 39)) rfl rfl rfl rfl (Nat.le_of_ble_eq_true rfl) dX11_checks_16 (fun b2 => ?_)
    refine jo_ifz_eq (pc := 19) dX11_checks_19 (tgt := 23) rfl ?_ ?_
    · refine jo_aload_n (pc := 23) 0 rfl dX11_checks_23 rfl ?_
      refine jo_aload_n (pc := 24) 0 rfl dX11_checks_24 rfl ?_
      refine jo_getf (pc := 25) ok_11_23 (ik_306 hw hN) gw_1316 dX11_checks_25 (fun v3 => ?_)
      refine jo_putf (pc := 28) ok_11_24 okp_11_24 (ik_306 hw hN) gw_1317 dX11_checks_28 (fun σ4 => ?_)
      refine jo_aload_n (pc := 31) 0 rfl dX11_checks_31 rfl ?_
      refine jo_iload_n (pc := 32) 1 rfl dX11_checks_32 rfl ?_
      refine jo_cV_V_i (pc := 33) (μ' := mu_X11_ones) (fx := f_X11_ones σ4 x0) (As := [.int x0]) (c_X11_ones hw hN) (ok_X11_ones) (ltb rfl) (all3 gw_1587 gw_1589 gw_99) (ik_306 hw hN) (by decide) (q := (RX11, TX11, 39)) rfl rfl rfl rfl (Nat.le_of_ble_eq_true rfl) dX11_checks_33 (fun σ5 => ?_)
      exact jo_return (pc := 36) rfl rfl dX11_checks_36
    · exact jo_return (pc := 22) rfl rfl dX11_checks_22
  · refine jo_aload_n (pc := 8) 0 rfl dX11_checks_8 rfl ?_
    refine jo_iload_n (pc := 9) 1 rfl dX11_checks_9 rfl ?_
    refine jo_cV_V_i (pc := 10) (μ' := mu_X11_ones) (fx := f_X11_ones σ x0) (As := [.int x0]) (c_X11_ones hw hN) (ok_X11_ones) (ltb rfl) (all3 gw_1587 gw_1589 gw_99) (ik_306 hw hN) (by decide) (q := (RX11, TX11, 39)) rfl rfl rfl rfl (Nat.le_of_ble_eq_true rfl) dX11_checks_10 (fun σ6 => ?_)
    exact jo_return (pc := 13) rfl rfl dX11_checks_13
theorem c_X11_checks {w : Wd} (hw : WOK w) (hN : wn w = NT) {σ : Mem} {x0 : Int32} : ∀ σ', f_X11_checks σ x0 = some σ' → MC w mu_X11_checks none [.ref (adr w 306), .int x0] σ σ' := mc_ofV ok_X11_checks rfl (Nat.le_of_ble_eq_true rfl) (t_X11_checks hw hN)
abbrev mu_X11_isFactor : MD := (yX11_isFactor, cX11_isFactor, 2, some .boolean, 0)
theorem ok_X11_isFactor : MOK mu_X11_isFactor 1 := ⟨gw_1680, gw_171, (by decide +kernel : plainFor yX11_isFactor = true), ⟨(by decide +kernel : yX11_isFactor.cls ≠ "java/lang/invoke/MethodHandle"), (by decide +kernel : yX11_isFactor.cls ≠ "java/lang/invoke/VarHandle"), (by decide +kernel : (parseMethodDescriptor yX11_isFactor.desc).map (fun d => d.parameters.length) = some 1)⟩, Nat.le_of_ble_eq_true rfl⟩
noncomputable def j_X11_isFactor_30  : Option Bool :=
  some true
noncomputable def j_X11_isFactor_12 (x0 : Int32) : Option (Unit ⊕ Bool) :=
  if x0 = 82 then (some (Sum.inl ())) else (if x0 = 40 then (some (Sum.inl ())) else (if x0 = 91 then (some (Sum.inl ())) else (some (Sum.inr false))))
noncomputable def f_X11_isFactor (σ : Mem) (x0 : Int32) : Option Bool :=
  ((if x0 < 97 then (some (Sum.inl ())) else (if x0 ≤ 102 then (some (Sum.inr (Sum.inl ()))) else (some (Sum.inl ()))) : Option (Unit ⊕ (Unit ⊕ Bool))).bind (Sum.elim (fun (z0 : Unit) => j_X11_isFactor_12 x0) some) : Option (Unit ⊕ Bool)).bind (Sum.elim (fun (z0 : Unit) => j_X11_isFactor_30) some)
theorem t_X11_isFactor {w : Wd} (hw : WOK w) (hN : wn w = NT) {σ : Mem} {x0 : Int32} : JO w mu_X11_isFactor vB σ [(0, .ref (adr w 306)), (1, .int x0)] [] 0 (f_X11_isFactor σ x0) (fun z => some (z, σ)) := by
  unfold f_X11_isFactor
  refine jo_iload_n (pc := 0) 1 rfl dX11_isFactor_0 rfl ?_
  refine jo_bipush (pc := 1) dX11_isFactor_1 (ic_b_97) ?_
  refine jo_joinS (S := Unit) (fun (z0 : Unit) => σ) (fun (z0 : Unit) => []) (fun (z0 : Unit) => []) 30 ?_ (fun h30_0 => ?_)
  · intro _
    show JO w mu_X11_isFactor vB σ [] [] 30 (j_X11_isFactor_30) _
    unfold j_X11_isFactor_30
    refine jo_iconst (pc := 30) dX11_isFactor_30 (ic_i_1) ?_
    refine jo_goto (pc := 31) dX11_isFactor_31 (tgt := 35) rfl ?_
    exact jo_breturn (pc := 35) (b := true) rfl rfl dX11_isFactor_35
  · refine jo_joinS (S := Unit) (fun (z0 : Unit) => σ) (fun (z0 : Unit) => [(1, .int x0)]) (fun (z0 : Unit) => []) 12 ?_ (fun h12_0 => ?_)
    · intro _
      show JO w mu_X11_isFactor vB σ [(1, .int x0)] [] 12 (j_X11_isFactor_12 x0) _
      unfold j_X11_isFactor_12
      refine jo_iload_n (pc := 12) 0 rfl dX11_isFactor_12 rfl ?_
      refine jo_bipush (pc := 13) dX11_isFactor_13 (ic_b_82) ?_
      refine jo_icmp_eq (pc := 15) dX11_isFactor_15 (tgt := 30) rfl ?_ ?_
      · refine jo_lv (lv' := []) [] rfl ?_
        exact jo_leaf (by rfl) (h30_0 ())
      · refine jo_iload_n (pc := 18) 0 rfl dX11_isFactor_18 rfl ?_
        refine jo_bipush (pc := 19) dX11_isFactor_19 (ic_b_40) ?_
        refine jo_icmp_eq (pc := 21) dX11_isFactor_21 (tgt := 30) rfl ?_ ?_
        · refine jo_lv (lv' := []) [] rfl ?_
          exact jo_leaf (by rfl) (h30_0 ())
        · refine jo_iload_n (pc := 24) 0 rfl dX11_isFactor_24 rfl ?_
          refine jo_bipush (pc := 25) dX11_isFactor_25 (ic_b_91) ?_
          refine jo_icmp_ne (pc := 27) dX11_isFactor_27 (tgt := 34) rfl ?_ ?_
          · refine jo_iconst (pc := 34) dX11_isFactor_34 (ic_i_0) ?_
            exact jo_breturn (pc := 35) (b := false) rfl rfl dX11_isFactor_35
          · refine jo_lv (lv' := []) [] rfl ?_
            exact jo_leaf (by rfl) (h30_0 ())
    · refine jo_icmp_lt (pc := 3) dX11_isFactor_3 (tgt := 12) rfl ?_ ?_
      · refine jo_lv (lv' := [(1, .int x0)]) [1] rfl ?_
        exact jo_leaf (by rfl) (h12_0 ())
      · refine jo_iload_n (pc := 6) 1 rfl dX11_isFactor_6 rfl ?_
        refine jo_bipush (pc := 7) dX11_isFactor_7 (ic_b_102) ?_
        refine jo_icmp_le (pc := 9) dX11_isFactor_9 (tgt := 30) rfl ?_ ?_
        · refine jo_lv (lv' := []) [] rfl ?_
          exact jo_leaf (by rfl) (h30_0 ())
        · refine jo_lv (lv' := [(1, .int x0)]) [1] rfl ?_
          exact jo_leaf (by rfl) (h12_0 ())
theorem c_X11_isFactor {w : Wd} (hw : WOK w) (hN : wn w = NT) {σ : Mem} {x0 : Int32} : ∀ r, f_X11_isFactor σ x0 = some r → MC w mu_X11_isFactor (vB r) [.ref (adr w 306), .int x0] σ σ := mc_ofP ok_X11_isFactor rfl (Nat.le_of_ble_eq_true rfl) (t_X11_isFactor hw hN)
abbrev mu_X11_must : MD := (yX11_must, cX11_must, 2, none, 2)
theorem ok_X11_must : MOK mu_X11_must 1 := ⟨gw_1700, gw_171, (by decide +kernel : plainFor yX11_must = true), ⟨(by decide +kernel : yX11_must.cls ≠ "java/lang/invoke/MethodHandle"), (by decide +kernel : yX11_must.cls ≠ "java/lang/invoke/VarHandle"), (by decide +kernel : (parseMethodDescriptor yX11_must.desc).map (fun d => d.parameters.length) = some 1)⟩, Nat.le_of_ble_eq_true rfl⟩
noncomputable def f_X11_must (σ : Mem) (x0 : Int32) : Option Mem :=
  (f_X11_isWrong σ).bind (fun (b1 : Bool) => if b1 then some σ else bq (f_X11_behindBlanks σ) (fun (v2 : Int32) (σ3 : Mem) => if v2 = x0 then (gF σ3 306 21 (fun (v4 : Int32) => pF σ3 306 21 (v4 + 1) (fun (σ5 : Mem) => some σ5))) else (gF σ3 306 21 (fun (v6 : Int32) => (f_X11_errs σ3 1 v6).bind (fun (σ7 : Mem) => some σ7)))))
theorem t_X11_must {w : Wd} (hw : WOK w) (hN : wn w = NT) {σ : Mem} {x0 : Int32} : JO w mu_X11_must vV σ [(0, .ref (adr w 306)), (1, .int x0)] [] 0 (f_X11_must σ x0) (fun z => some ((), z)) := by
  unfold f_X11_must
  refine jo_aload_n (pc := 0) 0 rfl dX11_must_0 rfl ?_
  refine jo_cV_Z_p (pc := 1) (μ' := mu_X11_isWrong) (fx := f_X11_isWrong σ) (As := []) (c_X11_isWrong hw hN) (ok_X11_isWrong) (ltb rfl) (all3 gw_1665 gw_1667 gw_110) (ik_306 hw hN) (by decide) (q := (RX11, TX11, 39)) rfl rfl rfl rfl (Nat.le_of_ble_eq_true rfl) dX11_must_1 (fun b1 => ?_)
  refine jo_ifz_eq (pc := 4) dX11_must_4 (tgt := 8) rfl ?_ ?_
  · refine jo_aload_n (pc := 8) 0 rfl dX11_must_8 rfl ?_
    refine jo_cV_I_i (pc := 9) (μ' := mu_X11_behindBlanks) (fx := f_X11_behindBlanks σ) (As := []) (c_X11_behindBlanks hw hN) (ok_X11_behindBlanks) (ltb rfl) (all3 gw_1669 gw_1671 gw_111) (ik_306 hw hN) (by decide) (q := (RX11, TX11, 39)) rfl rfl rfl rfl (Nat.le_of_ble_eq_true rfl) dX11_must_9 (fun v2 σ3 => ?_)
    refine jo_iload_n (pc := 12) 1 rfl dX11_must_12 rfl ?_
    refine jo_icmp_eq (pc := 13) dX11_must_13 (tgt := 28) rfl ?_ ?_
    · refine jo_aload_n (pc := 28) 0 rfl dX11_must_28 rfl ?_
      refine jo_aload_n (pc := 29) 0 rfl dX11_must_29 rfl ?_
      refine jo_getf (pc := 30) ok_11_21 (ik_306 hw hN) gw_1314 dX11_must_30 (fun v4 => ?_)
      refine jo_iconst (pc := 33) dX11_must_33 (ic_i_1) ?_
      refine jo_iadd (pc := 34) dX11_must_34 ?_
      refine jo_putf (pc := 35) ok_11_21 okp_11_21 (ik_306 hw hN) gw_1314 dX11_must_35 (fun σ5 => ?_)
      exact jo_return (pc := 38) rfl rfl dX11_must_38
    · refine jo_aload_n (pc := 16) 0 rfl dX11_must_16 rfl ?_
      refine jo_iconst (pc := 17) dX11_must_17 (ic_i_1) ?_
      refine jo_aload_n (pc := 18) 0 rfl dX11_must_18 rfl ?_
      refine jo_getf (pc := 19) ok_11_21 (ik_306 hw hN) gw_1314 dX11_must_19 (fun v6 => ?_)
      refine jo_cV_V_i (pc := 22) (μ' := mu_X11_errs) (fx := f_X11_errs σ3 1 v6) (As := [.int 1, .int v6]) (c_X11_errs hw hN) (ok_X11_errs) (ltb rfl) (all3 gw_1685 gw_1687 gw_115) (ik_306 hw hN) (by decide) (q := (RX11, TX11, 39)) rfl rfl rfl rfl (Nat.le_of_ble_eq_true rfl) dX11_must_22 (fun σ7 => ?_)
      refine jo_goto (pc := 25) dX11_must_25 (tgt := 38) rfl ?_
      exact jo_return (pc := 38) rfl rfl dX11_must_38
  · exact jo_return (pc := 7) rfl rfl dX11_must_7
theorem c_X11_must {w : Wd} (hw : WOK w) (hN : wn w = NT) {σ : Mem} {x0 : Int32} : ∀ σ', f_X11_must σ x0 = some σ' → MC w mu_X11_must none [.ref (adr w 306), .int x0] σ σ' := mc_ofV ok_X11_must rfl (Nat.le_of_ble_eq_true rfl) (t_X11_must hw hN)
abbrev mu_X11_readPower : MD := (yX11_readPower, cX11_readPower, 6, none, 6)
theorem ok_X11_readPower : MOK mu_X11_readPower 1 := ⟨gw_1712, gw_171, (by decide +kernel : plainFor yX11_readPower = true), ⟨(by decide +kernel : yX11_readPower.cls ≠ "java/lang/invoke/MethodHandle"), (by decide +kernel : yX11_readPower.cls ≠ "java/lang/invoke/VarHandle"), (by decide +kernel : (parseMethodDescriptor yX11_readPower.desc).map (fun d => d.parameters.length) = some 1)⟩, Nat.le_of_ble_eq_true rfl⟩
noncomputable def j_X11_readPower_193 (x0 : Int32) (σ17 : Mem) (i18 : Int32) : Option Mem :=
  (f_X11_raises σ17 x0 (x0 + 1) i18).bind (fun (σ19 : Mem) => (f_X11_copies σ19 (x0 + 1) x0).bind (fun (σ20 : Mem) => (f_X11_checks σ20 x0).bind (fun (σ21 : Mem) => some σ21)))
noncomputable def j_X11_readPower_153 (x0 : Int32) (b9 : Bool) (v11 : Int32) (σ14 : Mem) (i15 : Int32) : Option Mem :=
  if i15 ≤ 99 then (gF σ14 306 21 (fun (v16 : Int32) => pF σ14 306 23 v16 (fun (σ17 : Mem) => (if b9 then some (-i15) else some i15 : Option Int32).bind (fun (z18 : Int32) => j_X11_readPower_193 x0 σ17 z18)))) else ((f_X11_errs σ14 2 v11).bind (fun (σ22 : Mem) => some σ22))
noncomputable def j_X11_readPower_138 (σ23 : Mem) (i27 : Int32) : Option ((Mem × Int32) ⊕ (Mem × Int32)) :=
  gF σ23 306 21 (fun (v28 : Int32) => pF σ23 306 21 (v28 + 1) (fun (σ29 : Mem) => some (Sum.inl (σ29, i27))))
noncomputable def l_X11_readPower_102 (σ23 : Mem) (i24 : Int32) : Option ((Mem × Int32) ⊕ (Mem × Int32)) :=
  (f_X11_here σ23).bind (fun (v25 : Int32) => (f_X11_isDigit σ23 v25).bind (fun (b26 : Bool) => if b26 then (if i24 ≤ 99 then ((f_X11_here σ23).bind (fun (v30 : Int32) => some (((10 * i24) + v30) - 48))) else (some i24) : Option Int32).bind (fun (z27 : Int32) => j_X11_readPower_138 σ23 z27) else some (Sum.inr (σ23, i24))))
noncomputable def j_X11_readPower_72 (x0 : Int32) (b9 : Bool) (σ10 : Mem) : Option Mem :=
  gF σ10 306 21 (fun (v11 : Int32) => (f_X11_here σ10).bind (fun (v12 : Int32) => (f_X11_isDigit σ10 v12).bind (fun (b13 : Bool) => if b13 then (loopO (fun (z24 : (Mem × Int32)) => l_X11_readPower_102 z24.1 z24.2) (σ10, 0) : Option (Mem × Int32)).bind (fun (z15 : (Mem × Int32)) => j_X11_readPower_153 x0 b9 v11 z15.1 z15.2) else gF σ10 306 21 (fun (v31 : Int32) => (f_X11_errs σ10 1 v31).bind (fun (σ32 : Mem) => some σ32)))))
noncomputable def j_X11_readPower_52 (x0 : Int32) (σ8 : Mem) (b9 : Bool) : Option Mem :=
  (if b9 then gF σ8 306 21 (fun (v33 : Int32) => pF σ8 306 21 (v33 + 1) (fun (σ34 : Mem) => bq (f_X11_behindBlanks σ34) (fun (v35 : Int32) (σ36 : Mem) => some σ36))) else some σ8 : Option Mem).bind (fun (z10 : Mem) => j_X11_readPower_72 x0 b9 z10)
noncomputable def f_X11_readPower (σ : Mem) (x0 : Int32) : Option Mem :=
  (f_X11_isWrong σ).bind (fun (b1 : Bool) => if b1 then some σ else gF σ 306 21 (fun (v2 : Int32) => bq (f_X11_behindBlanks σ) (fun (v3 : Int32) (σ4 : Mem) => if v3 = 94 then (gF σ4 306 21 (fun (v5 : Int32) => pF σ4 306 21 (v5 + 1) (fun (σ6 : Mem) => bq (f_X11_behindBlanks σ6) (fun (v7 : Int32) (σ8 : Mem) => (if v7 = 45 then (some true) else (some false) : Option Bool).bind (fun (z9 : Bool) => j_X11_readPower_52 x0 σ8 z9))))) else (pF σ4 306 21 v2 (fun (σ37 : Mem) => some σ37)))))
theorem t_X11_readPower {w : Wd} (hw : WOK w) (hN : wn w = NT) {σ : Mem} {x0 : Int32} : JO w mu_X11_readPower vV σ [(0, .ref (adr w 306)), (1, .int x0)] [] 0 (f_X11_readPower σ x0) (fun z => some ((), z)) := by
  unfold f_X11_readPower
  refine jo_aload_n (pc := 0) 0 rfl dX11_readPower_0 rfl ?_
  refine jo_cV_Z_p (pc := 1) (μ' := mu_X11_isWrong) (fx := f_X11_isWrong σ) (As := []) (c_X11_isWrong hw hN) (ok_X11_isWrong) (ltb rfl) (all3 gw_1665 gw_1667 gw_110) (ik_306 hw hN) (by decide) (q := (RX11, TX11, 39)) rfl rfl rfl rfl (Nat.le_of_ble_eq_true rfl) dX11_readPower_1 (fun b1 => ?_)
  refine jo_ifz_eq (pc := 4) dX11_readPower_4 (tgt := 8) rfl ?_ ?_
  · refine jo_aload_n (pc := 8) 0 rfl dX11_readPower_8 rfl ?_
    refine jo_getf (pc := 9) ok_11_21 (ik_306 hw hN) gw_1314 dX11_readPower_9 (fun v2 => ?_)
    refine jo_istore_n (pc := 12) (lv' := [(2, .int v2), (0, .ref (adr w 306)), (1, .int x0)]) dX11_readPower_12 rfl (ltb rfl) rfl ?_
    refine jo_aload_n (pc := 13) 1 rfl dX11_readPower_13 rfl ?_
    refine jo_cV_I_i (pc := 14) (μ' := mu_X11_behindBlanks) (fx := f_X11_behindBlanks σ) (As := []) (c_X11_behindBlanks hw hN) (ok_X11_behindBlanks) (ltb rfl) (all3 gw_1669 gw_1671 gw_111) (ik_306 hw hN) (by decide) (q := (RX11, TX11, 39)) rfl rfl rfl rfl (Nat.le_of_ble_eq_true rfl) dX11_readPower_14 (fun v3 σ4 => ?_)
    refine jo_bipush (pc := 17) dX11_readPower_17 (ic_b_94) ?_
    refine jo_icmp_eq (pc := 19) dX11_readPower_19 (tgt := 28) rfl ?_ ?_
    · refine jo_aload_n (pc := 28) 1 rfl dX11_readPower_28 rfl ?_
      refine jo_aload_n (pc := 29) 1 rfl dX11_readPower_29 rfl ?_
      refine jo_getf (pc := 30) ok_11_21 (ik_306 hw hN) gw_1314 dX11_readPower_30 (fun v5 => ?_)
      refine jo_iconst (pc := 33) dX11_readPower_33 (ic_i_1) ?_
      refine jo_iadd (pc := 34) dX11_readPower_34 ?_
      refine jo_putf (pc := 35) ok_11_21 okp_11_21 (ik_306 hw hN) gw_1314 dX11_readPower_35 (fun σ6 => ?_)
      refine jo_aload_n (pc := 38) 1 rfl dX11_readPower_38 rfl ?_
      refine jo_cV_I_i (pc := 39) (μ' := mu_X11_behindBlanks) (fx := f_X11_behindBlanks σ6) (As := []) (c_X11_behindBlanks hw hN) (ok_X11_behindBlanks) (ltb rfl) (all3 gw_1669 gw_1671 gw_111) (ik_306 hw hN) (by decide) (q := (RX11, TX11, 39)) rfl rfl rfl rfl (Nat.le_of_ble_eq_true rfl) dX11_readPower_39 (fun v7 σ8 => ?_)
      refine jo_bipush (pc := 42) dX11_readPower_42 (ic_b_45) ?_
      refine jo_join1 (S := Bool) (fun (z9 : Bool) => σ8) (fun (z9 : Bool) => [(0, .ref (adr w 306)), (1, .int x0)]) (fun (z9 : Bool) => [.int (b2i z9)]) 52 ?_ (fun h52_9 => ?_)
      · intro b9
        show JO w mu_X11_readPower vV σ8 [(0, .ref (adr w 306)), (1, .int x0)] [.int (b2i b9)] 52 (j_X11_readPower_52 x0 σ8 b9) _
        unfold j_X11_readPower_52
        refine jo_istore_n (pc := 52) (lv' := [(3, .int (b2i b9)), (0, .ref (adr w 306)), (1, .int x0)]) dX11_readPower_52 rfl (ltb rfl) rfl ?_
        refine jo_iload_n (pc := 53) 0 rfl dX11_readPower_53 rfl ?_
        refine jo_join1 (S := Mem) (fun (z10 : Mem) => z10) (fun (z10 : Mem) => [(3, .int (b2i b9)), (0, .ref (adr w 306)), (1, .int x0)]) (fun (z10 : Mem) => []) 72 ?_ (fun h72_10 => ?_)
        · intro σ10
          show JO w mu_X11_readPower vV σ10 [(3, .int (b2i b9)), (0, .ref (adr w 306)), (1, .int x0)] [] 72 (j_X11_readPower_72 x0 b9 σ10) _
          unfold j_X11_readPower_72
          refine jo_aload_n (pc := 72) 1 rfl dX11_readPower_72 rfl ?_
          refine jo_getf (pc := 73) ok_11_21 (ik_306 hw hN) gw_1314 dX11_readPower_73 (fun v11 => ?_)
          refine jo_istore (pc := 76) (lv' := [(4, .int v11), (3, .int (b2i b9)), (0, .ref (adr w 306)), (1, .int x0)]) dX11_readPower_76 (ltb rfl) rfl ?_
          refine jo_aload_n (pc := 78) 2 rfl dX11_readPower_78 rfl ?_
          refine jo_aload_n (pc := 79) 2 rfl dX11_readPower_79 rfl ?_
          refine jo_cV_I_p (pc := 80) (μ' := mu_X11_here) (fx := f_X11_here σ10) (As := []) (c_X11_here hw hN) (ok_X11_here) (ltb rfl) (all3 gw_1673 gw_1675 gw_112) (ik_306 hw hN) (by decide) (q := (RX11, TX11, 39)) rfl rfl rfl rfl (Nat.le_of_ble_eq_true rfl) dX11_readPower_80 (fun v12 => ?_)
          refine jo_cV_Z_p (pc := 83) (μ' := mu_X11_isDigit) (fx := f_X11_isDigit σ10 v12) (As := [.int v12]) (c_X11_isDigit hw hN) (ok_X11_isDigit) (ltb rfl) (all3 gw_1689 gw_1691 gw_116) (ik_306 hw hN) (by decide) (q := (RX11, TX11, 39)) rfl rfl rfl rfl (Nat.le_of_ble_eq_true rfl) dX11_readPower_83 (fun b13 => ?_)
          refine jo_ifz_ne (pc := 86) dX11_readPower_86 (tgt := 99) rfl ?_ ?_
          · refine jo_iconst (pc := 99) dX11_readPower_99 (ic_i_0) ?_
            refine jo_istore (pc := 100) (lv' := [(5, .int 0), (4, .int v11), (3, .int (b2i b9)), (0, .ref (adr w 306)), (1, .int x0)]) dX11_readPower_100 (ltb rfl) rfl ?_
            refine jo_join1 (S := (Mem × Int32)) (fun (z15 : (Mem × Int32)) => z15.1) (fun (z15 : (Mem × Int32)) => [(4, .int v11), (3, .int (b2i b9)), (0, .ref (adr w 306)), (1, .int x0), (5, .int z15.2)]) (fun (z15 : (Mem × Int32)) => []) 153 ?_ (fun h153_15 => ?_)
            · intro s
              obtain ⟨σ14, i15⟩ := s
              show JO w mu_X11_readPower vV σ14 [(4, .int v11), (3, .int (b2i b9)), (0, .ref (adr w 306)), (1, .int x0), (5, .int i15)] [] 153 (j_X11_readPower_153 x0 b9 v11 σ14 i15) _
              unfold j_X11_readPower_153
              refine jo_iload (pc := 153) 4 rfl dX11_readPower_153 ?_
              refine jo_bipush (pc := 155) dX11_readPower_155 (ic_b_99) ?_
              refine jo_icmp_le (pc := 157) dX11_readPower_157 (tgt := 168) rfl ?_ ?_
              · refine jo_aload_n (pc := 168) 2 rfl dX11_readPower_168 rfl ?_
                refine jo_aload_n (pc := 169) 2 rfl dX11_readPower_169 rfl ?_
                refine jo_getf (pc := 170) ok_11_21 (ik_306 hw hN) gw_1314 dX11_readPower_170 (fun v16 => ?_)
                refine jo_putf (pc := 173) ok_11_23 okp_11_23 (ik_306 hw hN) gw_1316 dX11_readPower_173 (fun σ17 => ?_)
                refine jo_aload_n (pc := 176) 2 rfl dX11_readPower_176 rfl ?_
                refine jo_iload_n (pc := 177) 3 rfl dX11_readPower_177 rfl ?_
                refine jo_iload_n (pc := 178) 3 rfl dX11_readPower_178 rfl ?_
                refine jo_iconst (pc := 179) dX11_readPower_179 (ic_i_1) ?_
                refine jo_iadd (pc := 180) dX11_readPower_180 ?_
                refine jo_iload_n (pc := 181) 1 rfl dX11_readPower_181 rfl ?_
                refine jo_join1 (S := Int32) (fun (z18 : Int32) => σ17) (fun (z18 : Int32) => [(0, .ref (adr w 306)), (1, .int x0)]) (fun (z18 : Int32) => [.int z18, .int (x0 + 1), .int x0, .ref (adr w 306)]) 193 ?_ (fun h193_18 => ?_)
                · intro i18
                  show JO w mu_X11_readPower vV σ17 [(0, .ref (adr w 306)), (1, .int x0)] [.int i18, .int (x0 + 1), .int x0, .ref (adr w 306)] 193 (j_X11_readPower_193 x0 σ17 i18) _
                  unfold j_X11_readPower_193
                  refine jo_cV_V_i (pc := 193) (μ' := mu_X11_raises) (fx := f_X11_raises σ17 x0 (x0 + 1) i18) (As := [.int x0, .int (x0 + 1), .int i18]) (c_X11_raises hw hN) (ok_X11_raises) (ltb rfl) (all3 gw_1601 gw_1603 gw_101) (ik_306 hw hN) (by decide) (q := (RX11, TX11, 39)) rfl rfl rfl rfl (Nat.le_of_ble_eq_true rfl) dX11_readPower_193 (fun σ19 => ?_)
                  refine jo_aload_n (pc := 196) 0 rfl dX11_readPower_196 rfl ?_
                  refine jo_iload_n (pc := 197) 1 rfl dX11_readPower_197 rfl ?_
                  refine jo_iconst (pc := 198) dX11_readPower_198 (ic_i_1) ?_
                  refine jo_iadd (pc := 199) dX11_readPower_199 ?_
                  refine jo_iload_n (pc := 200) 1 rfl dX11_readPower_200 rfl ?_
                  refine jo_cV_V_i (pc := 201) (μ' := mu_X11_copies) (fx := f_X11_copies σ19 (x0 + 1) x0) (As := [.int (x0 + 1), .int x0]) (c_X11_copies hw hN) (ok_X11_copies) (ltb rfl) (all3 gw_1591 gw_1593 gw_100) (ik_306 hw hN) (by decide) (q := (RX11, TX11, 39)) rfl rfl rfl rfl (Nat.le_of_ble_eq_true rfl) dX11_readPower_201 (fun σ20 => ?_)
                  refine jo_aload_n (pc := 204) 0 rfl dX11_readPower_204 rfl ?_
                  refine jo_iload_n (pc := 205) 1 rfl dX11_readPower_205 rfl ?_
                  refine jo_cV_V_i (pc := 206) (μ' := mu_X11_checks) (fx := f_X11_checks σ20 x0) (As := [.int x0]) (c_X11_checks hw hN) (ok_X11_checks) (ltb rfl) (all3 gw_1705 gw_1707 gw_120) (ik_306 hw hN) (by decide) (q := (RX11, TX11, 39)) rfl rfl rfl rfl (Nat.le_of_ble_eq_true rfl) dX11_readPower_206 (fun σ21 => ?_)
                  exact jo_return (pc := 209) rfl rfl dX11_readPower_209
                · refine jo_ifz_eq (pc := 182) dX11_readPower_182 (tgt := 191) rfl ?_ ?_
                  · refine jo_iload (pc := 191) 4 rfl dX11_readPower_191 ?_
                    refine jo_lv (lv' := [(0, .ref (adr w 306)), (1, .int x0)]) [2, 3] rfl ?_
                    exact jo_leaf (by rfl) (h193_18 i15)
                  · refine jo_iload (pc := 185) 4 rfl dX11_readPower_185 ?_
                    refine jo_ineg (pc := 187) dX11_readPower_187 ?_
                    refine jo_goto (pc := 188) dX11_readPower_188 (tgt := 193) rfl ?_
                    refine jo_lv (lv' := [(0, .ref (adr w 306)), (1, .int x0)]) [2, 3] rfl ?_
                    exact jo_leaf (by rfl) (h193_18 (-i15))
              · refine jo_aload_n (pc := 160) 2 rfl dX11_readPower_160 rfl ?_
                refine jo_iconst (pc := 161) dX11_readPower_161 (ic_i_2) ?_
                refine jo_iload (pc := 162) 0 rfl dX11_readPower_162 ?_
                refine jo_cV_V_i (pc := 164) (μ' := mu_X11_errs) (fx := f_X11_errs σ14 2 v11) (As := [.int 2, .int v11]) (c_X11_errs hw hN) (ok_X11_errs) (ltb rfl) (all3 gw_1685 gw_1687 gw_115) (ik_306 hw hN) (by decide) (q := (RX11, TX11, 39)) rfl rfl rfl rfl (Nat.le_of_ble_eq_true rfl) dX11_readPower_164 (fun σ22 => ?_)
                exact jo_return (pc := 167) rfl rfl dX11_readPower_167
            · refine jo_lv (lv' := [(4, .int v11), (3, .int (b2i b9)), (0, .ref (adr w 306)), (1, .int x0), (5, .int 0)]) [1, 2, 3, 4, 0] rfl ?_
              refine jo_loop (X := (Mem × Int32)) (fun (z24 : (Mem × Int32)) => z24.1) (fun (z24 : (Mem × Int32)) => [(4, .int v11), (3, .int (b2i b9)), (0, .ref (adr w 306)), (1, .int x0), (5, .int z24.2)]) (body := (fun (z24 : (Mem × Int32)) => l_X11_readPower_102 z24.1 z24.2)) (fun F102_24 hF102_24 s => ?_) (σ10, 0)
              obtain ⟨σ23, i24⟩ := s
              show JO w mu_X11_readPower vV σ23 [(4, .int v11), (3, .int (b2i b9)), (0, .ref (adr w 306)), (1, .int x0), (5, .int i24)] [] 102 (l_X11_readPower_102 σ23 i24) _
              unfold l_X11_readPower_102
              refine jo_aload_n (pc := 102) 2 rfl dX11_readPower_102 rfl ?_
              refine jo_aload_n (pc := 103) 2 rfl dX11_readPower_103 rfl ?_
              refine jo_cV_I_p (pc := 104) (μ' := mu_X11_here) (fx := f_X11_here σ23) (As := []) (c_X11_here hw hN) (ok_X11_here) (ltb rfl) (all3 gw_1673 gw_1675 gw_112) (ik_306 hw hN) (by decide) (q := (RX11, TX11, 39)) rfl rfl rfl rfl (Nat.le_of_ble_eq_true rfl) dX11_readPower_104 (fun v25 => ?_)
              refine jo_cV_Z_p (pc := 107) (μ' := mu_X11_isDigit) (fx := f_X11_isDigit σ23 v25) (As := [.int v25]) (c_X11_isDigit hw hN) (ok_X11_isDigit) (ltb rfl) (all3 gw_1689 gw_1691 gw_116) (ik_306 hw hN) (by decide) (q := (RX11, TX11, 39)) rfl rfl rfl rfl (Nat.le_of_ble_eq_true rfl) dX11_readPower_107 (fun b26 => ?_)
              refine jo_ifz_eq (pc := 110) dX11_readPower_110 (tgt := 153) rfl ?_ ?_
              · exact jo_leaf (by rfl) (h153_15 (σ23, i24))
              · refine jo_iload (pc := 113) 4 rfl dX11_readPower_113 ?_
                refine jo_bipush (pc := 115) dX11_readPower_115 (ic_b_99) ?_
                refine jo_join1 (S := Int32) (fun (z27 : Int32) => σ23) (fun (z27 : Int32) => [(4, .int v11), (3, .int (b2i b9)), (0, .ref (adr w 306)), (1, .int x0)]) (fun (z27 : Int32) => [.int z27]) 138 ?_ (fun h138_27 => ?_)
                · intro i27
                  show JO w mu_X11_readPower vV σ23 [(4, .int v11), (3, .int (b2i b9)), (0, .ref (adr w 306)), (1, .int x0)] [.int i27] 138 (j_X11_readPower_138 σ23 i27) _
                  unfold j_X11_readPower_138
                  refine jo_istore (pc := 138) (lv' := [(5, .int i27), (4, .int v11), (3, .int (b2i b9)), (0, .ref (adr w 306)), (1, .int x0)]) dX11_readPower_138 (ltb rfl) rfl ?_
                  refine jo_aload_n (pc := 140) 3 rfl dX11_readPower_140 rfl ?_
                  refine jo_aload_n (pc := 141) 3 rfl dX11_readPower_141 rfl ?_
                  refine jo_getf (pc := 142) ok_11_21 (ik_306 hw hN) gw_1314 dX11_readPower_142 (fun v28 => ?_)
                  refine jo_iconst (pc := 145) dX11_readPower_145 (ic_i_1) ?_
                  refine jo_iadd (pc := 146) dX11_readPower_146 ?_
                  refine jo_putf (pc := 147) ok_11_21 okp_11_21 (ik_306 hw hN) gw_1314 dX11_readPower_147 (fun σ29 => ?_)
                  refine jo_goto (pc := 150) dX11_readPower_150 (tgt := 102) rfl ?_
                  refine jo_lv (lv' := [(4, .int v11), (3, .int (b2i b9)), (0, .ref (adr w 306)), (1, .int x0), (5, .int i27)]) [1, 2, 3, 4, 0] rfl ?_
                  exact jo_leaf (by rfl) (hF102_24 (σ29, i27))
                · refine jo_icmp_le (pc := 117) dX11_readPower_117 (tgt := 125) rfl ?_ ?_
                  · refine jo_bipush (pc := 125) dX11_readPower_125 (ic_b_10) ?_
                    refine jo_iload (pc := 127) 4 rfl dX11_readPower_127 ?_
                    refine jo_imul (pc := 129) dX11_readPower_129 ?_
                    refine jo_aload_n (pc := 130) 2 rfl dX11_readPower_130 rfl ?_
                    refine jo_cV_I_p (pc := 131) (μ' := mu_X11_here) (fx := f_X11_here σ23) (As := []) (c_X11_here hw hN) (ok_X11_here) (ltb rfl) (all3 gw_1673 gw_1675 gw_112) (ik_306 hw hN) (by decide) (q := (RX11, TX11, 39)) rfl rfl rfl rfl (Nat.le_of_ble_eq_true rfl) dX11_readPower_131 (fun v30 => ?_)
                    refine jo_iadd (pc := 134) dX11_readPower_134 ?_
                    refine jo_bipush (pc := 135) dX11_readPower_135 (ic_b_48) ?_
                    refine jo_isub (pc := 137) dX11_readPower_137 ?_
                    refine jo_lv (lv' := [(4, .int v11), (3, .int (b2i b9)), (0, .ref (adr w 306)), (1, .int x0)]) [0, 1, 2, 3] rfl ?_
                    exact jo_leaf (by rfl) (h138_27 (((10 * i24) + v30) - 48))
                  · refine jo_iload (pc := 120) 4 rfl dX11_readPower_120 ?_
                    refine jo_goto (pc := 122) dX11_readPower_122 (tgt := 138) rfl ?_
                    refine jo_lv (lv' := [(4, .int v11), (3, .int (b2i b9)), (0, .ref (adr w 306)), (1, .int x0)]) [0, 1, 2, 3] rfl ?_
                    exact jo_leaf (by rfl) (h138_27 i24)
          · refine jo_aload_n (pc := 89) 2 rfl dX11_readPower_89 rfl ?_
            refine jo_iconst (pc := 90) dX11_readPower_90 (ic_i_1) ?_
            refine jo_aload_n (pc := 91) 2 rfl dX11_readPower_91 rfl ?_
            refine jo_getf (pc := 92) ok_11_21 (ik_306 hw hN) gw_1314 dX11_readPower_92 (fun v31 => ?_)
            refine jo_cV_V_i (pc := 95) (μ' := mu_X11_errs) (fx := f_X11_errs σ10 1 v31) (As := [.int 1, .int v31]) (c_X11_errs hw hN) (ok_X11_errs) (ltb rfl) (all3 gw_1685 gw_1687 gw_115) (ik_306 hw hN) (by decide) (q := (RX11, TX11, 39)) rfl rfl rfl rfl (Nat.le_of_ble_eq_true rfl) dX11_readPower_95 (fun σ32 => ?_)
            exact jo_return (pc := 98) rfl rfl dX11_readPower_98
        · refine jo_ifz_eq (pc := 54) dX11_readPower_54 (tgt := 72) rfl ?_ ?_
          · exact jo_leaf (by rfl) (h72_10 σ8)
          · refine jo_aload_n (pc := 57) 1 rfl dX11_readPower_57 rfl ?_
            refine jo_aload_n (pc := 58) 1 rfl dX11_readPower_58 rfl ?_
            refine jo_getf (pc := 59) ok_11_21 (ik_306 hw hN) gw_1314 dX11_readPower_59 (fun v33 => ?_)
            refine jo_iconst (pc := 62) dX11_readPower_62 (ic_i_1) ?_
            refine jo_iadd (pc := 63) dX11_readPower_63 ?_
            refine jo_putf (pc := 64) ok_11_21 okp_11_21 (ik_306 hw hN) gw_1314 dX11_readPower_64 (fun σ34 => ?_)
            refine jo_aload_n (pc := 67) 1 rfl dX11_readPower_67 rfl ?_
            refine jo_cV_I_i (pc := 68) (μ' := mu_X11_behindBlanks) (fx := f_X11_behindBlanks σ34) (As := []) (c_X11_behindBlanks hw hN) (ok_X11_behindBlanks) (ltb rfl) (all3 gw_1669 gw_1671 gw_111) (ik_306 hw hN) (by decide) (q := (RX11, TX11, 39)) rfl rfl rfl rfl (Nat.le_of_ble_eq_true rfl) dX11_readPower_68 (fun v35 σ36 => ?_)
            refine jo_pop (pc := 71) dX11_readPower_71 rfl ?_
            exact jo_leaf (by rfl) (h72_10 σ36)
      · refine jo_icmp_ne (pc := 44) dX11_readPower_44 (tgt := 51) rfl ?_ ?_
        · refine jo_iconst (pc := 51) dX11_readPower_51 (ic_i_0) ?_
          refine jo_lv (lv' := [(0, .ref (adr w 306)), (1, .int x0)]) [1, 2] rfl ?_
          exact jo_leaf (by rfl) (h52_9 false)
        · refine jo_iconst (pc := 47) dX11_readPower_47 (ic_i_1) ?_
          refine jo_goto (pc := 48) dX11_readPower_48 (tgt := 52) rfl ?_
          refine jo_lv (lv' := [(0, .ref (adr w 306)), (1, .int x0)]) [1, 2] rfl ?_
          exact jo_leaf (by rfl) (h52_9 true)
    · refine jo_aload_n (pc := 22) 1 rfl dX11_readPower_22 rfl ?_
      refine jo_iload_n (pc := 23) 0 rfl dX11_readPower_23 rfl ?_
      refine jo_putf (pc := 24) ok_11_21 okp_11_21 (ik_306 hw hN) gw_1314 dX11_readPower_24 (fun σ37 => ?_)
      exact jo_return (pc := 27) rfl rfl dX11_readPower_27
  · exact jo_return (pc := 7) rfl rfl dX11_readPower_7
theorem c_X11_readPower {w : Wd} (hw : WOK w) (hN : wn w = NT) {σ : Mem} {x0 : Int32} : ∀ σ', f_X11_readPower σ x0 = some σ' → MC w mu_X11_readPower none [.ref (adr w 306), .int x0] σ σ' := mc_ofV ok_X11_readPower rfl (Nat.le_of_ble_eq_true rfl) (t_X11_readPower hw hN)
abbrev mu_X11_readWord (d : Nat) : MD := (yX11_readWord, cX11_readWord, 2, none, 7 + d)
theorem ok_X11_readWord (d : Nat) : MOK (mu_X11_readWord d) 1 := ⟨gw_1664, gw_171, (by decide +kernel : plainFor yX11_readWord = true), ⟨(by decide +kernel : yX11_readWord.cls ≠ "java/lang/invoke/MethodHandle"), (by decide +kernel : yX11_readWord.cls ≠ "java/lang/invoke/VarHandle"), (by decide +kernel : (parseMethodDescriptor yX11_readWord.desc).map (fun d => d.parameters.length) = some 1)⟩, Nat.le_of_ble_eq_true rfl⟩
abbrev mu_X11_readCommutator (d : Nat) : MD := (yX11_readCommutator, cX11_readCommutator, 3, none, 7 + d + 1)
theorem ok_X11_readCommutator (d : Nat) : MOK (mu_X11_readCommutator d) 1 := ⟨gw_1704, gw_171, (by decide +kernel : plainFor yX11_readCommutator = true), ⟨(by decide +kernel : yX11_readCommutator.cls ≠ "java/lang/invoke/MethodHandle"), (by decide +kernel : yX11_readCommutator.cls ≠ "java/lang/invoke/VarHandle"), (by decide +kernel : (parseMethodDescriptor yX11_readCommutator.desc).map (fun d => d.parameters.length) = some 1)⟩, Nat.le_of_ble_eq_true rfl⟩
noncomputable def j_X11_readCommutator_82 (rec : Mem → Int32 → Option Mem) (σ1 : Mem) : Option Mem :=
  (f_X11_must σ1 93).bind (fun (σ2 : Mem) => some σ2)
noncomputable def j_X11_readCommutator_22 (rec : Mem → Int32 → Option Mem) (x0 : Int32) (i4 : Int32) (σ6 : Mem) : Option ((Mem × Int32) ⊕ (Mem ⊕ Mem)) :=
  (f_X11_must σ6 44).bind (fun (σ7 : Mem) => gF σ7 306 21 (fun (v8 : Int32) => pF σ7 306 23 v8 (fun (σ9 : Mem) => (rec σ9 (x0 + 1)).bind (fun (σ10 : Mem) => (f_X11_isWrong σ10).bind (fun (b11 : Bool) => if b11 then some (Sum.inr (Sum.inr σ10)) else (f_X11_commutator σ10 x0 (x0 + 1) (x0 + 2)).bind (fun (σ12 : Mem) => (f_X11_copies σ12 (x0 + 2) x0).bind (fun (σ13 : Mem) => (f_X11_checks σ13 x0).bind (fun (σ14 : Mem) => bd (i4 + 1) (fun (v15 : Int32) => some (Sum.inl (σ14, v15)))))))))))
noncomputable def l_X11_readCommutator_2 (rec : Mem → Int32 → Option Mem) (x0 : Int32) (σ3 : Mem) (i4 : Int32) : Option ((Mem × Int32) ⊕ (Mem ⊕ Mem)) :=
  (f_X11_isWrong σ3).bind (fun (b5 : Bool) => if b5 then some (Sum.inr (Sum.inl σ3)) else (if i4 = 0 then (some (Sum.inl σ3)) else (bq (f_X11_behindBlanks σ3) (fun (v16 : Int32) (σ17 : Mem) => if v16 = 44 then (some (Sum.inl σ17)) else (some (Sum.inr (Sum.inr (Sum.inl σ17)))))) : Option (Mem ⊕ ((Mem × Int32) ⊕ (Mem ⊕ Mem)))).bind (Sum.elim (fun (z6 : Mem) => j_X11_readCommutator_22 rec x0 i4 z6) some))
noncomputable def o_X11_readCommutator (rec : Mem → Int32 → Option Mem) (σ : Mem) (x0 : Int32) : Option Mem :=
  (loopO (fun (z4 : (Mem × Int32)) => l_X11_readCommutator_2 rec x0 z4.1 z4.2) (σ, 0) : Option (Mem ⊕ Mem)).bind (Sum.elim (fun (z1 : Mem) => j_X11_readCommutator_82 rec z1) some)
theorem t_X11_readCommutator {w : Wd} (hw : WOK w) (hN : wn w = NT) {d : Nat} {rec : Mem → Int32 → Option Mem} (hrec : ∀ {τ0 : Mem} {y0 : Int32}, ∀ τ, rec τ0 y0 = some τ → MC w (mu_X11_readWord d) none [.ref (adr w 306), .int y0] τ0 τ) {σ : Mem} {x0 : Int32} : JO w (mu_X11_readCommutator d) vV σ [(0, .ref (adr w 306)), (1, .int x0)] [] 0 (o_X11_readCommutator rec σ x0) (fun z => some ((), z)) := by
  unfold o_X11_readCommutator
  refine jo_iconst (pc := 0) dX11_readCommutator_0 (ic_i_0) ?_
  refine jo_istore_n (pc := 1) (lv' := [(2, .int 0), (0, .ref (adr w 306)), (1, .int x0)]) dX11_readCommutator_1 rfl (ltb rfl) rfl ?_
  refine jo_joinS (S := Mem) (fun (z1 : Mem) => z1) (fun (z1 : Mem) => [(0, .ref (adr w 306))]) (fun (z1 : Mem) => []) 82 ?_ (fun h82_1 => ?_)
  · intro σ1
    show JO w (mu_X11_readCommutator d) vV σ1 [(0, .ref (adr w 306))] [] 82 (j_X11_readCommutator_82 rec σ1) _
    unfold j_X11_readCommutator_82
    refine jo_aload_n (pc := 82) 0 rfl dX11_readCommutator_82 rfl ?_
    refine jo_bipush (pc := 83) dX11_readCommutator_83 (ic_b_93) ?_
    refine jo_cV_V_i (pc := 85) (μ' := mu_X11_must) (fx := f_X11_must σ1 93) (As := [.int 93]) (c_X11_must hw hN) (ok_X11_must) (by simp only [mu_X11_readCommutator, mu_X11_must]; omega) (all3 gw_1697 gw_1699 gw_118) (ik_306 hw hN) (by decide) (q := (RX11, TX11, 39)) rfl rfl rfl rfl (Nat.le_of_ble_eq_true rfl) dX11_readCommutator_85 (fun σ2 => ?_)
    exact jo_return (pc := 88) rfl rfl dX11_readCommutator_88
  · refine jo_lv (lv' := [(0, .ref (adr w 306)), (1, .int x0), (2, .int 0)]) [1, 2, 0] rfl ?_
    refine jo_loop (X := Mem ⊕ Mem) (fun (z4 : (Mem × Int32)) => z4.1) (fun (z4 : (Mem × Int32)) => [(0, .ref (adr w 306)), (1, .int x0), (2, .int z4.2)]) (body := (fun (z4 : (Mem × Int32)) => l_X11_readCommutator_2 rec x0 z4.1 z4.2)) (fun F2_4 hF2_4 s => ?_) (σ, 0)
    obtain ⟨σ3, i4⟩ := s
    show JO w (mu_X11_readCommutator d) vV σ3 [(0, .ref (adr w 306)), (1, .int x0), (2, .int i4)] [] 2 (l_X11_readCommutator_2 rec x0 σ3 i4) _
    unfold l_X11_readCommutator_2
    refine jo_aload_n (pc := 2) 0 rfl dX11_readCommutator_2 rfl ?_
    refine jo_cV_Z_p (pc := 3) (μ' := mu_X11_isWrong) (fx := f_X11_isWrong σ3) (As := []) (c_X11_isWrong hw hN) (ok_X11_isWrong) (by simp only [mu_X11_readCommutator, mu_X11_isWrong]; omega) (all3 gw_1665 gw_1667 gw_110) (ik_306 hw hN) (by decide) (q := (RX11, TX11, 39)) rfl rfl rfl rfl (Nat.le_of_ble_eq_true rfl) dX11_readCommutator_3 (fun b5 => ?_)
    refine jo_ifz_ne (pc := 6) dX11_readCommutator_6 (tgt := 82) rfl ?_ ?_
    · refine jo_lv (lv' := [(0, .ref (adr w 306))]) [0] rfl ?_
      exact jo_leaf (by rfl) (h82_1 σ3)
    · refine jo_iload_n (pc := 9) 2 rfl dX11_readCommutator_9 rfl ?_
      refine jo_joinS (S := Mem) (fun (z6 : Mem) => z6) (fun (z6 : Mem) => [(0, .ref (adr w 306)), (1, .int x0), (2, .int i4)]) (fun (z6 : Mem) => []) 22 ?_ (fun h22_6 => ?_)
      · intro σ6
        show JO w (mu_X11_readCommutator d) vV σ6 [(0, .ref (adr w 306)), (1, .int x0), (2, .int i4)] [] 22 (j_X11_readCommutator_22 rec x0 i4 σ6) _
        unfold j_X11_readCommutator_22
        refine jo_aload_n (pc := 22) 0 rfl dX11_readCommutator_22 rfl ?_
        refine jo_bipush (pc := 23) dX11_readCommutator_23 (ic_b_44) ?_
        refine jo_cV_V_i (pc := 25) (μ' := mu_X11_must) (fx := f_X11_must σ6 44) (As := [.int 44]) (c_X11_must hw hN) (ok_X11_must) (by simp only [mu_X11_readCommutator, mu_X11_must]; omega) (all3 gw_1697 gw_1699 gw_118) (ik_306 hw hN) (by decide) (q := (RX11, TX11, 39)) rfl rfl rfl rfl (Nat.le_of_ble_eq_true rfl) dX11_readCommutator_25 (fun σ7 => ?_)
        refine jo_aload_n (pc := 28) 0 rfl dX11_readCommutator_28 rfl ?_
        refine jo_aload_n (pc := 29) 0 rfl dX11_readCommutator_29 rfl ?_
        refine jo_getf (pc := 30) ok_11_21 (ik_306 hw hN) gw_1314 dX11_readCommutator_30 (fun v8 => ?_)
        refine jo_putf (pc := 33) ok_11_23 okp_11_23 (ik_306 hw hN) gw_1316 dX11_readCommutator_33 (fun σ9 => ?_)
        refine jo_aload_n (pc := 36) 0 rfl dX11_readCommutator_36 rfl ?_
        refine jo_iload_n (pc := 37) 1 rfl dX11_readCommutator_37 rfl ?_
        refine jo_iconst (pc := 38) dX11_readCommutator_38 (ic_i_1) ?_
        refine jo_iadd (pc := 39) dX11_readCommutator_39 ?_
        refine jo_cV_V_i (pc := 40) (μ' := (mu_X11_readWord d)) (fx := rec σ9 (x0 + 1)) (As := [.int (x0 + 1)]) (hrec) (ok_X11_readWord _) (by simp only [mu_X11_readCommutator, mu_X11_readWord]; omega) (all3 gw_1661 gw_1663 gw_109) (ik_306 hw hN) (by decide) (q := (RX11, TX11, 39)) rfl rfl rfl rfl (Nat.le_of_ble_eq_true rfl) dX11_readCommutator_40 (fun σ10 => ?_)
        refine jo_aload_n (pc := 43) 0 rfl dX11_readCommutator_43 rfl ?_
        refine jo_cV_Z_p (pc := 44) (μ' := mu_X11_isWrong) (fx := f_X11_isWrong σ10) (As := []) (c_X11_isWrong hw hN) (ok_X11_isWrong) (by simp only [mu_X11_readCommutator, mu_X11_isWrong]; omega) (all3 gw_1665 gw_1667 gw_110) (ik_306 hw hN) (by decide) (q := (RX11, TX11, 39)) rfl rfl rfl rfl (Nat.le_of_ble_eq_true rfl) dX11_readCommutator_44 (fun b11 => ?_)
        refine jo_ifz_eq (pc := 47) dX11_readCommutator_47 (tgt := 51) rfl ?_ ?_
        · refine jo_aload_n (pc := 51) 0 rfl dX11_readCommutator_51 rfl ?_
          refine jo_iload_n (pc := 52) 1 rfl dX11_readCommutator_52 rfl ?_
          refine jo_iload_n (pc := 53) 1 rfl dX11_readCommutator_53 rfl ?_
          refine jo_iconst (pc := 54) dX11_readCommutator_54 (ic_i_1) ?_
          refine jo_iadd (pc := 55) dX11_readCommutator_55 ?_
          refine jo_iload_n (pc := 56) 1 rfl dX11_readCommutator_56 rfl ?_
          refine jo_iconst (pc := 57) dX11_readCommutator_57 (ic_i_2) ?_
          refine jo_iadd (pc := 58) dX11_readCommutator_58 ?_
          refine jo_cV_V_i (pc := 59) (μ' := mu_X11_commutator) (fx := f_X11_commutator σ10 x0 (x0 + 1) (x0 + 2)) (As := [.int x0, .int (x0 + 1), .int (x0 + 2)]) (c_X11_commutator hw hN) (ok_X11_commutator) (by simp only [mu_X11_readCommutator, mu_X11_commutator]; omega) (all3 gw_1609 gw_1611 gw_102) (ik_306 hw hN) (by decide) (q := (RX11, TX11, 39)) rfl rfl rfl rfl (Nat.le_of_ble_eq_true rfl) dX11_readCommutator_59 (fun σ12 => ?_)
          refine jo_aload_n (pc := 62) 0 rfl dX11_readCommutator_62 rfl ?_
          refine jo_iload_n (pc := 63) 1 rfl dX11_readCommutator_63 rfl ?_
          refine jo_iconst (pc := 64) dX11_readCommutator_64 (ic_i_2) ?_
          refine jo_iadd (pc := 65) dX11_readCommutator_65 ?_
          refine jo_iload_n (pc := 66) 1 rfl dX11_readCommutator_66 rfl ?_
          refine jo_cV_V_i (pc := 67) (μ' := mu_X11_copies) (fx := f_X11_copies σ12 (x0 + 2) x0) (As := [.int (x0 + 2), .int x0]) (c_X11_copies hw hN) (ok_X11_copies) (by simp only [mu_X11_readCommutator, mu_X11_copies]; omega) (all3 gw_1591 gw_1593 gw_100) (ik_306 hw hN) (by decide) (q := (RX11, TX11, 39)) rfl rfl rfl rfl (Nat.le_of_ble_eq_true rfl) dX11_readCommutator_67 (fun σ13 => ?_)
          refine jo_aload_n (pc := 70) 0 rfl dX11_readCommutator_70 rfl ?_
          refine jo_iload_n (pc := 71) 1 rfl dX11_readCommutator_71 rfl ?_
          refine jo_cV_V_i (pc := 72) (μ' := mu_X11_checks) (fx := f_X11_checks σ13 x0) (As := [.int x0]) (c_X11_checks hw hN) (ok_X11_checks) (by simp only [mu_X11_readCommutator, mu_X11_checks]; omega) (all3 gw_1705 gw_1707 gw_120) (ik_306 hw hN) (by decide) (q := (RX11, TX11, 39)) rfl rfl rfl rfl (Nat.le_of_ble_eq_true rfl) dX11_readCommutator_72 (fun σ14 => ?_)
          refine jo_iload_n (pc := 75) 2 rfl dX11_readCommutator_75 rfl ?_
          refine jo_iconst (pc := 76) dX11_readCommutator_76 (ic_i_1) ?_
          refine jo_iadd (pc := 77) dX11_readCommutator_77 ?_
          refine jo_bd ?_
          refine jo_istore_n (pc := 78) (lv' := [(2, .int (i4 + 1)), (0, .ref (adr w 306)), (1, .int x0)]) dX11_readCommutator_78 rfl (ltb rfl) rfl ?_
          generalize (i4 + 1) = v15
          refine jo_goto (pc := 79) dX11_readCommutator_79 (tgt := 2) rfl ?_
          refine jo_lv (lv' := [(0, .ref (adr w 306)), (1, .int x0), (2, .int v15)]) [1, 2, 0] rfl ?_
          exact jo_leaf (by rfl) (hF2_4 (σ14, v15))
        · exact jo_return (pc := 50) rfl rfl dX11_readCommutator_50
      · refine jo_if_eq (pc := 10) dX11_readCommutator_10 (tgt := 22) rfl ?_ ?_
        · exact jo_leaf (by rfl) (h22_6 σ3)
        · refine jo_aload_n (pc := 13) 0 rfl dX11_readCommutator_13 rfl ?_
          refine jo_cV_I_i (pc := 14) (μ' := mu_X11_behindBlanks) (fx := f_X11_behindBlanks σ3) (As := []) (c_X11_behindBlanks hw hN) (ok_X11_behindBlanks) (by simp only [mu_X11_readCommutator, mu_X11_behindBlanks]; omega) (all3 gw_1669 gw_1671 gw_111) (ik_306 hw hN) (by decide) (q := (RX11, TX11, 39)) rfl rfl rfl rfl (Nat.le_of_ble_eq_true rfl) dX11_readCommutator_14 (fun v16 σ17 => ?_)
          refine jo_bipush (pc := 17) dX11_readCommutator_17 (ic_b_44) ?_
          refine jo_icmp_ne (pc := 19) dX11_readCommutator_19 (tgt := 82) rfl ?_ ?_
          · refine jo_lv (lv' := [(0, .ref (adr w 306))]) [0] rfl ?_
            exact jo_leaf (by rfl) (h82_1 σ17)
          · exact jo_leaf (by rfl) (h22_6 σ17)
theorem co_X11_readCommutator {w : Wd} (hw : WOK w) (hN : wn w = NT) {d : Nat} {rec : Mem → Int32 → Option Mem} (hrec : ∀ {τ0 : Mem} {y0 : Int32}, ∀ τ, rec τ0 y0 = some τ → MC w (mu_X11_readWord d) none [.ref (adr w 306), .int y0] τ0 τ) {σ : Mem} {x0 : Int32} : ∀ σ', o_X11_readCommutator rec σ x0 = some σ' → MC w (mu_X11_readCommutator d) none [.ref (adr w 306), .int x0] σ σ' := mc_ofV (ok_X11_readCommutator _) rfl (Nat.le_of_ble_eq_true rfl) (t_X11_readCommutator hw hN hrec)
abbrev mu_X11_readOpen (d : Nat) : MD := (yX11_readOpen, cX11_readOpen, 3, none, 7 + d + 2)
theorem ok_X11_readOpen (d : Nat) : MOK (mu_X11_readOpen d) 2 := ⟨gw_1696, gw_171, (by decide +kernel : plainFor yX11_readOpen = true), ⟨(by decide +kernel : yX11_readOpen.cls ≠ "java/lang/invoke/MethodHandle"), (by decide +kernel : yX11_readOpen.cls ≠ "java/lang/invoke/VarHandle"), (by decide +kernel : (parseMethodDescriptor yX11_readOpen.desc).map (fun d => d.parameters.length) = some 2)⟩, Nat.le_of_ble_eq_true rfl⟩
noncomputable def j_X11_readOpen_72 (rec : Mem → Int32 → Option Mem) (σ9 : Mem) : Option Mem :=
  gF σ9 306 25 (fun (v10 : Int32) => pF σ9 306 25 (v10 - 1) (fun (σ11 : Mem) => some σ11))
noncomputable def o_X11_readOpen (rec : Mem → Int32 → Option Mem) (σ : Mem) (x0 : Int32) (x1 : Int32) : Option Mem :=
  gF σ 306 25 (fun (v1 : Int32) => if v1 = 8 then (gF σ 306 21 (fun (v14 : Int32) => (f_X11_errs σ 4 v14).bind (fun (σ15 : Mem) => some σ15))) else (gF σ 306 25 (fun (v2 : Int32) => pF σ 306 25 (v2 + 1) (fun (σ3 : Mem) => gF σ3 306 21 (fun (v4 : Int32) => pF σ3 306 21 (v4 + 1) (fun (σ5 : Mem) => gF σ5 306 21 (fun (v6 : Int32) => pF σ5 306 23 v6 (fun (σ7 : Mem) => (rec σ7 x0).bind (fun (σ8 : Mem) => (if x1 = 40 then ((f_X11_must σ8 41).bind (fun (σ13 : Mem) => some σ13)) else ((o_X11_readCommutator rec σ8 x0).bind (fun (σ12 : Mem) => some σ12)) : Option Mem).bind (fun (z9 : Mem) => j_X11_readOpen_72 rec z9))))))))))
theorem t_X11_readOpen {w : Wd} (hw : WOK w) (hN : wn w = NT) {d : Nat} {rec : Mem → Int32 → Option Mem} (hrec : ∀ {τ0 : Mem} {y0 : Int32}, ∀ τ, rec τ0 y0 = some τ → MC w (mu_X11_readWord d) none [.ref (adr w 306), .int y0] τ0 τ) {σ : Mem} {x0 : Int32} {x1 : Int32} : JO w (mu_X11_readOpen d) vV σ [(0, .ref (adr w 306)), (1, .int x0), (2, .int x1)] [] 0 (o_X11_readOpen rec σ x0 x1) (fun z => some ((), z)) := by
  unfold o_X11_readOpen
  refine jo_aload_n (pc := 0) 0 rfl dX11_readOpen_0 rfl ?_
  refine jo_getf (pc := 1) ok_11_25 (ik_306 hw hN) gw_1318 dX11_readOpen_1 (fun v1 => ?_)
  refine jo_bipush (pc := 4) dX11_readOpen_4 (ic_b_8) ?_
  refine jo_icmp_ne (pc := 6) dX11_readOpen_6 (tgt := 19) rfl ?_ ?_
  · refine jo_aload_n (pc := 19) 0 rfl dX11_readOpen_19 rfl ?_
    refine jo_aload_n (pc := 20) 0 rfl dX11_readOpen_20 rfl ?_
    refine jo_getf (pc := 21) ok_11_25 (ik_306 hw hN) gw_1318 dX11_readOpen_21 (fun v2 => ?_)
    refine jo_iconst (pc := 24) dX11_readOpen_24 (ic_i_1) ?_
    refine jo_iadd (pc := 25) dX11_readOpen_25 ?_
    refine jo_putf (pc := 26) ok_11_25 okp_11_25 (ik_306 hw hN) gw_1318 dX11_readOpen_26 (fun σ3 => ?_)
    refine jo_aload_n (pc := 29) 0 rfl dX11_readOpen_29 rfl ?_
    refine jo_aload_n (pc := 30) 0 rfl dX11_readOpen_30 rfl ?_
    refine jo_getf (pc := 31) ok_11_21 (ik_306 hw hN) gw_1314 dX11_readOpen_31 (fun v4 => ?_)
    refine jo_iconst (pc := 34) dX11_readOpen_34 (ic_i_1) ?_
    refine jo_iadd (pc := 35) dX11_readOpen_35 ?_
    refine jo_putf (pc := 36) ok_11_21 okp_11_21 (ik_306 hw hN) gw_1314 dX11_readOpen_36 (fun σ5 => ?_)
    refine jo_aload_n (pc := 39) 0 rfl dX11_readOpen_39 rfl ?_
    refine jo_aload_n (pc := 40) 0 rfl dX11_readOpen_40 rfl ?_
    refine jo_getf (pc := 41) ok_11_21 (ik_306 hw hN) gw_1314 dX11_readOpen_41 (fun v6 => ?_)
    refine jo_putf (pc := 44) ok_11_23 okp_11_23 (ik_306 hw hN) gw_1316 dX11_readOpen_44 (fun σ7 => ?_)
    refine jo_aload_n (pc := 47) 0 rfl dX11_readOpen_47 rfl ?_
    refine jo_iload_n (pc := 48) 1 rfl dX11_readOpen_48 rfl ?_
    refine jo_cV_V_i (pc := 49) (μ' := (mu_X11_readWord d)) (fx := rec σ7 x0) (As := [.int x0]) (hrec) (ok_X11_readWord _) (by simp only [mu_X11_readOpen, mu_X11_readWord]; omega) (all3 gw_1661 gw_1663 gw_109) (ik_306 hw hN) (by decide) (q := (RX11, TX11, 39)) rfl rfl rfl rfl (Nat.le_of_ble_eq_true rfl) dX11_readOpen_49 (fun σ8 => ?_)
    refine jo_iload_n (pc := 52) 2 rfl dX11_readOpen_52 rfl ?_
    refine jo_bipush (pc := 53) dX11_readOpen_53 (ic_b_40) ?_
    refine jo_join1 (S := Mem) (fun (z9 : Mem) => z9) (fun (z9 : Mem) => [(0, .ref (adr w 306))]) (fun (z9 : Mem) => []) 72 ?_ (fun h72_9 => ?_)
    · intro σ9
      show JO w (mu_X11_readOpen d) vV σ9 [(0, .ref (adr w 306))] [] 72 (j_X11_readOpen_72 rec σ9) _
      unfold j_X11_readOpen_72
      refine jo_aload_n (pc := 72) 0 rfl dX11_readOpen_72 rfl ?_
      refine jo_aload_n (pc := 73) 0 rfl dX11_readOpen_73 rfl ?_
      refine jo_getf (pc := 74) ok_11_25 (ik_306 hw hN) gw_1318 dX11_readOpen_74 (fun v10 => ?_)
      refine jo_iconst (pc := 77) dX11_readOpen_77 (ic_i_1) ?_
      refine jo_isub (pc := 78) dX11_readOpen_78 ?_
      refine jo_putf (pc := 79) ok_11_25 okp_11_25 (ik_306 hw hN) gw_1318 dX11_readOpen_79 (fun σ11 => ?_)
      exact jo_return (pc := 82) rfl rfl dX11_readOpen_82
    · refine jo_icmp_ne (pc := 55) dX11_readOpen_55 (tgt := 67) rfl ?_ ?_
      · refine jo_aload_n (pc := 67) 0 rfl dX11_readOpen_67 rfl ?_
        refine jo_iload_n (pc := 68) 1 rfl dX11_readOpen_68 rfl ?_
        refine jo_cV_V_i (pc := 69) (μ' := (mu_X11_readCommutator d)) (fx := o_X11_readCommutator rec σ8 x0) (As := [.int x0]) (co_X11_readCommutator hw hN hrec) (ok_X11_readCommutator _) (by simp only [mu_X11_readOpen, mu_X11_readCommutator]; omega) (all3 gw_1701 gw_1703 gw_119) (ik_306 hw hN) (by decide) (q := (RX11, TX11, 39)) rfl rfl rfl rfl (Nat.le_of_ble_eq_true rfl) dX11_readOpen_69 (fun σ12 => ?_)
        refine jo_lv (lv' := [(0, .ref (adr w 306))]) [0] rfl ?_
        exact jo_leaf (by rfl) (h72_9 σ12)
      · refine jo_aload_n (pc := 58) 0 rfl dX11_readOpen_58 rfl ?_
        refine jo_bipush (pc := 59) dX11_readOpen_59 (ic_b_41) ?_
        refine jo_cV_V_i (pc := 61) (μ' := mu_X11_must) (fx := f_X11_must σ8 41) (As := [.int 41]) (c_X11_must hw hN) (ok_X11_must) (by simp only [mu_X11_readOpen, mu_X11_must]; omega) (all3 gw_1697 gw_1699 gw_118) (ik_306 hw hN) (by decide) (q := (RX11, TX11, 39)) rfl rfl rfl rfl (Nat.le_of_ble_eq_true rfl) dX11_readOpen_61 (fun σ13 => ?_)
        refine jo_goto (pc := 64) dX11_readOpen_64 (tgt := 72) rfl ?_
        refine jo_lv (lv' := [(0, .ref (adr w 306))]) [0] rfl ?_
        exact jo_leaf (by rfl) (h72_9 σ13)
  · refine jo_aload_n (pc := 9) 0 rfl dX11_readOpen_9 rfl ?_
    refine jo_iconst (pc := 10) dX11_readOpen_10 (ic_i_4) ?_
    refine jo_aload_n (pc := 11) 0 rfl dX11_readOpen_11 rfl ?_
    refine jo_getf (pc := 12) ok_11_21 (ik_306 hw hN) gw_1314 dX11_readOpen_12 (fun v14 => ?_)
    refine jo_cV_V_i (pc := 15) (μ' := mu_X11_errs) (fx := f_X11_errs σ 4 v14) (As := [.int 4, .int v14]) (c_X11_errs hw hN) (ok_X11_errs) (by simp only [mu_X11_readOpen, mu_X11_errs]; omega) (all3 gw_1685 gw_1687 gw_115) (ik_306 hw hN) (by decide) (q := (RX11, TX11, 39)) rfl rfl rfl rfl (Nat.le_of_ble_eq_true rfl) dX11_readOpen_15 (fun σ15 => ?_)
    exact jo_return (pc := 18) rfl rfl dX11_readOpen_18
theorem co_X11_readOpen {w : Wd} (hw : WOK w) (hN : wn w = NT) {d : Nat} {rec : Mem → Int32 → Option Mem} (hrec : ∀ {τ0 : Mem} {y0 : Int32}, ∀ τ, rec τ0 y0 = some τ → MC w (mu_X11_readWord d) none [.ref (adr w 306), .int y0] τ0 τ) {σ : Mem} {x0 : Int32} {x1 : Int32} : ∀ σ', o_X11_readOpen rec σ x0 x1 = some σ' → MC w (mu_X11_readOpen d) none [.ref (adr w 306), .int x0, .int x1] σ σ' := mc_ofV (ok_X11_readOpen _) rfl (Nat.le_of_ble_eq_true rfl) (t_X11_readOpen hw hN hrec)
abbrev mu_X11_readFactor (d : Nat) : MD := (yX11_readFactor, cX11_readFactor, 3, none, 7 + d + 3)
theorem ok_X11_readFactor (d : Nat) : MOK (mu_X11_readFactor d) 1 := ⟨gw_1684, gw_171, (by decide +kernel : plainFor yX11_readFactor = true), ⟨(by decide +kernel : yX11_readFactor.cls ≠ "java/lang/invoke/MethodHandle"), (by decide +kernel : yX11_readFactor.cls ≠ "java/lang/invoke/VarHandle"), (by decide +kernel : (parseMethodDescriptor yX11_readFactor.desc).map (fun d => d.parameters.length) = some 1)⟩, Nat.le_of_ble_eq_true rfl⟩
noncomputable def j_X11_readFactor_134 (rec : Mem → Int32 → Option Mem) (σ2 : Mem) : Option Mem :=
  gF σ2 306 21 (fun (v3 : Int32) => pF σ2 306 23 v3 (fun (σ4 : Mem) => some σ4))
noncomputable def j_X11_readFactor_66 (rec : Mem → Int32 → Option Mem) (σ : Mem) (x0 : Int32) (v1 : Int32) : Option (Mem ⊕ Mem) :=
  if v1 = 82 then (gF σ 306 21 (fun (v6 : Int32) => pF σ 306 21 (v6 + 1) (fun (σ7 : Mem) => (f_X11_here σ7).bind (fun (v8 : Int32) => (f_X11_isDigit σ7 v8).bind (fun (b9 : Bool) => if b9 then (f_X11_here σ7).bind (fun (v10 : Int32) => (f_X11_laysRegister σ7 x0 (v10 - 48)).bind (fun (σ11 : Mem) => gF σ11 306 21 (fun (v12 : Int32) => pF σ11 306 21 (v12 + 1) (fun (σ13 : Mem) => some (Sum.inl σ13))))) else gF σ7 306 21 (fun (v14 : Int32) => (f_X11_errs σ7 1 v14).bind (fun (σ15 : Mem) => some (Sum.inr σ15)))))))) else ((o_X11_readOpen rec σ x0 v1).bind (fun (σ5 : Mem) => some (Sum.inl σ5)))
noncomputable def o_X11_readFactor (rec : Mem → Int32 → Option Mem) (σ : Mem) (x0 : Int32) : Option Mem :=
  (f_X11_here σ).bind (fun (v1 : Int32) => ((if v1 < 97 then (some (Sum.inl ())) else (if 102 < v1 then (some (Sum.inl ())) else ((f_X11_n σ).bind (fun (v16 : Int32) => if (v1 - 97) < v16 then ((f_X11_ones σ x0).bind (fun (σ17 : Mem) => (f_X11_puts σ17 x0 (v1 - 97) 1).bind (fun (σ18 : Mem) => gF σ18 306 21 (fun (v19 : Int32) => pF σ18 306 21 (v19 + 1) (fun (σ20 : Mem) => some (Sum.inr (Sum.inl σ20))))))) else (gF σ 306 21 (fun (v21 : Int32) => (f_X11_errs σ 3 v21).bind (fun (σ22 : Mem) => some (Sum.inr (Sum.inr σ22)))))))) : Option (Unit ⊕ (Mem ⊕ Mem))).bind (Sum.elim (fun (z4 : Unit) => j_X11_readFactor_66 rec σ x0 v1) some) : Option (Mem ⊕ Mem)).bind (Sum.elim (fun (z2 : Mem) => j_X11_readFactor_134 rec z2) some))
theorem t_X11_readFactor {w : Wd} (hw : WOK w) (hN : wn w = NT) {d : Nat} {rec : Mem → Int32 → Option Mem} (hrec : ∀ {τ0 : Mem} {y0 : Int32}, ∀ τ, rec τ0 y0 = some τ → MC w (mu_X11_readWord d) none [.ref (adr w 306), .int y0] τ0 τ) {σ : Mem} {x0 : Int32} : JO w (mu_X11_readFactor d) vV σ [(0, .ref (adr w 306)), (1, .int x0)] [] 0 (o_X11_readFactor rec σ x0) (fun z => some ((), z)) := by
  unfold o_X11_readFactor
  refine jo_aload_n (pc := 0) 0 rfl dX11_readFactor_0 rfl ?_
  refine jo_cV_I_p (pc := 1) (μ' := mu_X11_here) (fx := f_X11_here σ) (As := []) (c_X11_here hw hN) (ok_X11_here) (by simp only [mu_X11_readFactor, mu_X11_here]; omega) (all3 gw_1673 gw_1675 gw_112) (ik_306 hw hN) (by decide) (q := (RX11, TX11, 39)) rfl rfl rfl rfl (Nat.le_of_ble_eq_true rfl) dX11_readFactor_1 (fun v1 => ?_)
  refine jo_istore_n (pc := 4) (lv' := [(2, .int v1), (0, .ref (adr w 306)), (1, .int x0)]) dX11_readFactor_4 rfl (ltb rfl) rfl ?_
  refine jo_iload_n (pc := 5) 0 rfl dX11_readFactor_5 rfl ?_
  refine jo_bipush (pc := 6) dX11_readFactor_6 (ic_b_97) ?_
  refine jo_joinS (S := Mem) (fun (z2 : Mem) => z2) (fun (z2 : Mem) => [(0, .ref (adr w 306))]) (fun (z2 : Mem) => []) 134 ?_ (fun h134_2 => ?_)
  · intro σ2
    show JO w (mu_X11_readFactor d) vV σ2 [(0, .ref (adr w 306))] [] 134 (j_X11_readFactor_134 rec σ2) _
    unfold j_X11_readFactor_134
    refine jo_aload_n (pc := 134) 0 rfl dX11_readFactor_134 rfl ?_
    refine jo_aload_n (pc := 135) 0 rfl dX11_readFactor_135 rfl ?_
    refine jo_getf (pc := 136) ok_11_21 (ik_306 hw hN) gw_1314 dX11_readFactor_136 (fun v3 => ?_)
    refine jo_putf (pc := 139) ok_11_23 okp_11_23 (ik_306 hw hN) gw_1316 dX11_readFactor_139 (fun σ4 => ?_)
    exact jo_return (pc := 142) rfl rfl dX11_readFactor_142
  · refine jo_joinS (S := Unit) (fun (z4 : Unit) => σ) (fun (z4 : Unit) => [(2, .int v1), (0, .ref (adr w 306)), (1, .int x0)]) (fun (z4 : Unit) => []) 66 ?_ (fun h66_4 => ?_)
    · intro _
      show JO w (mu_X11_readFactor d) vV σ [(2, .int v1), (0, .ref (adr w 306)), (1, .int x0)] [] 66 (j_X11_readFactor_66 rec σ x0 v1) _
      unfold j_X11_readFactor_66
      refine jo_iload_n (pc := 66) 0 rfl dX11_readFactor_66 rfl ?_
      refine jo_bipush (pc := 67) dX11_readFactor_67 (ic_b_82) ?_
      refine jo_icmp_ne (pc := 69) dX11_readFactor_69 (tgt := 128) rfl ?_ ?_
      · refine jo_aload_n (pc := 128) 1 rfl dX11_readFactor_128 rfl ?_
        refine jo_iload_n (pc := 129) 2 rfl dX11_readFactor_129 rfl ?_
        refine jo_iload_n (pc := 130) 0 rfl dX11_readFactor_130 rfl ?_
        refine jo_cV_V_i (pc := 131) (μ' := (mu_X11_readOpen d)) (fx := o_X11_readOpen rec σ x0 v1) (As := [.int x0, .int v1]) (co_X11_readOpen hw hN hrec) (ok_X11_readOpen _) (by simp only [mu_X11_readFactor, mu_X11_readOpen]; omega) (all3 gw_1693 gw_1695 gw_117) (ik_306 hw hN) (by decide) (q := (RX11, TX11, 39)) rfl rfl rfl rfl (Nat.le_of_ble_eq_true rfl) dX11_readFactor_131 (fun σ5 => ?_)
        refine jo_lv (lv' := [(0, .ref (adr w 306))]) [1] rfl ?_
        exact jo_leaf (by rfl) (h134_2 σ5)
      · refine jo_aload_n (pc := 72) 1 rfl dX11_readFactor_72 rfl ?_
        refine jo_aload_n (pc := 73) 1 rfl dX11_readFactor_73 rfl ?_
        refine jo_getf (pc := 74) ok_11_21 (ik_306 hw hN) gw_1314 dX11_readFactor_74 (fun v6 => ?_)
        refine jo_iconst (pc := 77) dX11_readFactor_77 (ic_i_1) ?_
        refine jo_iadd (pc := 78) dX11_readFactor_78 ?_
        refine jo_putf (pc := 79) ok_11_21 okp_11_21 (ik_306 hw hN) gw_1314 dX11_readFactor_79 (fun σ7 => ?_)
        refine jo_aload_n (pc := 82) 1 rfl dX11_readFactor_82 rfl ?_
        refine jo_aload_n (pc := 83) 1 rfl dX11_readFactor_83 rfl ?_
        refine jo_cV_I_p (pc := 84) (μ' := mu_X11_here) (fx := f_X11_here σ7) (As := []) (c_X11_here hw hN) (ok_X11_here) (by simp only [mu_X11_readFactor, mu_X11_here]; omega) (all3 gw_1673 gw_1675 gw_112) (ik_306 hw hN) (by decide) (q := (RX11, TX11, 39)) rfl rfl rfl rfl (Nat.le_of_ble_eq_true rfl) dX11_readFactor_84 (fun v8 => ?_)
        refine jo_cV_Z_p (pc := 87) (μ' := mu_X11_isDigit) (fx := f_X11_isDigit σ7 v8) (As := [.int v8]) (c_X11_isDigit hw hN) (ok_X11_isDigit) (by simp only [mu_X11_readFactor, mu_X11_isDigit]; omega) (all3 gw_1689 gw_1691 gw_116) (ik_306 hw hN) (by decide) (q := (RX11, TX11, 39)) rfl rfl rfl rfl (Nat.le_of_ble_eq_true rfl) dX11_readFactor_87 (fun b9 => ?_)
        refine jo_ifz_ne (pc := 90) dX11_readFactor_90 (tgt := 103) rfl ?_ ?_
        · refine jo_aload_n (pc := 103) 1 rfl dX11_readFactor_103 rfl ?_
          refine jo_iload_n (pc := 104) 2 rfl dX11_readFactor_104 rfl ?_
          refine jo_aload_n (pc := 105) 1 rfl dX11_readFactor_105 rfl ?_
          refine jo_cV_I_p (pc := 106) (μ' := mu_X11_here) (fx := f_X11_here σ7) (As := []) (c_X11_here hw hN) (ok_X11_here) (by simp only [mu_X11_readFactor, mu_X11_here]; omega) (all3 gw_1673 gw_1675 gw_112) (ik_306 hw hN) (by decide) (q := (RX11, TX11, 39)) rfl rfl rfl rfl (Nat.le_of_ble_eq_true rfl) dX11_readFactor_106 (fun v10 => ?_)
          refine jo_bipush (pc := 109) dX11_readFactor_109 (ic_b_48) ?_
          refine jo_isub (pc := 111) dX11_readFactor_111 ?_
          refine jo_cV_V_i (pc := 112) (μ' := mu_X11_laysRegister) (fx := f_X11_laysRegister σ7 x0 (v10 - 48)) (As := [.int x0, .int (v10 - 48)]) (c_X11_laysRegister hw hN) (ok_X11_laysRegister) (by simp only [mu_X11_readFactor, mu_X11_laysRegister]; omega) (all3 gw_1559 gw_1561 gw_94) (ik_306 hw hN) (by decide) (q := (RX11, TX11, 39)) rfl rfl rfl rfl (Nat.le_of_ble_eq_true rfl) dX11_readFactor_112 (fun σ11 => ?_)
          refine jo_aload_n (pc := 115) 1 rfl dX11_readFactor_115 rfl ?_
          refine jo_aload_n (pc := 116) 1 rfl dX11_readFactor_116 rfl ?_
          refine jo_getf (pc := 117) ok_11_21 (ik_306 hw hN) gw_1314 dX11_readFactor_117 (fun v12 => ?_)
          refine jo_iconst (pc := 120) dX11_readFactor_120 (ic_i_1) ?_
          refine jo_iadd (pc := 121) dX11_readFactor_121 ?_
          refine jo_putf (pc := 122) ok_11_21 okp_11_21 (ik_306 hw hN) gw_1314 dX11_readFactor_122 (fun σ13 => ?_)
          refine jo_goto (pc := 125) dX11_readFactor_125 (tgt := 134) rfl ?_
          refine jo_lv (lv' := [(0, .ref (adr w 306))]) [1] rfl ?_
          exact jo_leaf (by rfl) (h134_2 σ13)
        · refine jo_aload_n (pc := 93) 1 rfl dX11_readFactor_93 rfl ?_
          refine jo_iconst (pc := 94) dX11_readFactor_94 (ic_i_1) ?_
          refine jo_aload_n (pc := 95) 1 rfl dX11_readFactor_95 rfl ?_
          refine jo_getf (pc := 96) ok_11_21 (ik_306 hw hN) gw_1314 dX11_readFactor_96 (fun v14 => ?_)
          refine jo_cV_V_i (pc := 99) (μ' := mu_X11_errs) (fx := f_X11_errs σ7 1 v14) (As := [.int 1, .int v14]) (c_X11_errs hw hN) (ok_X11_errs) (by simp only [mu_X11_readFactor, mu_X11_errs]; omega) (all3 gw_1685 gw_1687 gw_115) (ik_306 hw hN) (by decide) (q := (RX11, TX11, 39)) rfl rfl rfl rfl (Nat.le_of_ble_eq_true rfl) dX11_readFactor_99 (fun σ15 => ?_)
          exact jo_return (pc := 102) rfl rfl dX11_readFactor_102
    · refine jo_icmp_lt (pc := 8) dX11_readFactor_8 (tgt := 66) rfl ?_ ?_
      · exact jo_leaf (by rfl) (h66_4 ())
      · refine jo_iload_n (pc := 11) 0 rfl dX11_readFactor_11 rfl ?_
        refine jo_bipush (pc := 12) dX11_readFactor_12 (ic_b_102) ?_
        refine jo_icmp_gt (pc := 14) dX11_readFactor_14 (tgt := 66) rfl ?_ ?_
        · exact jo_leaf (by rfl) (h66_4 ())
        · refine jo_iload_n (pc := 17) 0 rfl dX11_readFactor_17 rfl ?_
          refine jo_bipush (pc := 18) dX11_readFactor_18 (ic_b_97) ?_
          refine jo_isub (pc := 20) dX11_readFactor_20 ?_
          refine jo_aload_n (pc := 21) 1 rfl dX11_readFactor_21 rfl ?_
          refine jo_cV_I_p (pc := 22) (μ' := mu_X11_n) (fx := f_X11_n σ) (As := []) (c_X11_n hw hN) (ok_X11_n) (by simp only [mu_X11_readFactor, mu_X11_n]; omega) (all3 gw_1441 gw_1443 gw_68) (ik_306 hw hN) (by decide) (q := (RX11, TX11, 39)) rfl rfl rfl rfl (Nat.le_of_ble_eq_true rfl) dX11_readFactor_22 (fun v16 => ?_)
          refine jo_icmp_lt (pc := 25) dX11_readFactor_25 (tgt := 38) rfl ?_ ?_
          · refine jo_aload_n (pc := 38) 1 rfl dX11_readFactor_38 rfl ?_
            refine jo_iload_n (pc := 39) 2 rfl dX11_readFactor_39 rfl ?_
            refine jo_cV_V_i (pc := 40) (μ' := mu_X11_ones) (fx := f_X11_ones σ x0) (As := [.int x0]) (c_X11_ones hw hN) (ok_X11_ones) (by simp only [mu_X11_readFactor, mu_X11_ones]; omega) (all3 gw_1587 gw_1589 gw_99) (ik_306 hw hN) (by decide) (q := (RX11, TX11, 39)) rfl rfl rfl rfl (Nat.le_of_ble_eq_true rfl) dX11_readFactor_40 (fun σ17 => ?_)
            refine jo_aload_n (pc := 43) 1 rfl dX11_readFactor_43 rfl ?_
            refine jo_iload_n (pc := 44) 2 rfl dX11_readFactor_44 rfl ?_
            refine jo_iload_n (pc := 45) 0 rfl dX11_readFactor_45 rfl ?_
            refine jo_bipush (pc := 46) dX11_readFactor_46 (ic_b_97) ?_
            refine jo_isub (pc := 48) dX11_readFactor_48 ?_
            refine jo_lconst (pc := 49) dX11_readFactor_49 (ic_l_1) ?_
            refine jo_cV_V_i (pc := 50) (μ' := mu_X11_puts) (fx := f_X11_puts σ17 x0 (v1 - 97) 1) (As := [.int x0, .int (v1 - 97), .long 1]) (c_X11_puts hw hN) (ok_X11_puts) (by simp only [mu_X11_readFactor, mu_X11_puts]; omega) (all3 gw_1519 gw_1521 gw_85) (ik_306 hw hN) (by decide) (q := (RX11, TX11, 39)) rfl rfl rfl rfl (Nat.le_of_ble_eq_true rfl) dX11_readFactor_50 (fun σ18 => ?_)
            refine jo_aload_n (pc := 53) 1 rfl dX11_readFactor_53 rfl ?_
            refine jo_aload_n (pc := 54) 1 rfl dX11_readFactor_54 rfl ?_
            refine jo_getf (pc := 55) ok_11_21 (ik_306 hw hN) gw_1314 dX11_readFactor_55 (fun v19 => ?_)
            refine jo_iconst (pc := 58) dX11_readFactor_58 (ic_i_1) ?_
            refine jo_iadd (pc := 59) dX11_readFactor_59 ?_
            refine jo_putf (pc := 60) ok_11_21 okp_11_21 (ik_306 hw hN) gw_1314 dX11_readFactor_60 (fun σ20 => ?_)
            refine jo_goto (pc := 63) dX11_readFactor_63 (tgt := 134) rfl ?_
            refine jo_lv (lv' := [(0, .ref (adr w 306))]) [1] rfl ?_
            exact jo_leaf (by rfl) (h134_2 σ20)
          · refine jo_aload_n (pc := 28) 1 rfl dX11_readFactor_28 rfl ?_
            refine jo_iconst (pc := 29) dX11_readFactor_29 (ic_i_3) ?_
            refine jo_aload_n (pc := 30) 1 rfl dX11_readFactor_30 rfl ?_
            refine jo_getf (pc := 31) ok_11_21 (ik_306 hw hN) gw_1314 dX11_readFactor_31 (fun v21 => ?_)
            refine jo_cV_V_i (pc := 34) (μ' := mu_X11_errs) (fx := f_X11_errs σ 3 v21) (As := [.int 3, .int v21]) (c_X11_errs hw hN) (ok_X11_errs) (by simp only [mu_X11_readFactor, mu_X11_errs]; omega) (all3 gw_1685 gw_1687 gw_115) (ik_306 hw hN) (by decide) (q := (RX11, TX11, 39)) rfl rfl rfl rfl (Nat.le_of_ble_eq_true rfl) dX11_readFactor_34 (fun σ22 => ?_)
            exact jo_return (pc := 37) rfl rfl dX11_readFactor_37
theorem co_X11_readFactor {w : Wd} (hw : WOK w) (hN : wn w = NT) {d : Nat} {rec : Mem → Int32 → Option Mem} (hrec : ∀ {τ0 : Mem} {y0 : Int32}, ∀ τ, rec τ0 y0 = some τ → MC w (mu_X11_readWord d) none [.ref (adr w 306), .int y0] τ0 τ) {σ : Mem} {x0 : Int32} : ∀ σ', o_X11_readFactor rec σ x0 = some σ' → MC w (mu_X11_readFactor d) none [.ref (adr w 306), .int x0] σ σ' := mc_ofV (ok_X11_readFactor _) rfl (Nat.le_of_ble_eq_true rfl) (t_X11_readFactor hw hN hrec)
noncomputable def l_X11_readWord_5 (rec : Mem → Int32 → Option Mem) (x0 : Int32) (σ2 : Mem) : Option (Mem ⊕ Mem) :=
  (f_X11_isWrong σ2).bind (fun (b3 : Bool) => if b3 then some (Sum.inr σ2) else bq (f_X11_behindBlanks σ2) (fun (v4 : Int32) (σ5 : Mem) => (f_X11_isFactor σ5 v4).bind (fun (b6 : Bool) => if b6 then (o_X11_readFactor rec σ5 (x0 + 1)).bind (fun (σ7 : Mem) => (f_X11_readPower σ7 (x0 + 1)).bind (fun (σ8 : Mem) => (f_X11_isWrong σ8).bind (fun (b9 : Bool) => if b9 then some (Sum.inr σ8) else (f_X11_times σ8 x0 (x0 + 1)).bind (fun (σ10 : Mem) => (f_X11_checks σ10 x0).bind (fun (σ11 : Mem) => some (Sum.inl σ11)))))) else some (Sum.inr σ5))))
noncomputable def o_X11_readWord (rec : Mem → Int32 → Option Mem) (σ : Mem) (x0 : Int32) : Option Mem :=
  (f_X11_ones σ x0).bind (fun (σ1 : Mem) => loopO (fun (z2 : Mem) => l_X11_readWord_5 rec x0 z2) σ1)
theorem t_X11_readWord {w : Wd} (hw : WOK w) (hN : wn w = NT) {d : Nat} {rec : Mem → Int32 → Option Mem} (hrec : ∀ {τ0 : Mem} {y0 : Int32}, ∀ τ, rec τ0 y0 = some τ → MC w (mu_X11_readWord d) none [.ref (adr w 306), .int y0] τ0 τ) {σ : Mem} {x0 : Int32} : JO w (mu_X11_readWord (d + 4)) vV σ [(0, .ref (adr w 306)), (1, .int x0)] [] 0 (o_X11_readWord rec σ x0) (fun z => some ((), z)) := by
  unfold o_X11_readWord
  refine jo_aload_n (pc := 0) 0 rfl dX11_readWord_0 rfl ?_
  refine jo_iload_n (pc := 1) 1 rfl dX11_readWord_1 rfl ?_
  refine jo_cV_V_i (pc := 2) (μ' := mu_X11_ones) (fx := f_X11_ones σ x0) (As := [.int x0]) (c_X11_ones hw hN) (ok_X11_ones) (by simp only [mu_X11_readWord, mu_X11_ones]; omega) (all3 gw_1587 gw_1589 gw_99) (ik_306 hw hN) (by decide) (q := (RX11, TX11, 39)) rfl rfl rfl rfl (Nat.le_of_ble_eq_true rfl) dX11_readWord_2 (fun σ1 => ?_)
  refine jo_loop (X := Mem) (fun (z2 : Mem) => z2) (fun (z2 : Mem) => [(0, .ref (adr w 306)), (1, .int x0)]) (body := (fun (z2 : Mem) => l_X11_readWord_5 rec x0 z2)) (fun F5_2 hF5_2 s => ?_) σ1
  revert s; intro σ2
  show JO w (mu_X11_readWord (d + 4)) vV σ2 [(0, .ref (adr w 306)), (1, .int x0)] [] 5 (l_X11_readWord_5 rec x0 σ2) _
  unfold l_X11_readWord_5
  refine jo_aload_n (pc := 5) 0 rfl dX11_readWord_5 rfl ?_
  refine jo_cV_Z_p (pc := 6) (μ' := mu_X11_isWrong) (fx := f_X11_isWrong σ2) (As := []) (c_X11_isWrong hw hN) (ok_X11_isWrong) (by simp only [mu_X11_readWord, mu_X11_isWrong]; omega) (all3 gw_1665 gw_1667 gw_110) (ik_306 hw hN) (by decide) (q := (RX11, TX11, 39)) rfl rfl rfl rfl (Nat.le_of_ble_eq_true rfl) dX11_readWord_6 (fun b3 => ?_)
  refine jo_ifz_ne (pc := 9) dX11_readWord_9 (tgt := 61) rfl ?_ ?_
  · exact jo_return (pc := 61) rfl rfl dX11_readWord_61
  · refine jo_aload_n (pc := 12) 0 rfl dX11_readWord_12 rfl ?_
    refine jo_aload_n (pc := 13) 0 rfl dX11_readWord_13 rfl ?_
    refine jo_cV_I_i (pc := 14) (μ' := mu_X11_behindBlanks) (fx := f_X11_behindBlanks σ2) (As := []) (c_X11_behindBlanks hw hN) (ok_X11_behindBlanks) (by simp only [mu_X11_readWord, mu_X11_behindBlanks]; omega) (all3 gw_1669 gw_1671 gw_111) (ik_306 hw hN) (by decide) (q := (RX11, TX11, 39)) rfl rfl rfl rfl (Nat.le_of_ble_eq_true rfl) dX11_readWord_14 (fun v4 σ5 => ?_)
    refine jo_cV_Z_p (pc := 17) (μ' := mu_X11_isFactor) (fx := f_X11_isFactor σ5 v4) (As := [.int v4]) (c_X11_isFactor hw hN) (ok_X11_isFactor) (by simp only [mu_X11_readWord, mu_X11_isFactor]; omega) (all3 gw_1677 gw_1679 gw_113) (ik_306 hw hN) (by decide) (q := (RX11, TX11, 39)) rfl rfl rfl rfl (Nat.le_of_ble_eq_true rfl) dX11_readWord_17 (fun b6 => ?_)
    refine jo_ifz_eq (pc := 20) dX11_readWord_20 (tgt := 61) rfl ?_ ?_
    · exact jo_return (pc := 61) rfl rfl dX11_readWord_61
    · refine jo_aload_n (pc := 23) 0 rfl dX11_readWord_23 rfl ?_
      refine jo_iload_n (pc := 24) 1 rfl dX11_readWord_24 rfl ?_
      refine jo_iconst (pc := 25) dX11_readWord_25 (ic_i_1) ?_
      refine jo_iadd (pc := 26) dX11_readWord_26 ?_
      refine jo_cV_V_i (pc := 27) (μ' := (mu_X11_readFactor d)) (fx := o_X11_readFactor rec σ5 (x0 + 1)) (As := [.int (x0 + 1)]) (co_X11_readFactor hw hN hrec) (ok_X11_readFactor _) (by simp only [mu_X11_readWord, mu_X11_readFactor]; omega) (all3 gw_1681 gw_1683 gw_114) (ik_306 hw hN) (by decide) (q := (RX11, TX11, 39)) rfl rfl rfl rfl (Nat.le_of_ble_eq_true rfl) dX11_readWord_27 (fun σ7 => ?_)
      refine jo_aload_n (pc := 30) 0 rfl dX11_readWord_30 rfl ?_
      refine jo_iload_n (pc := 31) 1 rfl dX11_readWord_31 rfl ?_
      refine jo_iconst (pc := 32) dX11_readWord_32 (ic_i_1) ?_
      refine jo_iadd (pc := 33) dX11_readWord_33 ?_
      refine jo_cV_V_i (pc := 34) (μ' := mu_X11_readPower) (fx := f_X11_readPower σ7 (x0 + 1)) (As := [.int (x0 + 1)]) (c_X11_readPower hw hN) (ok_X11_readPower) (by simp only [mu_X11_readWord, mu_X11_readPower]; omega) (all3 gw_1709 gw_1711 gw_121) (ik_306 hw hN) (by decide) (q := (RX11, TX11, 39)) rfl rfl rfl rfl (Nat.le_of_ble_eq_true rfl) dX11_readWord_34 (fun σ8 => ?_)
      refine jo_aload_n (pc := 37) 0 rfl dX11_readWord_37 rfl ?_
      refine jo_cV_Z_p (pc := 38) (μ' := mu_X11_isWrong) (fx := f_X11_isWrong σ8) (As := []) (c_X11_isWrong hw hN) (ok_X11_isWrong) (by simp only [mu_X11_readWord, mu_X11_isWrong]; omega) (all3 gw_1665 gw_1667 gw_110) (ik_306 hw hN) (by decide) (q := (RX11, TX11, 39)) rfl rfl rfl rfl (Nat.le_of_ble_eq_true rfl) dX11_readWord_38 (fun b9 => ?_)
      refine jo_ifz_eq (pc := 41) dX11_readWord_41 (tgt := 45) rfl ?_ ?_
      · refine jo_aload_n (pc := 45) 0 rfl dX11_readWord_45 rfl ?_
        refine jo_iload_n (pc := 46) 1 rfl dX11_readWord_46 rfl ?_
        refine jo_iload_n (pc := 47) 1 rfl dX11_readWord_47 rfl ?_
        refine jo_iconst (pc := 48) dX11_readWord_48 (ic_i_1) ?_
        refine jo_iadd (pc := 49) dX11_readWord_49 ?_
        refine jo_cV_V_i (pc := 50) (μ' := mu_X11_times) (fx := f_X11_times σ8 x0 (x0 + 1)) (As := [.int x0, .int (x0 + 1)]) (c_X11_times hw hN) (ok_X11_times) (by simp only [mu_X11_readWord, mu_X11_times]; omega) (all3 gw_1523 gw_1525 gw_86) (ik_306 hw hN) (by decide) (q := (RX11, TX11, 39)) rfl rfl rfl rfl (Nat.le_of_ble_eq_true rfl) dX11_readWord_50 (fun σ10 => ?_)
        refine jo_aload_n (pc := 53) 0 rfl dX11_readWord_53 rfl ?_
        refine jo_iload_n (pc := 54) 1 rfl dX11_readWord_54 rfl ?_
        refine jo_cV_V_i (pc := 55) (μ' := mu_X11_checks) (fx := f_X11_checks σ10 x0) (As := [.int x0]) (c_X11_checks hw hN) (ok_X11_checks) (by simp only [mu_X11_readWord, mu_X11_checks]; omega) (all3 gw_1705 gw_1707 gw_120) (ik_306 hw hN) (by decide) (q := (RX11, TX11, 39)) rfl rfl rfl rfl (Nat.le_of_ble_eq_true rfl) dX11_readWord_55 (fun σ11 => ?_)
        refine jo_goto (pc := 58) dX11_readWord_58 (tgt := 5) rfl ?_
        exact jo_leaf (by rfl) (hF5_2 σ11)
      · exact jo_return (pc := 44) rfl rfl dX11_readWord_44
theorem co_X11_readWord {w : Wd} (hw : WOK w) (hN : wn w = NT) {d : Nat} {rec : Mem → Int32 → Option Mem} (hrec : ∀ {τ0 : Mem} {y0 : Int32}, ∀ τ, rec τ0 y0 = some τ → MC w (mu_X11_readWord d) none [.ref (adr w 306), .int y0] τ0 τ) {σ : Mem} {x0 : Int32} : ∀ σ', o_X11_readWord rec σ x0 = some σ' → MC w (mu_X11_readWord (d + 4)) none [.ref (adr w 306), .int x0] σ σ' := mc_ofV (ok_X11_readWord _) rfl (Nat.le_of_ble_eq_true rfl) (t_X11_readWord hw hN hrec)
noncomputable def f_X11_readWord : Nat → Mem → Int32 → Option Mem
  | 0 => fun _ _ => none
  | n + 1 => fun σ x0 => o_X11_readWord (f_X11_readWord n) σ x0
theorem c_X11_readWord (n : Nat) {w : Wd} (hw : WOK w) (hN : wn w = NT) {σ : Mem} {x0 : Int32} : ∀ σ', f_X11_readWord n σ x0 = some σ' → MC w (mu_X11_readWord (4 * n)) none [.ref (adr w 306), .int x0] σ σ' := by
  induction n generalizing σ x0 with
  | zero => intro σ' h; cases h
  | succ n ih => exact co_X11_readWord hw hN (rec := f_X11_readWord n) (d := 4 * n) ih
end
section
abbrev mu_X11_text : MD := (yX11_text, cX11_text, 2, some .boolean, 88)
theorem ok_X11_text : MOK mu_X11_text 1 := ⟨gw_1660, gw_171, (by decide +kernel : plainFor yX11_text = true), ⟨(by decide +kernel : yX11_text.cls ≠ "java/lang/invoke/MethodHandle"), (by decide +kernel : yX11_text.cls ≠ "java/lang/invoke/VarHandle"), (by decide +kernel : (parseMethodDescriptor yX11_text.desc).map (fun d => d.parameters.length) = some 1)⟩, Nat.le_of_ble_eq_true rfl⟩
noncomputable def j_X11_text_165 (σ20 : Mem) : Option (Bool × Mem) :=
  some (false, σ20)
noncomputable def j_X11_text_144 (x0 : Int32) (σ18 : Mem) : Option (Bool × Mem) :=
  (f_X11_isWrong σ18).bind (fun (b19 : Bool) => (if b19 then some (Sum.inl σ18) else bq (f_X11_gives σ18 x0 10) (fun (b21 : Bool) (σ22 : Mem) => if b21 then some (Sum.inr (true, σ22)) else some (Sum.inl σ22)) : Option (Mem ⊕ (Bool × Mem))).bind (Sum.elim (fun (z20 : Mem) => j_X11_text_165 z20) some))
noncomputable def j_X11_text_121 (σ16 : Mem) : Option Mem :=
  pF σ16 306 19 5 (fun (σ24 : Mem) => gF σ24 306 24 (fun (v25 : Int32) => pF σ24 306 20 v25 (fun (σ26 : Mem) => gF σ26 306 4 (fun (v27 : Int32) => pF σ26 306 4 (v27 + 1) (fun (σ28 : Mem) => some σ28)))))
noncomputable def j_X11_text_95 (x0 : Int32) (σ16 : Mem) : Option (Bool × Mem) :=
  gF σ16 306 24 (fun (v17 : Int32) => (if v17 = (-1) then (some σ16) else ((f_X11_isWrong σ16).bind (fun (b23 : Bool) => (if b23 then gF σ16 306 20 (fun (v29 : Int32) => gF σ16 306 24 (fun (v30 : Int32) => if v29 < v30 then (some (Sum.inr σ16)) else (some (Sum.inl ())))) else some (Sum.inl ()) : Option (Unit ⊕ Mem)).bind (Sum.elim (fun (z23 : Unit) => j_X11_text_121 σ16) some))) : Option Mem).bind (fun (z18 : Mem) => j_X11_text_144 x0 z18))
noncomputable def f_X11_text (σ : Mem) (x0 : Int32) : Option (Bool × Mem) :=
  pF σ 306 0 0 (fun (σ1 : Mem) => pF σ1 306 21 0 (fun (σ2 : Mem) => gF σ2 306 18 (fun (v3 : Int32) => pF σ2 306 22 v3 (fun (σ4 : Mem) => pF σ4 306 18 0 (fun (σ5 : Mem) => pF σ5 306 19 0 (fun (σ6 : Mem) => pF σ6 306 20 (-1) (fun (σ7 : Mem) => pF σ7 306 24 (-1) (fun (σ8 : Mem) => pF σ8 306 25 0 (fun (σ9 : Mem) => pF σ9 306 23 0 (fun (σ10 : Mem) => (f_X11_isRegister σ10 x0).bind (fun (b11 : Bool) => if b11 then bq (f_X11_isConsistent σ10) (fun (b12 : Bool) (σ13 : Mem) => if b12 then (f_X11_readWord 20 σ13 10).bind (fun (σ14 : Mem) => (f_X11_isWrong σ14).bind (fun (b15 : Bool) => (if b15 then some σ14 else bq (f_X11_behindBlanks σ14) (fun (v31 : Int32) (σ32 : Mem) => if v31 = (-1) then (some σ32) else (gF σ32 306 21 (fun (v33 : Int32) => (f_X11_errs σ32 1 v33).bind (fun (σ34 : Mem) => some σ34)))) : Option Mem).bind (fun (z16 : Mem) => j_X11_text_95 x0 z16))) else some (false, σ13)) else some (false, σ10))))))))))))
theorem t_X11_text {w : Wd} (hw : WOK w) (hN : wn w = NT) {σ : Mem} {x0 : Int32} : JO w mu_X11_text vB σ [(0, .ref (adr w 306)), (1, .int x0)] [] 0 (f_X11_text σ x0) some := by
  unfold f_X11_text
  refine jo_aload_n (pc := 0) 0 rfl dX11_text_0 rfl ?_
  refine jo_iconst (pc := 1) dX11_text_1 (ic_i_0) ?_
  refine jo_putf (pc := 2) ok_11_0 okp_11_0 (ik_306 hw hN) gw_1293 dX11_text_2 (fun σ1 => ?_)
  refine jo_aload_n (pc := 5) 0 rfl dX11_text_5 rfl ?_
  refine jo_iconst (pc := 6) dX11_text_6 (ic_i_0) ?_
  refine jo_putf (pc := 7) ok_11_21 okp_11_21 (ik_306 hw hN) gw_1314 dX11_text_7 (fun σ2 => ?_)
  refine jo_aload_n (pc := 10) 0 rfl dX11_text_10 rfl ?_
  refine jo_aload_n (pc := 11) 0 rfl dX11_text_11 rfl ?_
  refine jo_getf (pc := 12) ok_11_18 (ik_306 hw hN) gw_1311 dX11_text_12 (fun v3 => ?_)
  refine jo_putf (pc := 15) ok_11_22 okp_11_22 (ik_306 hw hN) gw_1315 dX11_text_15 (fun σ4 => ?_)
  refine jo_aload_n (pc := 18) 0 rfl dX11_text_18 rfl ?_
  refine jo_iconst (pc := 19) dX11_text_19 (ic_i_0) ?_
  refine jo_putf (pc := 20) ok_11_18 okp_11_18 (ik_306 hw hN) gw_1311 dX11_text_20 (fun σ5 => ?_)
  refine jo_aload_n (pc := 23) 0 rfl dX11_text_23 rfl ?_
  refine jo_iconst (pc := 24) dX11_text_24 (ic_i_0) ?_
  refine jo_putf (pc := 25) ok_11_19 okp_11_19 (ik_306 hw hN) gw_1312 dX11_text_25 (fun σ6 => ?_)
  refine jo_aload_n (pc := 28) 0 rfl dX11_text_28 rfl ?_
  refine jo_iconst (pc := 29) dX11_text_29 (ic_i_m1) ?_
  refine jo_putf (pc := 30) ok_11_20 okp_11_20 (ik_306 hw hN) gw_1313 dX11_text_30 (fun σ7 => ?_)
  refine jo_aload_n (pc := 33) 0 rfl dX11_text_33 rfl ?_
  refine jo_iconst (pc := 34) dX11_text_34 (ic_i_m1) ?_
  refine jo_putf (pc := 35) ok_11_24 okp_11_24 (ik_306 hw hN) gw_1317 dX11_text_35 (fun σ8 => ?_)
  refine jo_aload_n (pc := 38) 0 rfl dX11_text_38 rfl ?_
  refine jo_iconst (pc := 39) dX11_text_39 (ic_i_0) ?_
  refine jo_putf (pc := 40) ok_11_25 okp_11_25 (ik_306 hw hN) gw_1318 dX11_text_40 (fun σ9 => ?_)
  refine jo_aload_n (pc := 43) 0 rfl dX11_text_43 rfl ?_
  refine jo_iconst (pc := 44) dX11_text_44 (ic_i_0) ?_
  refine jo_putf (pc := 45) ok_11_23 okp_11_23 (ik_306 hw hN) gw_1316 dX11_text_45 (fun σ10 => ?_)
  refine jo_aload_n (pc := 48) 0 rfl dX11_text_48 rfl ?_
  refine jo_iload_n (pc := 49) 1 rfl dX11_text_49 rfl ?_
  refine jo_cV_Z_p (pc := 50) (μ' := mu_X11_isRegister) (fx := f_X11_isRegister σ10 x0) (As := [.int x0]) (c_X11_isRegister hw hN) (ok_X11_isRegister) (ltb rfl) (all3 gw_1470 gw_1472 gw_73) (ik_306 hw hN) (by decide) (q := (RX11, TX11, 39)) rfl rfl rfl rfl (Nat.le_of_ble_eq_true rfl) dX11_text_50 (fun b11 => ?_)
  refine jo_ifz_eq (pc := 53) dX11_text_53 (tgt := 63) rfl ?_ ?_
  · refine jo_iconst (pc := 63) dX11_text_63 (ic_i_0) ?_
    exact jo_breturn (pc := 64) (b := false) rfl rfl dX11_text_64
  · refine jo_aload_n (pc := 56) 0 rfl dX11_text_56 rfl ?_
    refine jo_cV_Z_i (pc := 57) (μ' := mu_X11_isConsistent) (fx := f_X11_isConsistent σ10) (As := []) (c_X11_isConsistent hw hN) (ok_X11_isConsistent) (ltb rfl) (all3 gw_1475 gw_1477 gw_74) (ik_306 hw hN) (by decide) (q := (RX11, TX11, 39)) rfl rfl rfl rfl (Nat.le_of_ble_eq_true rfl) dX11_text_57 (fun b12 σ13 => ?_)
    refine jo_ifz_ne (pc := 60) dX11_text_60 (tgt := 65) rfl ?_ ?_
    · refine jo_aload_n (pc := 65) 0 rfl dX11_text_65 rfl ?_
      refine jo_bipush (pc := 66) dX11_text_66 (ic_b_10) ?_
      refine jo_cV_V_i (pc := 68) (μ' := (mu_X11_readWord 80)) (fx := f_X11_readWord 20 σ13 10) (As := [.int 10]) (c_X11_readWord 20 hw hN) (ok_X11_readWord _) (ltb rfl) (all3 gw_1661 gw_1663 gw_109) (ik_306 hw hN) (by decide) (q := (RX11, TX11, 39)) rfl rfl rfl rfl (Nat.le_of_ble_eq_true rfl) dX11_text_68 (fun σ14 => ?_)
      refine jo_aload_n (pc := 71) 0 rfl dX11_text_71 rfl ?_
      refine jo_cV_Z_p (pc := 72) (μ' := mu_X11_isWrong) (fx := f_X11_isWrong σ14) (As := []) (c_X11_isWrong hw hN) (ok_X11_isWrong) (ltb rfl) (all3 gw_1665 gw_1667 gw_110) (ik_306 hw hN) (by decide) (q := (RX11, TX11, 39)) rfl rfl rfl rfl (Nat.le_of_ble_eq_true rfl) dX11_text_72 (fun b15 => ?_)
      refine jo_join1 (S := Mem) (fun (z16 : Mem) => z16) (fun (z16 : Mem) => [(0, .ref (adr w 306)), (1, .int x0)]) (fun (z16 : Mem) => []) 95 ?_ (fun h95_16 => ?_)
      · intro σ16
        show JO w mu_X11_text vB σ16 [(0, .ref (adr w 306)), (1, .int x0)] [] 95 (j_X11_text_95 x0 σ16) _
        unfold j_X11_text_95
        refine jo_aload_n (pc := 95) 0 rfl dX11_text_95 rfl ?_
        refine jo_getf (pc := 96) ok_11_24 (ik_306 hw hN) gw_1317 dX11_text_96 (fun v17 => ?_)
        refine jo_iconst (pc := 99) dX11_text_99 (ic_i_m1) ?_
        refine jo_join1 (S := Mem) (fun (z18 : Mem) => z18) (fun (z18 : Mem) => [(0, .ref (adr w 306)), (1, .int x0)]) (fun (z18 : Mem) => []) 144 ?_ (fun h144_18 => ?_)
        · intro σ18
          show JO w mu_X11_text vB σ18 [(0, .ref (adr w 306)), (1, .int x0)] [] 144 (j_X11_text_144 x0 σ18) _
          unfold j_X11_text_144
          refine jo_aload_n (pc := 144) 0 rfl dX11_text_144 rfl ?_
          refine jo_cV_Z_p (pc := 145) (μ' := mu_X11_isWrong) (fx := f_X11_isWrong σ18) (As := []) (c_X11_isWrong hw hN) (ok_X11_isWrong) (ltb rfl) (all3 gw_1665 gw_1667 gw_110) (ik_306 hw hN) (by decide) (q := (RX11, TX11, 39)) rfl rfl rfl rfl (Nat.le_of_ble_eq_true rfl) dX11_text_145 (fun b19 => ?_)
          refine jo_joinS (S := Mem) (fun (z20 : Mem) => z20) (fun (z20 : Mem) => []) (fun (z20 : Mem) => []) 165 ?_ (fun h165_20 => ?_)
          · intro σ20
            show JO w mu_X11_text vB σ20 [] [] 165 (j_X11_text_165 σ20) _
            unfold j_X11_text_165
            refine jo_iconst (pc := 165) dX11_text_165 (ic_i_0) ?_
            exact jo_breturn (pc := 166) (b := false) rfl rfl dX11_text_166
          · refine jo_ifz_ne (pc := 148) dX11_text_148 (tgt := 165) rfl ?_ ?_
            · refine jo_lv (lv' := []) [] rfl ?_
              exact jo_leaf (by rfl) (h165_20 σ18)
            · refine jo_aload_n (pc := 151) 0 rfl dX11_text_151 rfl ?_
              refine jo_iload_n (pc := 152) 1 rfl dX11_text_152 rfl ?_
              refine jo_bipush (pc := 153) dX11_text_153 (ic_b_10) ?_
              refine jo_cV_Z_i (pc := 155) (μ' := mu_X11_gives) (fx := f_X11_gives σ18 x0 10) (As := [.int x0, .int 10]) (c_X11_gives hw hN) (ok_X11_gives) (ltb rfl) (all3 gw_1567 gw_1569 gw_96) (ik_306 hw hN) (by decide) (q := (RX11, TX11, 39)) rfl rfl rfl rfl (Nat.le_of_ble_eq_true rfl) dX11_text_155 (fun b21 σ22 => ?_)
              refine jo_ifz_eq (pc := 158) dX11_text_158 (tgt := 165) rfl ?_ ?_
              · refine jo_lv (lv' := []) [] rfl ?_
                exact jo_leaf (by rfl) (h165_20 σ22)
              · refine jo_iconst (pc := 161) dX11_text_161 (ic_i_1) ?_
                refine jo_goto (pc := 162) dX11_text_162 (tgt := 166) rfl ?_
                exact jo_breturn (pc := 166) (b := true) rfl rfl dX11_text_166
        · refine jo_icmp_eq (pc := 100) dX11_text_100 (tgt := 144) rfl ?_ ?_
          · exact jo_leaf (by rfl) (h144_18 σ16)
          · refine jo_aload_n (pc := 103) 0 rfl dX11_text_103 rfl ?_
            refine jo_cV_Z_p (pc := 104) (μ' := mu_X11_isWrong) (fx := f_X11_isWrong σ16) (As := []) (c_X11_isWrong hw hN) (ok_X11_isWrong) (ltb rfl) (all3 gw_1665 gw_1667 gw_110) (ik_306 hw hN) (by decide) (q := (RX11, TX11, 39)) rfl rfl rfl rfl (Nat.le_of_ble_eq_true rfl) dX11_text_104 (fun b23 => ?_)
            refine jo_joinS (S := Unit) (fun (z23 : Unit) => σ16) (fun (z23 : Unit) => [(0, .ref (adr w 306)), (1, .int x0)]) (fun (z23 : Unit) => []) 121 ?_ (fun h121_23 => ?_)
            · intro _
              show JO w mu_X11_text vB σ16 [(0, .ref (adr w 306)), (1, .int x0)] [] 121 (j_X11_text_121 σ16) _
              unfold j_X11_text_121
              refine jo_aload_n (pc := 121) 0 rfl dX11_text_121 rfl ?_
              refine jo_iconst (pc := 122) dX11_text_122 (ic_i_5) ?_
              refine jo_putf (pc := 123) ok_11_19 okp_11_19 (ik_306 hw hN) gw_1312 dX11_text_123 (fun σ24 => ?_)
              refine jo_aload_n (pc := 126) 0 rfl dX11_text_126 rfl ?_
              refine jo_aload_n (pc := 127) 0 rfl dX11_text_127 rfl ?_
              refine jo_getf (pc := 128) ok_11_24 (ik_306 hw hN) gw_1317 dX11_text_128 (fun v25 => ?_)
              refine jo_putf (pc := 131) ok_11_20 okp_11_20 (ik_306 hw hN) gw_1313 dX11_text_131 (fun σ26 => ?_)
              refine jo_aload_n (pc := 134) 0 rfl dX11_text_134 rfl ?_
              refine jo_aload_n (pc := 135) 0 rfl dX11_text_135 rfl ?_
              refine jo_getf (pc := 136) ok_11_4 (ik_306 hw hN) gw_1297 dX11_text_136 (fun v27 => ?_)
              refine jo_iconst (pc := 139) dX11_text_139 (ic_i_1) ?_
              refine jo_iadd (pc := 140) dX11_text_140 ?_
              refine jo_putf (pc := 141) ok_11_4 okp_11_4 (ik_306 hw hN) gw_1297 dX11_text_141 (fun σ28 => ?_)
              exact jo_leaf (by rfl) (h144_18 σ28)
            · refine jo_ifz_eq (pc := 107) dX11_text_107 (tgt := 121) rfl ?_ ?_
              · exact jo_leaf (by rfl) (h121_23 ())
              · refine jo_aload_n (pc := 110) 0 rfl dX11_text_110 rfl ?_
                refine jo_getf (pc := 111) ok_11_20 (ik_306 hw hN) gw_1313 dX11_text_111 (fun v29 => ?_)
                refine jo_aload_n (pc := 114) 0 rfl dX11_text_114 rfl ?_
                refine jo_getf (pc := 115) ok_11_24 (ik_306 hw hN) gw_1317 dX11_text_115 (fun v30 => ?_)
                refine jo_icmp_lt (pc := 118) dX11_text_118 (tgt := 144) rfl ?_ ?_
                · exact jo_leaf (by rfl) (h144_18 σ16)
                · exact jo_leaf (by rfl) (h121_23 ())
      · refine jo_ifz_ne (pc := 75) dX11_text_75 (tgt := 95) rfl ?_ ?_
        · exact jo_leaf (by rfl) (h95_16 σ14)
        · refine jo_aload_n (pc := 78) 0 rfl dX11_text_78 rfl ?_
          refine jo_cV_I_i (pc := 79) (μ' := mu_X11_behindBlanks) (fx := f_X11_behindBlanks σ14) (As := []) (c_X11_behindBlanks hw hN) (ok_X11_behindBlanks) (ltb rfl) (all3 gw_1669 gw_1671 gw_111) (ik_306 hw hN) (by decide) (q := (RX11, TX11, 39)) rfl rfl rfl rfl (Nat.le_of_ble_eq_true rfl) dX11_text_79 (fun v31 σ32 => ?_)
          refine jo_iconst (pc := 82) dX11_text_82 (ic_i_m1) ?_
          refine jo_icmp_eq (pc := 83) dX11_text_83 (tgt := 95) rfl ?_ ?_
          · exact jo_leaf (by rfl) (h95_16 σ32)
          · refine jo_aload_n (pc := 86) 0 rfl dX11_text_86 rfl ?_
            refine jo_iconst (pc := 87) dX11_text_87 (ic_i_1) ?_
            refine jo_aload_n (pc := 88) 0 rfl dX11_text_88 rfl ?_
            refine jo_getf (pc := 89) ok_11_21 (ik_306 hw hN) gw_1314 dX11_text_89 (fun v33 => ?_)
            refine jo_cV_V_i (pc := 92) (μ' := mu_X11_errs) (fx := f_X11_errs σ32 1 v33) (As := [.int 1, .int v33]) (c_X11_errs hw hN) (ok_X11_errs) (ltb rfl) (all3 gw_1685 gw_1687 gw_115) (ik_306 hw hN) (by decide) (q := (RX11, TX11, 39)) rfl rfl rfl rfl (Nat.le_of_ble_eq_true rfl) dX11_text_92 (fun σ34 => ?_)
            exact jo_leaf (by rfl) (h95_16 σ34)
    · refine jo_iconst (pc := 63) dX11_text_63 (ic_i_0) ?_
      exact jo_breturn (pc := 64) (b := false) rfl rfl dX11_text_64
theorem c_X11_text {w : Wd} (hw : WOK w) (hN : wn w = NT) {σ : Mem} {x0 : Int32} : ∀ r σ', f_X11_text σ x0 = some (r, σ') → MC w mu_X11_text (vB r) [.ref (adr w 306), .int x0] σ σ' := mc_of ok_X11_text rfl (Nat.le_of_ble_eq_true rfl) (t_X11_text hw hN)
abbrev mu_X11_fault : MD := (yX11_fault, cX11_fault, 2, some .int, 0)
theorem ok_X11_fault : MOK mu_X11_fault 1 := ⟨gw_1716, gw_171, (by decide +kernel : plainFor yX11_fault = true), ⟨(by decide +kernel : yX11_fault.cls ≠ "java/lang/invoke/MethodHandle"), (by decide +kernel : yX11_fault.cls ≠ "java/lang/invoke/VarHandle"), (by decide +kernel : (parseMethodDescriptor yX11_fault.desc).map (fun d => d.parameters.length) = some 1)⟩, Nat.le_of_ble_eq_true rfl⟩
noncomputable def f_X11_fault (σ : Mem) (x0 : Int32) : Option (Int32 × Mem) :=
  pF σ 306 0 0 (fun (σ1 : Mem) => if x0 = 0 then (gF σ1 306 19 (fun (v3 : Int32) => some (v3, σ1))) else (if x0 = 1 then (gF σ1 306 20 (fun (v2 : Int32) => some (v2, σ1))) else (some ((-1), σ1))))
theorem t_X11_fault {w : Wd} (hw : WOK w) (hN : wn w = NT) {σ : Mem} {x0 : Int32} : JO w mu_X11_fault vI σ [(0, .ref (adr w 306)), (1, .int x0)] [] 0 (f_X11_fault σ x0) some := by
  unfold f_X11_fault
  refine jo_aload_n (pc := 0) 0 rfl dX11_fault_0 rfl ?_
  refine jo_iconst (pc := 1) dX11_fault_1 (ic_i_0) ?_
  refine jo_putf (pc := 2) ok_11_0 okp_11_0 (ik_306 hw hN) gw_1293 dX11_fault_2 (fun σ1 => ?_)
  refine jo_iload_n (pc := 5) 1 rfl dX11_fault_5 rfl ?_
  refine jo_if_ne (pc := 6) dX11_fault_6 (tgt := 16) rfl ?_ ?_
  · refine jo_iload_n (pc := 16) 1 rfl dX11_fault_16 rfl ?_
    refine jo_iconst (pc := 17) dX11_fault_17 (ic_i_1) ?_
    refine jo_icmp_ne (pc := 18) dX11_fault_18 (tgt := 28) rfl ?_ ?_
    · refine jo_iconst (pc := 28) dX11_fault_28 (ic_i_m1) ?_
      exact jo_ireturn (pc := 29) rfl rfl dX11_fault_29
    · refine jo_aload_n (pc := 21) 0 rfl dX11_fault_21 rfl ?_
      refine jo_getf (pc := 22) ok_11_20 (ik_306 hw hN) gw_1313 dX11_fault_22 (fun v2 => ?_)
      refine jo_goto (pc := 25) dX11_fault_25 (tgt := 29) rfl ?_
      exact jo_ireturn (pc := 29) rfl rfl dX11_fault_29
  · refine jo_aload_n (pc := 9) 0 rfl dX11_fault_9 rfl ?_
    refine jo_getf (pc := 10) ok_11_19 (ik_306 hw hN) gw_1312 dX11_fault_10 (fun v3 => ?_)
    refine jo_goto (pc := 13) dX11_fault_13 (tgt := 29) rfl ?_
    exact jo_ireturn (pc := 29) rfl rfl dX11_fault_29
theorem c_X11_fault {w : Wd} (hw : WOK w) (hN : wn w = NT) {σ : Mem} {x0 : Int32} : ∀ r σ', f_X11_fault σ x0 = some (r, σ') → MC w mu_X11_fault (vI r) [.ref (adr w 306), .int x0] σ σ' := mc_of ok_X11_fault rfl (Nat.le_of_ble_eq_true rfl) (t_X11_fault hw hN)
abbrev mu_X11_collect : MD := (yX11_collect, cX11_collect, 3, some .int, 3)
theorem ok_X11_collect : MOK mu_X11_collect 0 := ⟨gw_1720, gw_171, (by decide +kernel : plainFor yX11_collect = true), ⟨(by decide +kernel : yX11_collect.cls ≠ "java/lang/invoke/MethodHandle"), (by decide +kernel : yX11_collect.cls ≠ "java/lang/invoke/VarHandle"), (by decide +kernel : (parseMethodDescriptor yX11_collect.desc).map (fun d => d.parameters.length) = some 0)⟩, Nat.le_of_ble_eq_true rfl⟩
noncomputable def j_X11_collect_146 (σ11 : Mem) : Option (Int32 × Mem) :=
  gF σ11 306 7 (fun (v12 : Int32) => some (v12, σ11))
noncomputable def l_X11_collect_121 (σ13 : Mem) (i14 : Int32) : Option ((Mem × Int32) ⊕ Mem) :=
  (f_X11_n σ13).bind (fun (v15 : Int32) => if v15 ≤ i14 then (some (Sum.inr σ13)) else ((f_X11_letters σ13 i14).bind (fun (v16 : Int32) => pI σ13 318 i14 v16 (fun (σ17 : Mem) => some (Sum.inl (σ17, i14 + 1))))))
noncomputable def j_X11_collect_101 (σ6 : Mem) : Option (Int32 × Mem) :=
  bq (f_X11_collects σ6) (fun (b7 : Bool) (σ8 : Mem) => if b7 then (f_X11_n σ8).bind (fun (v9 : Int32) => pF σ8 306 27 v9 (fun (σ10 : Mem) => (loopO (fun (z14 : (Mem × Int32)) => l_X11_collect_121 z14.1 z14.2) (σ10, 0) : Option Mem).bind (fun (z11 : Mem) => j_X11_collect_146 z11))) else some ((-2), σ8))
noncomputable def l_X11_collect_77 (v2 : Int32) (σ18 : Mem) (i19 : Int32) : Option ((Mem × Int32) ⊕ Mem) :=
  if v2 ≤ i19 then (some (Sum.inr σ18)) else (gI σ18 317 i19 (fun (v20 : Int32) => (f_X11_writes σ18 (v20 - 97)).bind (fun (σ21 : Mem) => some (Sum.inl (σ21, i19 + 1)))))
noncomputable def j_X11_collect_65 (v2 : Int32) (σ3 : Mem) : Option (Int32 × Mem) :=
  pF σ3 306 6 0 (fun (σ4 : Mem) => pF σ4 306 7 0 (fun (σ5 : Mem) => (loopO (fun (z19 : (Mem × Int32)) => l_X11_collect_77 v2 z19.1 z19.2) (σ5, 0) : Option Mem).bind (fun (z6 : Mem) => j_X11_collect_101 z6)))
noncomputable def l_X11_collect_25 (v2 : Int32) (σ3 : Mem) (i22 : Int32) : Option (Int32 ⊕ (Unit ⊕ (Int32 × Mem))) :=
  if v2 ≤ i22 then (some (Sum.inr (Sum.inl ()))) else (gI σ3 317 i22 (fun (v23 : Int32) => (f_X11_n σ3).bind (fun (v24 : Int32) => (f_X11_isIn σ3 (Int32.toInt64 v23) 97 ((Int32.toInt64 (97 + v24)) - 1)).bind (fun (b25 : Bool) => if b25 then some (Sum.inl (i22 + 1)) else some (Sum.inr (Sum.inr ((-1), σ3)))))))
noncomputable def f_X11_collect (σ : Mem) : Option (Int32 × Mem) :=
  pF σ 306 0 0 (fun (σ1 : Mem) => gF σ1 306 18 (fun (v2 : Int32) => pF σ1 306 18 0 (fun (σ3 : Mem) => if v2 ≤ 24 then ((loopO (fun (z22 : Int32) => l_X11_collect_25 v2 σ3 z22) 0 : Option (Unit ⊕ (Int32 × Mem))).bind (Sum.elim (fun (z3 : Unit) => j_X11_collect_65 v2 σ3) some)) else (some ((-1), σ3)))))
theorem t_X11_collect {w : Wd} (hw : WOK w) (hN : wn w = NT) {σ : Mem} : JO w mu_X11_collect vI σ [(0, .ref (adr w 306))] [] 0 (f_X11_collect σ) some := by
  unfold f_X11_collect
  refine jo_aload_n (pc := 0) 0 rfl dX11_collect_0 rfl ?_
  refine jo_iconst (pc := 1) dX11_collect_1 (ic_i_0) ?_
  refine jo_putf (pc := 2) ok_11_0 okp_11_0 (ik_306 hw hN) gw_1293 dX11_collect_2 (fun σ1 => ?_)
  refine jo_aload_n (pc := 5) 0 rfl dX11_collect_5 rfl ?_
  refine jo_getf (pc := 6) ok_11_18 (ik_306 hw hN) gw_1311 dX11_collect_6 (fun v2 => ?_)
  refine jo_istore_n (pc := 9) (lv' := [(1, .int v2), (0, .ref (adr w 306))]) dX11_collect_9 rfl (ltb rfl) rfl ?_
  refine jo_aload_n (pc := 10) 1 rfl dX11_collect_10 rfl ?_
  refine jo_iconst (pc := 11) dX11_collect_11 (ic_i_0) ?_
  refine jo_putf (pc := 12) ok_11_18 okp_11_18 (ik_306 hw hN) gw_1311 dX11_collect_12 (fun σ3 => ?_)
  refine jo_iload_n (pc := 15) 0 rfl dX11_collect_15 rfl ?_
  refine jo_bipush (pc := 16) dX11_collect_16 (ic_b_24) ?_
  refine jo_icmp_le (pc := 18) dX11_collect_18 (tgt := 23) rfl ?_ ?_
  · refine jo_iconst (pc := 23) dX11_collect_23 (ic_i_0) ?_
    refine jo_istore_n (pc := 24) (lv' := [(2, .int 0), (1, .int v2), (0, .ref (adr w 306))]) dX11_collect_24 rfl (ltb rfl) rfl ?_
    refine jo_joinS (S := Unit) (fun (z3 : Unit) => σ3) (fun (z3 : Unit) => [(1, .int v2), (0, .ref (adr w 306))]) (fun (z3 : Unit) => []) 65 ?_ (fun h65_3 => ?_)
    · intro _
      show JO w mu_X11_collect vI σ3 [(1, .int v2), (0, .ref (adr w 306))] [] 65 (j_X11_collect_65 v2 σ3) _
      unfold j_X11_collect_65
      refine jo_aload_n (pc := 65) 1 rfl dX11_collect_65 rfl ?_
      refine jo_iconst (pc := 66) dX11_collect_66 (ic_i_0) ?_
      refine jo_putf (pc := 67) ok_11_6 okp_11_6 (ik_306 hw hN) gw_1299 dX11_collect_67 (fun σ4 => ?_)
      refine jo_aload_n (pc := 70) 1 rfl dX11_collect_70 rfl ?_
      refine jo_iconst (pc := 71) dX11_collect_71 (ic_i_0) ?_
      refine jo_putf (pc := 72) ok_11_7 okp_11_7 (ik_306 hw hN) gw_1300 dX11_collect_72 (fun σ5 => ?_)
      refine jo_iconst (pc := 75) dX11_collect_75 (ic_i_0) ?_
      refine jo_istore_n (pc := 76) (lv' := [(2, .int 0), (1, .int v2), (0, .ref (adr w 306))]) dX11_collect_76 rfl (ltb rfl) rfl ?_
      refine jo_join1 (S := Mem) (fun (z6 : Mem) => z6) (fun (z6 : Mem) => [(0, .ref (adr w 306))]) (fun (z6 : Mem) => []) 101 ?_ (fun h101_6 => ?_)
      · intro σ6
        show JO w mu_X11_collect vI σ6 [(0, .ref (adr w 306))] [] 101 (j_X11_collect_101 σ6) _
        unfold j_X11_collect_101
        refine jo_aload_n (pc := 101) 0 rfl dX11_collect_101 rfl ?_
        refine jo_cV_Z_i (pc := 102) (μ' := mu_X11_collects) (fx := f_X11_collects σ6) (As := []) (c_X11_collects hw hN) (ok_X11_collects) (ltb rfl) (all3 gw_1499 gw_1501 gw_80) (ik_306 hw hN) (by decide) (q := (RX11, TX11, 39)) rfl rfl rfl rfl (Nat.le_of_ble_eq_true rfl) dX11_collect_102 (fun b7 σ8 => ?_)
        refine jo_ifz_ne (pc := 105) dX11_collect_105 (tgt := 111) rfl ?_ ?_
        · refine jo_aload_n (pc := 111) 0 rfl dX11_collect_111 rfl ?_
          refine jo_aload_n (pc := 112) 0 rfl dX11_collect_112 rfl ?_
          refine jo_cV_I_p (pc := 113) (μ' := mu_X11_n) (fx := f_X11_n σ8) (As := []) (c_X11_n hw hN) (ok_X11_n) (ltb rfl) (all3 gw_1441 gw_1443 gw_68) (ik_306 hw hN) (by decide) (q := (RX11, TX11, 39)) rfl rfl rfl rfl (Nat.le_of_ble_eq_true rfl) dX11_collect_113 (fun v9 => ?_)
          refine jo_putf (pc := 116) ok_11_27 okp_11_27 (ik_306 hw hN) gw_1320 dX11_collect_116 (fun σ10 => ?_)
          refine jo_iconst (pc := 119) dX11_collect_119 (ic_i_0) ?_
          refine jo_istore_n (pc := 120) (lv' := [(2, .int 0), (0, .ref (adr w 306))]) dX11_collect_120 rfl (ltb rfl) rfl ?_
          refine jo_join1 (S := Mem) (fun (z11 : Mem) => z11) (fun (z11 : Mem) => [(0, .ref (adr w 306))]) (fun (z11 : Mem) => []) 146 ?_ (fun h146_11 => ?_)
          · intro σ11
            show JO w mu_X11_collect vI σ11 [(0, .ref (adr w 306))] [] 146 (j_X11_collect_146 σ11) _
            unfold j_X11_collect_146
            refine jo_aload_n (pc := 146) 0 rfl dX11_collect_146 rfl ?_
            refine jo_getf (pc := 147) ok_11_7 (ik_306 hw hN) gw_1300 dX11_collect_147 (fun v12 => ?_)
            exact jo_ireturn (pc := 150) rfl rfl dX11_collect_150
          · refine jo_lv (lv' := [(0, .ref (adr w 306)), (2, .int 0)]) [1, 0] rfl ?_
            refine jo_loop (X := Mem) (fun (z14 : (Mem × Int32)) => z14.1) (fun (z14 : (Mem × Int32)) => [(0, .ref (adr w 306)), (2, .int z14.2)]) (body := (fun (z14 : (Mem × Int32)) => l_X11_collect_121 z14.1 z14.2)) (fun F121_14 hF121_14 s => ?_) (σ10, 0)
            obtain ⟨σ13, i14⟩ := s
            show JO w mu_X11_collect vI σ13 [(0, .ref (adr w 306)), (2, .int i14)] [] 121 (l_X11_collect_121 σ13 i14) _
            unfold l_X11_collect_121
            refine jo_iload_n (pc := 121) 1 rfl dX11_collect_121 rfl ?_
            refine jo_aload_n (pc := 122) 0 rfl dX11_collect_122 rfl ?_
            refine jo_cV_I_p (pc := 123) (μ' := mu_X11_n) (fx := f_X11_n σ13) (As := []) (c_X11_n hw hN) (ok_X11_n) (ltb rfl) (all3 gw_1441 gw_1443 gw_68) (ik_306 hw hN) (by decide) (q := (RX11, TX11, 39)) rfl rfl rfl rfl (Nat.le_of_ble_eq_true rfl) dX11_collect_123 (fun v15 => ?_)
            refine jo_icmp_ge (pc := 126) dX11_collect_126 (tgt := 146) rfl ?_ ?_
            · refine jo_lv (lv' := [(0, .ref (adr w 306))]) [0] rfl ?_
              exact jo_leaf (by rfl) (h146_11 σ13)
            · refine jo_aload_n (pc := 129) 0 rfl dX11_collect_129 rfl ?_
              refine jo_getrE (pc := 130) ok_11_26 (ik_306 hw hN) rf_306_26 gw_1319 dX11_collect_130 ?_
              refine jo_iload_n (pc := 133) 1 rfl dX11_collect_133 rfl ?_
              refine jo_aload_n (pc := 134) 0 rfl dX11_collect_134 rfl ?_
              refine jo_iload_n (pc := 135) 1 rfl dX11_collect_135 rfl ?_
              refine jo_cV_I_p (pc := 136) (μ' := mu_X11_letters) (fx := f_X11_letters σ13 i14) (As := [.int i14]) (c_X11_letters hw hN) (ok_X11_letters) (ltb rfl) (all3 gw_1503 gw_1505 gw_81) (ik_306 hw hN) (by decide) (q := (RX11, TX11, 39)) rfl rfl rfl rfl (Nat.le_of_ble_eq_true rfl) dX11_collect_136 (fun v16 => ?_)
              refine jo_iast (pc := 139) (ik_318 hw hN) dX11_collect_139 (fun σ17 => ?_)
              refine jo_iinc (pc := 140) (lv' := [(2, .int (i14 + 1)), (0, .ref (adr w 306))]) 1 rfl dX11_collect_140 (congrArg (fun z => i14 + z) (ic_i_1)) (ltb rfl) rfl ?_
              refine jo_goto (pc := 143) dX11_collect_143 (tgt := 121) rfl ?_
              refine jo_lv (lv' := [(0, .ref (adr w 306)), (2, .int (i14 + 1))]) [1, 0] rfl ?_
              exact jo_leaf (by rfl) (hF121_14 (σ17, i14 + 1))
        · refine jo_bipush (pc := 108) dX11_collect_108 (ic_b_m2) ?_
          exact jo_ireturn (pc := 110) rfl rfl dX11_collect_110
      · refine jo_lv (lv' := [(1, .int v2), (0, .ref (adr w 306)), (2, .int 0)]) [1, 2, 0] rfl ?_
        refine jo_loop (X := Mem) (fun (z19 : (Mem × Int32)) => z19.1) (fun (z19 : (Mem × Int32)) => [(1, .int v2), (0, .ref (adr w 306)), (2, .int z19.2)]) (body := (fun (z19 : (Mem × Int32)) => l_X11_collect_77 v2 z19.1 z19.2)) (fun F77_19 hF77_19 s => ?_) (σ5, 0)
        obtain ⟨σ18, i19⟩ := s
        show JO w mu_X11_collect vI σ18 [(1, .int v2), (0, .ref (adr w 306)), (2, .int i19)] [] 77 (l_X11_collect_77 v2 σ18 i19) _
        unfold l_X11_collect_77
        refine jo_iload_n (pc := 77) 2 rfl dX11_collect_77 rfl ?_
        refine jo_iload_n (pc := 78) 0 rfl dX11_collect_78 rfl ?_
        refine jo_icmp_ge (pc := 79) dX11_collect_79 (tgt := 101) rfl ?_ ?_
        · refine jo_lv (lv' := [(0, .ref (adr w 306))]) [1] rfl ?_
          exact jo_leaf (by rfl) (h101_6 σ18)
        · refine jo_aload_n (pc := 82) 1 rfl dX11_collect_82 rfl ?_
          refine jo_aload_n (pc := 83) 1 rfl dX11_collect_83 rfl ?_
          refine jo_getrE (pc := 84) ok_11_17 (ik_306 hw hN) rf_306_17 gw_1310 dX11_collect_84 ?_
          refine jo_iload_n (pc := 87) 2 rfl dX11_collect_87 rfl ?_
          refine jo_iald (pc := 88) (ik_317 hw hN) dX11_collect_88 (fun v20 => ?_)
          refine jo_bipush (pc := 89) dX11_collect_89 (ic_b_97) ?_
          refine jo_isub (pc := 91) dX11_collect_91 ?_
          refine jo_cV_V_i (pc := 92) (μ' := mu_X11_writes) (fx := f_X11_writes σ18 (v20 - 97)) (As := [.int (v20 - 97)]) (c_X11_writes hw hN) (ok_X11_writes) (ltb rfl) (all3 gw_1487 gw_1489 gw_77) (ik_306 hw hN) (by decide) (q := (RX11, TX11, 39)) rfl rfl rfl rfl (Nat.le_of_ble_eq_true rfl) dX11_collect_92 (fun σ21 => ?_)
          refine jo_iinc (pc := 95) (lv' := [(2, .int (i19 + 1)), (1, .int v2), (0, .ref (adr w 306))]) 2 rfl dX11_collect_95 (congrArg (fun z => i19 + z) (ic_i_1)) (ltb rfl) rfl ?_
          refine jo_goto (pc := 98) dX11_collect_98 (tgt := 77) rfl ?_
          refine jo_lv (lv' := [(1, .int v2), (0, .ref (adr w 306)), (2, .int (i19 + 1))]) [1, 2, 0] rfl ?_
          exact jo_leaf (by rfl) (hF77_19 (σ21, i19 + 1))
    · refine jo_lv (lv' := [(1, .int v2), (0, .ref (adr w 306)), (2, .int 0)]) [1, 2, 0] rfl ?_
      refine jo_loop (X := Unit ⊕ (Int32 × Mem)) (fun (z22 : Int32) => σ3) (fun (z22 : Int32) => [(1, .int v2), (0, .ref (adr w 306)), (2, .int z22)]) (body := (fun (z22 : Int32) => l_X11_collect_25 v2 σ3 z22)) (fun F25_22 hF25_22 s => ?_) 0
      revert s; intro i22
      show JO w mu_X11_collect vI σ3 [(1, .int v2), (0, .ref (adr w 306)), (2, .int i22)] [] 25 (l_X11_collect_25 v2 σ3 i22) _
      unfold l_X11_collect_25
      refine jo_iload_n (pc := 25) 2 rfl dX11_collect_25 rfl ?_
      refine jo_iload_n (pc := 26) 0 rfl dX11_collect_26 rfl ?_
      refine jo_icmp_ge (pc := 27) dX11_collect_27 (tgt := 65) rfl ?_ ?_
      · refine jo_lv (lv' := [(1, .int v2), (0, .ref (adr w 306))]) [0, 1] rfl ?_
        exact jo_leaf (by rfl) (h65_3 ())
      · refine jo_aload_n (pc := 30) 1 rfl dX11_collect_30 rfl ?_
        refine jo_aload_n (pc := 31) 1 rfl dX11_collect_31 rfl ?_
        refine jo_getrE (pc := 32) ok_11_17 (ik_306 hw hN) rf_306_17 gw_1310 dX11_collect_32 ?_
        refine jo_iload_n (pc := 35) 2 rfl dX11_collect_35 rfl ?_
        refine jo_iald (pc := 36) (ik_317 hw hN) dX11_collect_36 (fun v23 => ?_)
        refine jo_i2l (pc := 37) dX11_collect_37 ?_
        refine jo_ldc2 (pc := 38) dX11_collect_38 gw_1721 ?_
        refine jo_bipush (pc := 41) dX11_collect_41 (ic_b_97) ?_
        refine jo_aload_n (pc := 43) 1 rfl dX11_collect_43 rfl ?_
        refine jo_cV_I_p (pc := 44) (μ' := mu_X11_n) (fx := f_X11_n σ3) (As := []) (c_X11_n hw hN) (ok_X11_n) (ltb rfl) (all3 gw_1441 gw_1443 gw_68) (ik_306 hw hN) (by decide) (q := (RX11, TX11, 39)) rfl rfl rfl rfl (Nat.le_of_ble_eq_true rfl) dX11_collect_44 (fun v24 => ?_)
        refine jo_iadd (pc := 47) dX11_collect_47 ?_
        refine jo_i2l (pc := 48) dX11_collect_48 ?_
        refine jo_lconst (pc := 49) dX11_collect_49 (ic_l_1) ?_
        refine jo_lsub (pc := 50) dX11_collect_50 ?_
        refine jo_cV_Z_p (pc := 51) (μ' := mu_X11_isIn) (fx := f_X11_isIn σ3 (Int32.toInt64 v23) 97 ((Int32.toInt64 (97 + v24)) - 1)) (As := [.long (Int32.toInt64 v23), .long 97, .long ((Int32.toInt64 (97 + v24)) - 1)]) (c_X11_isIn hw hN) (ok_X11_isIn) (ltb rfl) (all3 gw_1420 gw_1422 gw_64) (ik_306 hw hN) (by decide) (q := (RX11, TX11, 39)) rfl rfl rfl rfl (Nat.le_of_ble_eq_true rfl) dX11_collect_51 (fun b25 => ?_)
        refine jo_ifz_ne (pc := 54) dX11_collect_54 (tgt := 59) rfl ?_ ?_
        · refine jo_iinc (pc := 59) (lv' := [(2, .int (i22 + 1)), (1, .int v2), (0, .ref (adr w 306))]) 2 rfl dX11_collect_59 (congrArg (fun z => i22 + z) (ic_i_1)) (ltb rfl) rfl ?_
          refine jo_goto (pc := 62) dX11_collect_62 (tgt := 25) rfl ?_
          refine jo_lv (lv' := [(1, .int v2), (0, .ref (adr w 306)), (2, .int (i22 + 1))]) [1, 2, 0] rfl ?_
          exact jo_leaf (by rfl) (hF25_22 (i22 + 1))
        · refine jo_iconst (pc := 57) dX11_collect_57 (ic_i_m1) ?_
          exact jo_ireturn (pc := 58) rfl rfl dX11_collect_58
  · refine jo_iconst (pc := 21) dX11_collect_21 (ic_i_m1) ?_
    exact jo_ireturn (pc := 22) rfl rfl dX11_collect_22
theorem c_X11_collect {w : Wd} (hw : WOK w) (hN : wn w = NT) {σ : Mem} : ∀ r σ', f_X11_collect σ = some (r, σ') → MC w mu_X11_collect (vI r) [.ref (adr w 306)] σ σ' := mc_of ok_X11_collect rfl (Nat.le_of_ble_eq_true rfl) (t_X11_collect hw hN)
abbrev mu_X11_collected : MD := (yX11_collected, cX11_collected, 2, some .int, 1)
theorem ok_X11_collected : MOK mu_X11_collected 1 := ⟨gw_1725, gw_171, (by decide +kernel : plainFor yX11_collected = true), ⟨(by decide +kernel : yX11_collected.cls ≠ "java/lang/invoke/MethodHandle"), (by decide +kernel : yX11_collected.cls ≠ "java/lang/invoke/VarHandle"), (by decide +kernel : (parseMethodDescriptor yX11_collected.desc).map (fun d => d.parameters.length) = some 1)⟩, Nat.le_of_ble_eq_true rfl⟩
noncomputable def f_X11_collected (σ : Mem) (x0 : Int32) : Option (Int32 × Mem) :=
  pF σ 306 0 0 (fun (σ1 : Mem) => gF σ1 306 27 (fun (v2 : Int32) => (f_X11_isIn σ1 (Int32.toInt64 x0) 1 (Int32.toInt64 v2)).bind (fun (b3 : Bool) => if b3 then gI σ1 318 (x0 - 1) (fun (v4 : Int32) => some (v4, σ1)) else some ((-1), σ1))))
theorem t_X11_collected {w : Wd} (hw : WOK w) (hN : wn w = NT) {σ : Mem} {x0 : Int32} : JO w mu_X11_collected vI σ [(0, .ref (adr w 306)), (1, .int x0)] [] 0 (f_X11_collected σ x0) some := by
  unfold f_X11_collected
  refine jo_aload_n (pc := 0) 0 rfl dX11_collected_0 rfl ?_
  refine jo_iconst (pc := 1) dX11_collected_1 (ic_i_0) ?_
  refine jo_putf (pc := 2) ok_11_0 okp_11_0 (ik_306 hw hN) gw_1293 dX11_collected_2 (fun σ1 => ?_)
  refine jo_aload_n (pc := 5) 0 rfl dX11_collected_5 rfl ?_
  refine jo_iload_n (pc := 6) 1 rfl dX11_collected_6 rfl ?_
  refine jo_i2l (pc := 7) dX11_collected_7 ?_
  refine jo_lconst (pc := 8) dX11_collected_8 (ic_l_1) ?_
  refine jo_aload_n (pc := 9) 0 rfl dX11_collected_9 rfl ?_
  refine jo_getf (pc := 10) ok_11_27 (ik_306 hw hN) gw_1320 dX11_collected_10 (fun v2 => ?_)
  refine jo_i2l (pc := 13) dX11_collected_13 ?_
  refine jo_cV_Z_p (pc := 14) (μ' := mu_X11_isIn) (fx := f_X11_isIn σ1 (Int32.toInt64 x0) 1 (Int32.toInt64 v2)) (As := [.long (Int32.toInt64 x0), .long 1, .long (Int32.toInt64 v2)]) (c_X11_isIn hw hN) (ok_X11_isIn) (ltb rfl) (all3 gw_1420 gw_1422 gw_64) (ik_306 hw hN) (by decide) (q := (RX11, TX11, 39)) rfl rfl rfl rfl (Nat.le_of_ble_eq_true rfl) dX11_collected_14 (fun b3 => ?_)
  refine jo_ifz_eq (pc := 17) dX11_collected_17 (tgt := 31) rfl ?_ ?_
  · refine jo_iconst (pc := 31) dX11_collected_31 (ic_i_m1) ?_
    exact jo_ireturn (pc := 32) rfl rfl dX11_collected_32
  · refine jo_aload_n (pc := 20) 0 rfl dX11_collected_20 rfl ?_
    refine jo_getrE (pc := 21) ok_11_26 (ik_306 hw hN) rf_306_26 gw_1319 dX11_collected_21 ?_
    refine jo_iload_n (pc := 24) 1 rfl dX11_collected_24 rfl ?_
    refine jo_iconst (pc := 25) dX11_collected_25 (ic_i_1) ?_
    refine jo_isub (pc := 26) dX11_collected_26 ?_
    refine jo_iald (pc := 27) (ik_318 hw hN) dX11_collected_27 (fun v4 => ?_)
    refine jo_goto (pc := 28) dX11_collected_28 (tgt := 32) rfl ?_
    exact jo_ireturn (pc := 32) rfl rfl dX11_collected_32
theorem c_X11_collected {w : Wd} (hw : WOK w) (hN : wn w = NT) {σ : Mem} {x0 : Int32} : ∀ r σ', f_X11_collected σ x0 = some (r, σ') → MC w mu_X11_collected (vI r) [.ref (adr w 306), .int x0] σ σ' := mc_of ok_X11_collected rfl (Nat.le_of_ble_eq_true rfl) (t_X11_collected hw hN)
abbrev mu_X11_consistent : MD := (yX11_consistent, cX11_consistent, 1, some .int, 37)
theorem ok_X11_consistent : MOK mu_X11_consistent 0 := ⟨gw_1729, gw_171, (by decide +kernel : plainFor yX11_consistent = true), ⟨(by decide +kernel : yX11_consistent.cls ≠ "java/lang/invoke/MethodHandle"), (by decide +kernel : yX11_consistent.cls ≠ "java/lang/invoke/VarHandle"), (by decide +kernel : (parseMethodDescriptor yX11_consistent.desc).map (fun d => d.parameters.length) = some 0)⟩, Nat.le_of_ble_eq_true rfl⟩
noncomputable def f_X11_consistent (σ : Mem) : Option (Int32 × Mem) :=
  pF σ 306 0 0 (fun (σ1 : Mem) => bq (f_X11_isConsistent σ1) (fun (b2 : Bool) (σ3 : Mem) => if b2 then some (1, σ3) else some (0, σ3)))
theorem t_X11_consistent {w : Wd} (hw : WOK w) (hN : wn w = NT) {σ : Mem} : JO w mu_X11_consistent vI σ [(0, .ref (adr w 306))] [] 0 (f_X11_consistent σ) some := by
  unfold f_X11_consistent
  refine jo_aload_n (pc := 0) 0 rfl dX11_consistent_0 rfl ?_
  refine jo_iconst (pc := 1) dX11_consistent_1 (ic_i_0) ?_
  refine jo_putf (pc := 2) ok_11_0 okp_11_0 (ik_306 hw hN) gw_1293 dX11_consistent_2 (fun σ1 => ?_)
  refine jo_aload_n (pc := 5) 0 rfl dX11_consistent_5 rfl ?_
  refine jo_cV_Z_i (pc := 6) (μ' := mu_X11_isConsistent) (fx := f_X11_isConsistent σ1) (As := []) (c_X11_isConsistent hw hN) (ok_X11_isConsistent) (ltb rfl) (all3 gw_1475 gw_1477 gw_74) (ik_306 hw hN) (by decide) (q := (RX11, TX11, 39)) rfl rfl rfl rfl (Nat.le_of_ble_eq_true rfl) dX11_consistent_6 (fun b2 σ3 => ?_)
  refine jo_ifz_eq (pc := 9) dX11_consistent_9 (tgt := 16) rfl ?_ ?_
  · refine jo_iconst (pc := 16) dX11_consistent_16 (ic_i_0) ?_
    exact jo_ireturn (pc := 17) rfl rfl dX11_consistent_17
  · refine jo_iconst (pc := 12) dX11_consistent_12 (ic_i_1) ?_
    refine jo_goto (pc := 13) dX11_consistent_13 (tgt := 17) rfl ?_
    exact jo_ireturn (pc := 17) rfl rfl dX11_consistent_17
theorem c_X11_consistent {w : Wd} (hw : WOK w) (hN : wn w = NT) {σ : Mem} : ∀ r σ', f_X11_consistent σ = some (r, σ') → MC w mu_X11_consistent (vI r) [.ref (adr w 306)] σ σ' := mc_of ok_X11_consistent rfl (Nat.le_of_ble_eq_true rfl) (t_X11_consistent hw hN)
abbrev mu_X11_exponent : MD := (yX11_exponent, cX11_exponent, 3, some .int, 2)
theorem ok_X11_exponent : MOK mu_X11_exponent 2 := ⟨gw_1733, gw_171, (by decide +kernel : plainFor yX11_exponent = true), ⟨(by decide +kernel : yX11_exponent.cls ≠ "java/lang/invoke/MethodHandle"), (by decide +kernel : yX11_exponent.cls ≠ "java/lang/invoke/VarHandle"), (by decide +kernel : (parseMethodDescriptor yX11_exponent.desc).map (fun d => d.parameters.length) = some 2)⟩, Nat.le_of_ble_eq_true rfl⟩
noncomputable def j_X11_exponent_39 (σ1 : Mem) : Option (Int32 × Mem) :=
  some ((-10000), σ1)
noncomputable def f_X11_exponent (σ : Mem) (x0 : Int32) (x1 : Int32) : Option (Int32 × Mem) :=
  pF σ 306 0 0 (fun (σ1 : Mem) => (f_X11_isRegister σ1 x0).bind (fun (b2 : Bool) => (if b2 then (f_X11_n σ1).bind (fun (v3 : Int32) => (f_X11_isIn σ1 (Int32.toInt64 x1) 1 (Int32.toInt64 v3)).bind (fun (b4 : Bool) => if b4 then (f_X11_ofRow σ1 x0 (x1 - 1)).bind (fun (v5 : Int32) => some (Sum.inr (v5, σ1))) else some (Sum.inl ()))) else some (Sum.inl ()) : Option (Unit ⊕ (Int32 × Mem))).bind (Sum.elim (fun (z2 : Unit) => j_X11_exponent_39 σ1) some)))
theorem t_X11_exponent {w : Wd} (hw : WOK w) (hN : wn w = NT) {σ : Mem} {x0 : Int32} {x1 : Int32} : JO w mu_X11_exponent vI σ [(0, .ref (adr w 306)), (1, .int x0), (2, .int x1)] [] 0 (f_X11_exponent σ x0 x1) some := by
  unfold f_X11_exponent
  refine jo_aload_n (pc := 0) 0 rfl dX11_exponent_0 rfl ?_
  refine jo_iconst (pc := 1) dX11_exponent_1 (ic_i_0) ?_
  refine jo_putf (pc := 2) ok_11_0 okp_11_0 (ik_306 hw hN) gw_1293 dX11_exponent_2 (fun σ1 => ?_)
  refine jo_aload_n (pc := 5) 0 rfl dX11_exponent_5 rfl ?_
  refine jo_iload_n (pc := 6) 1 rfl dX11_exponent_6 rfl ?_
  refine jo_cV_Z_p (pc := 7) (μ' := mu_X11_isRegister) (fx := f_X11_isRegister σ1 x0) (As := [.int x0]) (c_X11_isRegister hw hN) (ok_X11_isRegister) (ltb rfl) (all3 gw_1470 gw_1472 gw_73) (ik_306 hw hN) (by decide) (q := (RX11, TX11, 39)) rfl rfl rfl rfl (Nat.le_of_ble_eq_true rfl) dX11_exponent_7 (fun b2 => ?_)
  refine jo_joinS (S := Unit) (fun (z2 : Unit) => σ1) (fun (z2 : Unit) => []) (fun (z2 : Unit) => []) 39 ?_ (fun h39_2 => ?_)
  · intro _
    show JO w mu_X11_exponent vI σ1 [] [] 39 (j_X11_exponent_39 σ1) _
    unfold j_X11_exponent_39
    refine jo_sipush (pc := 39) dX11_exponent_39 (ic_s_m10000) ?_
    exact jo_ireturn (pc := 42) rfl rfl dX11_exponent_42
  · refine jo_ifz_eq (pc := 10) dX11_exponent_10 (tgt := 39) rfl ?_ ?_
    · refine jo_lv (lv' := []) [] rfl ?_
      exact jo_leaf (by rfl) (h39_2 ())
    · refine jo_aload_n (pc := 13) 0 rfl dX11_exponent_13 rfl ?_
      refine jo_iload_n (pc := 14) 2 rfl dX11_exponent_14 rfl ?_
      refine jo_i2l (pc := 15) dX11_exponent_15 ?_
      refine jo_lconst (pc := 16) dX11_exponent_16 (ic_l_1) ?_
      refine jo_aload_n (pc := 17) 0 rfl dX11_exponent_17 rfl ?_
      refine jo_cV_I_p (pc := 18) (μ' := mu_X11_n) (fx := f_X11_n σ1) (As := []) (c_X11_n hw hN) (ok_X11_n) (ltb rfl) (all3 gw_1441 gw_1443 gw_68) (ik_306 hw hN) (by decide) (q := (RX11, TX11, 39)) rfl rfl rfl rfl (Nat.le_of_ble_eq_true rfl) dX11_exponent_18 (fun v3 => ?_)
      refine jo_i2l (pc := 21) dX11_exponent_21 ?_
      refine jo_cV_Z_p (pc := 22) (μ' := mu_X11_isIn) (fx := f_X11_isIn σ1 (Int32.toInt64 x1) 1 (Int32.toInt64 v3)) (As := [.long (Int32.toInt64 x1), .long 1, .long (Int32.toInt64 v3)]) (c_X11_isIn hw hN) (ok_X11_isIn) (ltb rfl) (all3 gw_1420 gw_1422 gw_64) (ik_306 hw hN) (by decide) (q := (RX11, TX11, 39)) rfl rfl rfl rfl (Nat.le_of_ble_eq_true rfl) dX11_exponent_22 (fun b4 => ?_)
      refine jo_ifz_eq (pc := 25) dX11_exponent_25 (tgt := 39) rfl ?_ ?_
      · refine jo_lv (lv' := []) [] rfl ?_
        exact jo_leaf (by rfl) (h39_2 ())
      · refine jo_aload_n (pc := 28) 0 rfl dX11_exponent_28 rfl ?_
        refine jo_iload_n (pc := 29) 1 rfl dX11_exponent_29 rfl ?_
        refine jo_iload_n (pc := 30) 2 rfl dX11_exponent_30 rfl ?_
        refine jo_iconst (pc := 31) dX11_exponent_31 (ic_i_1) ?_
        refine jo_isub (pc := 32) dX11_exponent_32 ?_
        refine jo_cV_I_p (pc := 33) (μ' := mu_X11_ofRow) (fx := f_X11_ofRow σ1 x0 (x1 - 1)) (As := [.int x0, .int (x1 - 1)]) (c_X11_ofRow hw hN) (ok_X11_ofRow) (ltb rfl) (all3 gw_1563 gw_1565 gw_95) (ik_306 hw hN) (by decide) (q := (RX11, TX11, 39)) rfl rfl rfl rfl (Nat.le_of_ble_eq_true rfl) dX11_exponent_33 (fun v5 => ?_)
        refine jo_goto (pc := 36) dX11_exponent_36 (tgt := 42) rfl ?_
        exact jo_ireturn (pc := 42) rfl rfl dX11_exponent_42
theorem c_X11_exponent {w : Wd} (hw : WOK w) (hN : wn w = NT) {σ : Mem} {x0 : Int32} {x1 : Int32} : ∀ r σ', f_X11_exponent σ x0 x1 = some (r, σ') → MC w mu_X11_exponent (vI r) [.ref (adr w 306), .int x0, .int x1] σ σ' := mc_of ok_X11_exponent rfl (Nat.le_of_ble_eq_true rfl) (t_X11_exponent hw hN)
abbrev mu_X11_areCommuting : MD := (yX11_areCommuting, cX11_areCommuting, 4, some .boolean, 6)
theorem ok_X11_areCommuting : MOK mu_X11_areCommuting 3 := ⟨gw_1749, gw_171, (by decide +kernel : plainFor yX11_areCommuting = true), ⟨(by decide +kernel : yX11_areCommuting.cls ≠ "java/lang/invoke/MethodHandle"), (by decide +kernel : yX11_areCommuting.cls ≠ "java/lang/invoke/VarHandle"), (by decide +kernel : (parseMethodDescriptor yX11_areCommuting.desc).map (fun d => d.parameters.length) = some 3)⟩, Nat.le_of_ble_eq_true rfl⟩
noncomputable def f_X11_areCommuting (σ : Mem) (x0 : Int32) (x1 : Int32) (x2 : Int32) : Option (Bool × Mem) :=
  (f_X11_commutator σ x0 x1 x2).bind (fun (σ1 : Mem) => (f_X11_isOne σ1 x2).bind (fun (b2 : Bool) => some (b2, σ1)))
theorem t_X11_areCommuting {w : Wd} (hw : WOK w) (hN : wn w = NT) {σ : Mem} {x0 : Int32} {x1 : Int32} {x2 : Int32} : JO w mu_X11_areCommuting vB σ [(0, .ref (adr w 306)), (1, .int x0), (2, .int x1), (3, .int x2)] [] 0 (f_X11_areCommuting σ x0 x1 x2) some := by
  unfold f_X11_areCommuting
  refine jo_aload_n (pc := 0) 0 rfl dX11_areCommuting_0 rfl ?_
  refine jo_iload_n (pc := 1) 1 rfl dX11_areCommuting_1 rfl ?_
  refine jo_iload_n (pc := 2) 2 rfl dX11_areCommuting_2 rfl ?_
  refine jo_iload_n (pc := 3) 3 rfl dX11_areCommuting_3 rfl ?_
  refine jo_cV_V_i (pc := 4) (μ' := mu_X11_commutator) (fx := f_X11_commutator σ x0 x1 x2) (As := [.int x0, .int x1, .int x2]) (c_X11_commutator hw hN) (ok_X11_commutator) (ltb rfl) (all3 gw_1609 gw_1611 gw_102) (ik_306 hw hN) (by decide) (q := (RX11, TX11, 39)) rfl rfl rfl rfl (Nat.le_of_ble_eq_true rfl) dX11_areCommuting_4 (fun σ1 => ?_)
  refine jo_aload_n (pc := 7) 0 rfl dX11_areCommuting_7 rfl ?_
  refine jo_iload_n (pc := 8) 3 rfl dX11_areCommuting_8 rfl ?_
  refine jo_cV_Z_p (pc := 9) (μ' := mu_X11_isOne) (fx := f_X11_isOne σ1 x2) (As := [.int x2]) (c_X11_isOne hw hN) (ok_X11_isOne) (ltb rfl) (all3 gw_1750 gw_1752 gw_125) (ik_306 hw hN) (by decide) (q := (RX11, TX11, 39)) rfl rfl rfl rfl (Nat.le_of_ble_eq_true rfl) dX11_areCommuting_9 (fun b2 => ?_)
  exact jo_breturn (pc := 12) (b := b2) rfl rfl dX11_areCommuting_12
theorem c_X11_areCommuting {w : Wd} (hw : WOK w) (hN : wn w = NT) {σ : Mem} {x0 : Int32} {x1 : Int32} {x2 : Int32} : ∀ r σ', f_X11_areCommuting σ x0 x1 x2 = some (r, σ') → MC w mu_X11_areCommuting (vB r) [.ref (adr w 306), .int x0, .int x1, .int x2] σ σ' := mc_of ok_X11_areCommuting rfl (Nat.le_of_ble_eq_true rfl) (t_X11_areCommuting hw hN)
abbrev mu_X11_isCentral : MD := (yX11_isCentral, cX11_isCentral, 4, some .boolean, 7)
theorem ok_X11_isCentral : MOK mu_X11_isCentral 2 := ⟨gw_1745, gw_171, (by decide +kernel : plainFor yX11_isCentral = true), ⟨(by decide +kernel : yX11_isCentral.cls ≠ "java/lang/invoke/MethodHandle"), (by decide +kernel : yX11_isCentral.cls ≠ "java/lang/invoke/VarHandle"), (by decide +kernel : (parseMethodDescriptor yX11_isCentral.desc).map (fun d => d.parameters.length) = some 2)⟩, Nat.le_of_ble_eq_true rfl⟩
noncomputable def l_X11_isCentral_2 (x0 : Int32) (x1 : Int32) (σ1 : Mem) (i2 : Int32) : Option ((Mem × Int32) ⊕ (Bool × Mem)) :=
  (f_X11_n σ1).bind (fun (v3 : Int32) => if v3 ≤ i2 then (some (Sum.inr (true, σ1))) else ((f_X11_ones σ1 x1).bind (fun (σ4 : Mem) => (f_X11_puts σ4 x1 i2 1).bind (fun (σ5 : Mem) => bq (f_X11_areCommuting σ5 x0 x1 (x1 + 1)) (fun (b6 : Bool) (σ7 : Mem) => if b6 then some (Sum.inl (σ7, i2 + 1)) else some (Sum.inr (false, σ7)))))))
noncomputable def f_X11_isCentral (σ : Mem) (x0 : Int32) (x1 : Int32) : Option (Bool × Mem) :=
  loopO (fun (z2 : (Mem × Int32)) => l_X11_isCentral_2 x0 x1 z2.1 z2.2) (σ, 0)
theorem t_X11_isCentral {w : Wd} (hw : WOK w) (hN : wn w = NT) {σ : Mem} {x0 : Int32} {x1 : Int32} : JO w mu_X11_isCentral vB σ [(0, .ref (adr w 306)), (1, .int x0), (2, .int x1)] [] 0 (f_X11_isCentral σ x0 x1) some := by
  unfold f_X11_isCentral
  refine jo_iconst (pc := 0) dX11_isCentral_0 (ic_i_0) ?_
  refine jo_istore_n (pc := 1) (lv' := [(3, .int 0), (0, .ref (adr w 306)), (1, .int x0), (2, .int x1)]) dX11_isCentral_1 rfl (ltb rfl) rfl ?_
  refine jo_lv (lv' := [(0, .ref (adr w 306)), (1, .int x0), (2, .int x1), (3, .int 0)]) [1, 2, 3, 0] rfl ?_
  refine jo_loop (X := (Bool × Mem)) (fun (z2 : (Mem × Int32)) => z2.1) (fun (z2 : (Mem × Int32)) => [(0, .ref (adr w 306)), (1, .int x0), (2, .int x1), (3, .int z2.2)]) (body := (fun (z2 : (Mem × Int32)) => l_X11_isCentral_2 x0 x1 z2.1 z2.2)) (fun F2_2 hF2_2 s => ?_) (σ, 0)
  obtain ⟨σ1, i2⟩ := s
  show JO w mu_X11_isCentral vB σ1 [(0, .ref (adr w 306)), (1, .int x0), (2, .int x1), (3, .int i2)] [] 2 (l_X11_isCentral_2 x0 x1 σ1 i2) _
  unfold l_X11_isCentral_2
  refine jo_iload_n (pc := 2) 3 rfl dX11_isCentral_2 rfl ?_
  refine jo_aload_n (pc := 3) 0 rfl dX11_isCentral_3 rfl ?_
  refine jo_cV_I_p (pc := 4) (μ' := mu_X11_n) (fx := f_X11_n σ1) (As := []) (c_X11_n hw hN) (ok_X11_n) (ltb rfl) (all3 gw_1441 gw_1443 gw_68) (ik_306 hw hN) (by decide) (q := (RX11, TX11, 39)) rfl rfl rfl rfl (Nat.le_of_ble_eq_true rfl) dX11_isCentral_4 (fun v3 => ?_)
  refine jo_icmp_ge (pc := 7) dX11_isCentral_7 (tgt := 42) rfl ?_ ?_
  · refine jo_iconst (pc := 42) dX11_isCentral_42 (ic_i_1) ?_
    exact jo_breturn (pc := 43) (b := true) rfl rfl dX11_isCentral_43
  · refine jo_aload_n (pc := 10) 0 rfl dX11_isCentral_10 rfl ?_
    refine jo_iload_n (pc := 11) 2 rfl dX11_isCentral_11 rfl ?_
    refine jo_cV_V_i (pc := 12) (μ' := mu_X11_ones) (fx := f_X11_ones σ1 x1) (As := [.int x1]) (c_X11_ones hw hN) (ok_X11_ones) (ltb rfl) (all3 gw_1587 gw_1589 gw_99) (ik_306 hw hN) (by decide) (q := (RX11, TX11, 39)) rfl rfl rfl rfl (Nat.le_of_ble_eq_true rfl) dX11_isCentral_12 (fun σ4 => ?_)
    refine jo_aload_n (pc := 15) 0 rfl dX11_isCentral_15 rfl ?_
    refine jo_iload_n (pc := 16) 2 rfl dX11_isCentral_16 rfl ?_
    refine jo_iload_n (pc := 17) 3 rfl dX11_isCentral_17 rfl ?_
    refine jo_lconst (pc := 18) dX11_isCentral_18 (ic_l_1) ?_
    refine jo_cV_V_i (pc := 19) (μ' := mu_X11_puts) (fx := f_X11_puts σ4 x1 i2 1) (As := [.int x1, .int i2, .long 1]) (c_X11_puts hw hN) (ok_X11_puts) (ltb rfl) (all3 gw_1519 gw_1521 gw_85) (ik_306 hw hN) (by decide) (q := (RX11, TX11, 39)) rfl rfl rfl rfl (Nat.le_of_ble_eq_true rfl) dX11_isCentral_19 (fun σ5 => ?_)
    refine jo_aload_n (pc := 22) 0 rfl dX11_isCentral_22 rfl ?_
    refine jo_iload_n (pc := 23) 1 rfl dX11_isCentral_23 rfl ?_
    refine jo_iload_n (pc := 24) 2 rfl dX11_isCentral_24 rfl ?_
    refine jo_iload_n (pc := 25) 2 rfl dX11_isCentral_25 rfl ?_
    refine jo_iconst (pc := 26) dX11_isCentral_26 (ic_i_1) ?_
    refine jo_iadd (pc := 27) dX11_isCentral_27 ?_
    refine jo_cV_Z_i (pc := 28) (μ' := mu_X11_areCommuting) (fx := f_X11_areCommuting σ5 x0 x1 (x1 + 1)) (As := [.int x0, .int x1, .int (x1 + 1)]) (c_X11_areCommuting hw hN) (ok_X11_areCommuting) (ltb rfl) (all3 gw_1746 gw_1748 gw_124) (ik_306 hw hN) (by decide) (q := (RX11, TX11, 39)) rfl rfl rfl rfl (Nat.le_of_ble_eq_true rfl) dX11_isCentral_28 (fun b6 σ7 => ?_)
    refine jo_ifz_ne (pc := 31) dX11_isCentral_31 (tgt := 36) rfl ?_ ?_
    · refine jo_iinc (pc := 36) (lv' := [(3, .int (i2 + 1)), (0, .ref (adr w 306)), (1, .int x0), (2, .int x1)]) 3 rfl dX11_isCentral_36 (congrArg (fun z => i2 + z) (ic_i_1)) (ltb rfl) rfl ?_
      refine jo_goto (pc := 39) dX11_isCentral_39 (tgt := 2) rfl ?_
      refine jo_lv (lv' := [(0, .ref (adr w 306)), (1, .int x0), (2, .int x1), (3, .int (i2 + 1))]) [1, 2, 3, 0] rfl ?_
      exact jo_leaf (by rfl) (hF2_2 (σ7, i2 + 1))
    · refine jo_iconst (pc := 34) dX11_isCentral_34 (ic_i_0) ?_
      exact jo_breturn (pc := 35) (b := false) rfl rfl dX11_isCentral_35
theorem c_X11_isCentral {w : Wd} (hw : WOK w) (hN : wn w = NT) {σ : Mem} {x0 : Int32} {x1 : Int32} : ∀ r σ', f_X11_isCentral σ x0 x1 = some (r, σ') → MC w mu_X11_isCentral (vB r) [.ref (adr w 306), .int x0, .int x1] σ σ' := mc_of ok_X11_isCentral rfl (Nat.le_of_ble_eq_true rfl) (t_X11_isCentral hw hN)
abbrev mu_X11_isCentralLetter : MD := (yX11_isCentralLetter, cX11_isCentralLetter, 2, some .boolean, 8)
theorem ok_X11_isCentralLetter : MOK mu_X11_isCentralLetter 1 := ⟨gw_1741, gw_171, (by decide +kernel : plainFor yX11_isCentralLetter = true), ⟨(by decide +kernel : yX11_isCentralLetter.cls ≠ "java/lang/invoke/MethodHandle"), (by decide +kernel : yX11_isCentralLetter.cls ≠ "java/lang/invoke/VarHandle"), (by decide +kernel : (parseMethodDescriptor yX11_isCentralLetter.desc).map (fun d => d.parameters.length) = some 1)⟩, Nat.le_of_ble_eq_true rfl⟩
noncomputable def f_X11_isCentralLetter (σ : Mem) (x0 : Int32) : Option (Bool × Mem) :=
  (f_X11_ones σ 0).bind (fun (σ1 : Mem) => (f_X11_puts σ1 0 x0 1).bind (fun (σ2 : Mem) => bq (f_X11_isCentral σ2 0 1) (fun (b3 : Bool) (σ4 : Mem) => some (b3, σ4))))
theorem t_X11_isCentralLetter {w : Wd} (hw : WOK w) (hN : wn w = NT) {σ : Mem} {x0 : Int32} : JO w mu_X11_isCentralLetter vB σ [(0, .ref (adr w 306)), (1, .int x0)] [] 0 (f_X11_isCentralLetter σ x0) some := by
  unfold f_X11_isCentralLetter
  refine jo_aload_n (pc := 0) 0 rfl dX11_isCentralLetter_0 rfl ?_
  refine jo_iconst (pc := 1) dX11_isCentralLetter_1 (ic_i_0) ?_
  refine jo_cV_V_i (pc := 2) (μ' := mu_X11_ones) (fx := f_X11_ones σ 0) (As := [.int 0]) (c_X11_ones hw hN) (ok_X11_ones) (ltb rfl) (all3 gw_1587 gw_1589 gw_99) (ik_306 hw hN) (by decide) (q := (RX11, TX11, 39)) rfl rfl rfl rfl (Nat.le_of_ble_eq_true rfl) dX11_isCentralLetter_2 (fun σ1 => ?_)
  refine jo_aload_n (pc := 5) 0 rfl dX11_isCentralLetter_5 rfl ?_
  refine jo_iconst (pc := 6) dX11_isCentralLetter_6 (ic_i_0) ?_
  refine jo_iload_n (pc := 7) 1 rfl dX11_isCentralLetter_7 rfl ?_
  refine jo_lconst (pc := 8) dX11_isCentralLetter_8 (ic_l_1) ?_
  refine jo_cV_V_i (pc := 9) (μ' := mu_X11_puts) (fx := f_X11_puts σ1 0 x0 1) (As := [.int 0, .int x0, .long 1]) (c_X11_puts hw hN) (ok_X11_puts) (ltb rfl) (all3 gw_1519 gw_1521 gw_85) (ik_306 hw hN) (by decide) (q := (RX11, TX11, 39)) rfl rfl rfl rfl (Nat.le_of_ble_eq_true rfl) dX11_isCentralLetter_9 (fun σ2 => ?_)
  refine jo_aload_n (pc := 12) 0 rfl dX11_isCentralLetter_12 rfl ?_
  refine jo_iconst (pc := 13) dX11_isCentralLetter_13 (ic_i_0) ?_
  refine jo_iconst (pc := 14) dX11_isCentralLetter_14 (ic_i_1) ?_
  refine jo_cV_Z_i (pc := 15) (μ' := mu_X11_isCentral) (fx := f_X11_isCentral σ2 0 1) (As := [.int 0, .int 1]) (c_X11_isCentral hw hN) (ok_X11_isCentral) (ltb rfl) (all3 gw_1742 gw_1744 gw_123) (ik_306 hw hN) (by decide) (q := (RX11, TX11, 39)) rfl rfl rfl rfl (Nat.le_of_ble_eq_true rfl) dX11_isCentralLetter_15 (fun b3 σ4 => ?_)
  exact jo_breturn (pc := 18) (b := b3) rfl rfl dX11_isCentralLetter_18
theorem c_X11_isCentralLetter {w : Wd} (hw : WOK w) (hN : wn w = NT) {σ : Mem} {x0 : Int32} : ∀ r σ', f_X11_isCentralLetter σ x0 = some (r, σ') → MC w mu_X11_isCentralLetter (vB r) [.ref (adr w 306), .int x0] σ σ' := mc_of ok_X11_isCentralLetter rfl (Nat.le_of_ble_eq_true rfl) (t_X11_isCentralLetter hw hN)
abbrev mu_X11_generator : MD := (yX11_generator, cX11_generator, 3, some .int, 37)
theorem ok_X11_generator : MOK mu_X11_generator 2 := ⟨gw_1737, gw_171, (by decide +kernel : plainFor yX11_generator = true), ⟨(by decide +kernel : yX11_generator.cls ≠ "java/lang/invoke/MethodHandle"), (by decide +kernel : yX11_generator.cls ≠ "java/lang/invoke/VarHandle"), (by decide +kernel : (parseMethodDescriptor yX11_generator.desc).map (fun d => d.parameters.length) = some 2)⟩, Nat.le_of_ble_eq_true rfl⟩
noncomputable def j_X11_generator_64 (σ4 : Mem) : Option (Int32 × Mem) :=
  some ((-1), σ4)
noncomputable def f_X11_generator (σ : Mem) (x0 : Int32) (x1 : Int32) : Option (Int32 × Mem) :=
  pF σ 306 0 0 (fun (σ1 : Mem) => (f_X11_n σ1).bind (fun (v2 : Int32) => (f_X11_isIn σ1 (Int32.toInt64 x0) 1 (Int32.toInt64 v2)).bind (fun (b3 : Bool) => if b3 then if x1 = 0 then ((f_X11_weight σ1 (x0 - 1)).bind (fun (v9 : Int32) => some (v9, σ1))) else ((if x1 = 1 then (bq (f_X11_isConsistent σ1) (fun (b5 : Bool) (σ6 : Mem) => if b5 then bq (f_X11_isCentralLetter σ6 (x0 - 1)) (fun (b7 : Bool) (σ8 : Mem) => if b7 then some (Sum.inr (1, σ8)) else some (Sum.inr (0, σ8))) else some (Sum.inl σ6))) else (some (Sum.inl σ1)) : Option (Mem ⊕ (Int32 × Mem))).bind (Sum.elim (fun (z4 : Mem) => j_X11_generator_64 z4) some)) else some ((-1), σ1))))
theorem t_X11_generator {w : Wd} (hw : WOK w) (hN : wn w = NT) {σ : Mem} {x0 : Int32} {x1 : Int32} : JO w mu_X11_generator vI σ [(0, .ref (adr w 306)), (1, .int x0), (2, .int x1)] [] 0 (f_X11_generator σ x0 x1) some := by
  unfold f_X11_generator
  refine jo_aload_n (pc := 0) 0 rfl dX11_generator_0 rfl ?_
  refine jo_iconst (pc := 1) dX11_generator_1 (ic_i_0) ?_
  refine jo_putf (pc := 2) ok_11_0 okp_11_0 (ik_306 hw hN) gw_1293 dX11_generator_2 (fun σ1 => ?_)
  refine jo_aload_n (pc := 5) 0 rfl dX11_generator_5 rfl ?_
  refine jo_iload_n (pc := 6) 1 rfl dX11_generator_6 rfl ?_
  refine jo_i2l (pc := 7) dX11_generator_7 ?_
  refine jo_lconst (pc := 8) dX11_generator_8 (ic_l_1) ?_
  refine jo_aload_n (pc := 9) 0 rfl dX11_generator_9 rfl ?_
  refine jo_cV_I_p (pc := 10) (μ' := mu_X11_n) (fx := f_X11_n σ1) (As := []) (c_X11_n hw hN) (ok_X11_n) (ltb rfl) (all3 gw_1441 gw_1443 gw_68) (ik_306 hw hN) (by decide) (q := (RX11, TX11, 39)) rfl rfl rfl rfl (Nat.le_of_ble_eq_true rfl) dX11_generator_10 (fun v2 => ?_)
  refine jo_i2l (pc := 13) dX11_generator_13 ?_
  refine jo_cV_Z_p (pc := 14) (μ' := mu_X11_isIn) (fx := f_X11_isIn σ1 (Int32.toInt64 x0) 1 (Int32.toInt64 v2)) (As := [.long (Int32.toInt64 x0), .long 1, .long (Int32.toInt64 v2)]) (c_X11_isIn hw hN) (ok_X11_isIn) (ltb rfl) (all3 gw_1420 gw_1422 gw_64) (ik_306 hw hN) (by decide) (q := (RX11, TX11, 39)) rfl rfl rfl rfl (Nat.le_of_ble_eq_true rfl) dX11_generator_14 (fun b3 => ?_)
  refine jo_ifz_ne (pc := 17) dX11_generator_17 (tgt := 22) rfl ?_ ?_
  · refine jo_iload_n (pc := 22) 2 rfl dX11_generator_22 rfl ?_
    refine jo_if_ne (pc := 23) dX11_generator_23 (tgt := 34) rfl ?_ ?_
    · refine jo_iload_n (pc := 34) 2 rfl dX11_generator_34 rfl ?_
      refine jo_iconst (pc := 35) dX11_generator_35 (ic_i_1) ?_
      refine jo_joinS (S := Mem) (fun (z4 : Mem) => z4) (fun (z4 : Mem) => []) (fun (z4 : Mem) => []) 64 ?_ (fun h64_4 => ?_)
      · intro σ4
        show JO w mu_X11_generator vI σ4 [] [] 64 (j_X11_generator_64 σ4) _
        unfold j_X11_generator_64
        refine jo_iconst (pc := 64) dX11_generator_64 (ic_i_m1) ?_
        exact jo_ireturn (pc := 65) rfl rfl dX11_generator_65
      · refine jo_icmp_ne (pc := 36) dX11_generator_36 (tgt := 64) rfl ?_ ?_
        · refine jo_lv (lv' := []) [] rfl ?_
          exact jo_leaf (by rfl) (h64_4 σ1)
        · refine jo_aload_n (pc := 39) 0 rfl dX11_generator_39 rfl ?_
          refine jo_cV_Z_i (pc := 40) (μ' := mu_X11_isConsistent) (fx := f_X11_isConsistent σ1) (As := []) (c_X11_isConsistent hw hN) (ok_X11_isConsistent) (ltb rfl) (all3 gw_1475 gw_1477 gw_74) (ik_306 hw hN) (by decide) (q := (RX11, TX11, 39)) rfl rfl rfl rfl (Nat.le_of_ble_eq_true rfl) dX11_generator_40 (fun b5 σ6 => ?_)
          refine jo_ifz_eq (pc := 43) dX11_generator_43 (tgt := 64) rfl ?_ ?_
          · refine jo_lv (lv' := []) [] rfl ?_
            exact jo_leaf (by rfl) (h64_4 σ6)
          · refine jo_aload_n (pc := 46) 0 rfl dX11_generator_46 rfl ?_
            refine jo_iload_n (pc := 47) 1 rfl dX11_generator_47 rfl ?_
            refine jo_iconst (pc := 48) dX11_generator_48 (ic_i_1) ?_
            refine jo_isub (pc := 49) dX11_generator_49 ?_
            refine jo_cV_Z_i (pc := 50) (μ' := mu_X11_isCentralLetter) (fx := f_X11_isCentralLetter σ6 (x0 - 1)) (As := [.int (x0 - 1)]) (c_X11_isCentralLetter hw hN) (ok_X11_isCentralLetter) (ltb rfl) (all3 gw_1738 gw_1740 gw_122) (ik_306 hw hN) (by decide) (q := (RX11, TX11, 39)) rfl rfl rfl rfl (Nat.le_of_ble_eq_true rfl) dX11_generator_50 (fun b7 σ8 => ?_)
            refine jo_ifz_eq (pc := 53) dX11_generator_53 (tgt := 60) rfl ?_ ?_
            · refine jo_iconst (pc := 60) dX11_generator_60 (ic_i_0) ?_
              refine jo_goto (pc := 61) dX11_generator_61 (tgt := 65) rfl ?_
              exact jo_ireturn (pc := 65) rfl rfl dX11_generator_65
            · refine jo_iconst (pc := 56) dX11_generator_56 (ic_i_1) ?_
              refine jo_goto (pc := 57) dX11_generator_57 (tgt := 65) rfl ?_
              exact jo_ireturn (pc := 65) rfl rfl dX11_generator_65
    · refine jo_aload_n (pc := 26) 0 rfl dX11_generator_26 rfl ?_
      refine jo_iload_n (pc := 27) 1 rfl dX11_generator_27 rfl ?_
      refine jo_iconst (pc := 28) dX11_generator_28 (ic_i_1) ?_
      refine jo_isub (pc := 29) dX11_generator_29 ?_
      refine jo_cV_I_p (pc := 30) (μ' := mu_X11_weight) (fx := f_X11_weight σ1 (x0 - 1)) (As := [.int (x0 - 1)]) (c_X11_weight hw hN) (ok_X11_weight) (ltb rfl) (all3 gw_1446 gw_1448 gw_69) (ik_306 hw hN) (by decide) (q := (RX11, TX11, 39)) rfl rfl rfl rfl (Nat.le_of_ble_eq_true rfl) dX11_generator_30 (fun v9 => ?_)
      exact jo_ireturn (pc := 33) rfl rfl dX11_generator_33
  · refine jo_iconst (pc := 20) dX11_generator_20 (ic_i_m1) ?_
    exact jo_ireturn (pc := 21) rfl rfl dX11_generator_21
theorem c_X11_generator {w : Wd} (hw : WOK w) (hN : wn w = NT) {σ : Mem} {x0 : Int32} {x1 : Int32} : ∀ r σ', f_X11_generator σ x0 x1 = some (r, σ') → MC w mu_X11_generator (vI r) [.ref (adr w 306), .int x0, .int x1] σ σ' := mc_of ok_X11_generator rfl (Nat.le_of_ble_eq_true rfl) (t_X11_generator hw hN)
abbrev mu_X11_tailOf : MD := (yX11_tailOf, cX11_tailOf, 4, some .int, 2)
theorem ok_X11_tailOf : MOK mu_X11_tailOf 3 := ⟨gw_1757, gw_171, (by decide +kernel : plainFor yX11_tailOf = true), ⟨(by decide +kernel : yX11_tailOf.cls ≠ "java/lang/invoke/MethodHandle"), (by decide +kernel : yX11_tailOf.cls ≠ "java/lang/invoke/VarHandle"), (by decide +kernel : (parseMethodDescriptor yX11_tailOf.desc).map (fun d => d.parameters.length) = some 3)⟩, Nat.le_of_ble_eq_true rfl⟩
noncomputable def f_X11_tailOf (σ : Mem) (x0 : Int32) (x1 : Int32) (x2 : Int32) : Option (Int32 × Mem) :=
  pF σ 306 0 0 (fun (σ1 : Mem) => (f_X11_isTail σ1 x0 x1 x2).bind (fun (b2 : Bool) => if b2 then (f_X11_tail σ1 (x0 - 1) (x1 - 1) (x2 - 1)).bind (fun (v3 : Int32) => some (v3, σ1)) else some ((-1), σ1)))
theorem t_X11_tailOf {w : Wd} (hw : WOK w) (hN : wn w = NT) {σ : Mem} {x0 : Int32} {x1 : Int32} {x2 : Int32} : JO w mu_X11_tailOf vI σ [(0, .ref (adr w 306)), (1, .int x0), (2, .int x1), (3, .int x2)] [] 0 (f_X11_tailOf σ x0 x1 x2) some := by
  unfold f_X11_tailOf
  refine jo_aload_n (pc := 0) 0 rfl dX11_tailOf_0 rfl ?_
  refine jo_iconst (pc := 1) dX11_tailOf_1 (ic_i_0) ?_
  refine jo_putf (pc := 2) ok_11_0 okp_11_0 (ik_306 hw hN) gw_1293 dX11_tailOf_2 (fun σ1 => ?_)
  refine jo_aload_n (pc := 5) 0 rfl dX11_tailOf_5 rfl ?_
  refine jo_iload_n (pc := 6) 1 rfl dX11_tailOf_6 rfl ?_
  refine jo_iload_n (pc := 7) 2 rfl dX11_tailOf_7 rfl ?_
  refine jo_iload_n (pc := 8) 3 rfl dX11_tailOf_8 rfl ?_
  refine jo_cV_Z_p (pc := 9) (μ' := mu_X11_isTail) (fx := f_X11_isTail σ1 x0 x1 x2) (As := [.int x0, .int x1, .int x2]) (c_X11_isTail hw hN) (ok_X11_isTail) (ltb rfl) (all3 gw_1437 gw_1439 gw_67) (ik_306 hw hN) (by decide) (q := (RX11, TX11, 39)) rfl rfl rfl rfl (Nat.le_of_ble_eq_true rfl) dX11_tailOf_9 (fun b2 => ?_)
  refine jo_ifz_eq (pc := 12) dX11_tailOf_12 (tgt := 31) rfl ?_ ?_
  · refine jo_iconst (pc := 31) dX11_tailOf_31 (ic_i_m1) ?_
    exact jo_ireturn (pc := 32) rfl rfl dX11_tailOf_32
  · refine jo_aload_n (pc := 15) 0 rfl dX11_tailOf_15 rfl ?_
    refine jo_iload_n (pc := 16) 1 rfl dX11_tailOf_16 rfl ?_
    refine jo_iconst (pc := 17) dX11_tailOf_17 (ic_i_1) ?_
    refine jo_isub (pc := 18) dX11_tailOf_18 ?_
    refine jo_iload_n (pc := 19) 2 rfl dX11_tailOf_19 rfl ?_
    refine jo_iconst (pc := 20) dX11_tailOf_20 (ic_i_1) ?_
    refine jo_isub (pc := 21) dX11_tailOf_21 ?_
    refine jo_iload_n (pc := 22) 3 rfl dX11_tailOf_22 rfl ?_
    refine jo_iconst (pc := 23) dX11_tailOf_23 (ic_i_1) ?_
    refine jo_isub (pc := 24) dX11_tailOf_24 ?_
    refine jo_cV_I_p (pc := 25) (μ' := mu_X11_tail) (fx := f_X11_tail σ1 (x0 - 1) (x1 - 1) (x2 - 1)) (As := [.int (x0 - 1), .int (x1 - 1), .int (x2 - 1)]) (c_X11_tail hw hN) (ok_X11_tail) (ltb rfl) (all3 gw_1495 gw_1497 gw_79) (ik_306 hw hN) (by decide) (q := (RX11, TX11, 39)) rfl rfl rfl rfl (Nat.le_of_ble_eq_true rfl) dX11_tailOf_25 (fun v3 => ?_)
    refine jo_goto (pc := 28) dX11_tailOf_28 (tgt := 32) rfl ?_
    exact jo_ireturn (pc := 32) rfl rfl dX11_tailOf_32
theorem c_X11_tailOf {w : Wd} (hw : WOK w) (hN : wn w = NT) {σ : Mem} {x0 : Int32} {x1 : Int32} {x2 : Int32} : ∀ r σ', f_X11_tailOf σ x0 x1 x2 = some (r, σ') → MC w mu_X11_tailOf (vI r) [.ref (adr w 306), .int x0, .int x1, .int x2] σ σ' := mc_of ok_X11_tailOf rfl (Nat.le_of_ble_eq_true rfl) (t_X11_tailOf hw hN)
abbrev mu_X11_isPolynomial : MD := (yX11_isPolynomial, cX11_isPolynomial, 2, some .boolean, 37)
theorem ok_X11_isPolynomial : MOK mu_X11_isPolynomial 1 := ⟨gw_1765, gw_171, (by decide +kernel : plainFor yX11_isPolynomial = true), ⟨(by decide +kernel : yX11_isPolynomial.cls ≠ "java/lang/invoke/MethodHandle"), (by decide +kernel : yX11_isPolynomial.cls ≠ "java/lang/invoke/VarHandle"), (by decide +kernel : (parseMethodDescriptor yX11_isPolynomial.desc).map (fun d => d.parameters.length) = some 1)⟩, Nat.le_of_ble_eq_true rfl⟩
noncomputable def j_X11_isPolynomial_26 (σ3 : Mem) : Option (Bool × Mem) :=
  some (false, σ3)
noncomputable def f_X11_isPolynomial (σ : Mem) (x0 : Int32) : Option (Bool × Mem) :=
  (f_X11_n σ).bind (fun (v1 : Int32) => (f_X11_isIn σ (Int32.toInt64 x0) 1 (Int32.toInt64 v1)).bind (fun (b2 : Bool) => (if b2 then bq (f_X11_isConsistent σ) (fun (b4 : Bool) (σ5 : Mem) => if b4 then some (Sum.inr (true, σ5)) else some (Sum.inl σ5)) else some (Sum.inl σ) : Option (Mem ⊕ (Bool × Mem))).bind (Sum.elim (fun (z3 : Mem) => j_X11_isPolynomial_26 z3) some)))
theorem t_X11_isPolynomial {w : Wd} (hw : WOK w) (hN : wn w = NT) {σ : Mem} {x0 : Int32} : JO w mu_X11_isPolynomial vB σ [(0, .ref (adr w 306)), (1, .int x0)] [] 0 (f_X11_isPolynomial σ x0) some := by
  unfold f_X11_isPolynomial
  refine jo_aload_n (pc := 0) 0 rfl dX11_isPolynomial_0 rfl ?_
  refine jo_iload_n (pc := 1) 1 rfl dX11_isPolynomial_1 rfl ?_
  refine jo_i2l (pc := 2) dX11_isPolynomial_2 ?_
  refine jo_lconst (pc := 3) dX11_isPolynomial_3 (ic_l_1) ?_
  refine jo_aload_n (pc := 4) 0 rfl dX11_isPolynomial_4 rfl ?_
  refine jo_cV_I_p (pc := 5) (μ' := mu_X11_n) (fx := f_X11_n σ) (As := []) (c_X11_n hw hN) (ok_X11_n) (ltb rfl) (all3 gw_1441 gw_1443 gw_68) (ik_306 hw hN) (by decide) (q := (RX11, TX11, 39)) rfl rfl rfl rfl (Nat.le_of_ble_eq_true rfl) dX11_isPolynomial_5 (fun v1 => ?_)
  refine jo_i2l (pc := 8) dX11_isPolynomial_8 ?_
  refine jo_cV_Z_p (pc := 9) (μ' := mu_X11_isIn) (fx := f_X11_isIn σ (Int32.toInt64 x0) 1 (Int32.toInt64 v1)) (As := [.long (Int32.toInt64 x0), .long 1, .long (Int32.toInt64 v1)]) (c_X11_isIn hw hN) (ok_X11_isIn) (ltb rfl) (all3 gw_1420 gw_1422 gw_64) (ik_306 hw hN) (by decide) (q := (RX11, TX11, 39)) rfl rfl rfl rfl (Nat.le_of_ble_eq_true rfl) dX11_isPolynomial_9 (fun b2 => ?_)
  refine jo_joinS (S := Mem) (fun (z3 : Mem) => z3) (fun (z3 : Mem) => []) (fun (z3 : Mem) => []) 26 ?_ (fun h26_3 => ?_)
  · intro σ3
    show JO w mu_X11_isPolynomial vB σ3 [] [] 26 (j_X11_isPolynomial_26 σ3) _
    unfold j_X11_isPolynomial_26
    refine jo_iconst (pc := 26) dX11_isPolynomial_26 (ic_i_0) ?_
    exact jo_breturn (pc := 27) (b := false) rfl rfl dX11_isPolynomial_27
  · refine jo_ifz_eq (pc := 12) dX11_isPolynomial_12 (tgt := 26) rfl ?_ ?_
    · refine jo_lv (lv' := []) [] rfl ?_
      exact jo_leaf (by rfl) (h26_3 σ)
    · refine jo_aload_n (pc := 15) 0 rfl dX11_isPolynomial_15 rfl ?_
      refine jo_cV_Z_i (pc := 16) (μ' := mu_X11_isConsistent) (fx := f_X11_isConsistent σ) (As := []) (c_X11_isConsistent hw hN) (ok_X11_isConsistent) (ltb rfl) (all3 gw_1475 gw_1477 gw_74) (ik_306 hw hN) (by decide) (q := (RX11, TX11, 39)) rfl rfl rfl rfl (Nat.le_of_ble_eq_true rfl) dX11_isPolynomial_16 (fun b4 σ5 => ?_)
      refine jo_ifz_eq (pc := 19) dX11_isPolynomial_19 (tgt := 26) rfl ?_ ?_
      · refine jo_lv (lv' := []) [] rfl ?_
        exact jo_leaf (by rfl) (h26_3 σ5)
      · refine jo_iconst (pc := 22) dX11_isPolynomial_22 (ic_i_1) ?_
        refine jo_goto (pc := 23) dX11_isPolynomial_23 (tgt := 27) rfl ?_
        exact jo_breturn (pc := 27) (b := true) rfl rfl dX11_isPolynomial_27
theorem c_X11_isPolynomial {w : Wd} (hw : WOK w) (hN : wn w = NT) {σ : Mem} {x0 : Int32} : ∀ r σ', f_X11_isPolynomial σ x0 = some (r, σ') → MC w mu_X11_isPolynomial (vB r) [.ref (adr w 306), .int x0] σ σ' := mc_of ok_X11_isPolynomial rfl (Nat.le_of_ble_eq_true rfl) (t_X11_isPolynomial hw hN)
abbrev mu_X11_terms : MD := (yX11_terms, cX11_terms, 2, some .int, 38)
theorem ok_X11_terms : MOK mu_X11_terms 1 := ⟨gw_1761, gw_171, (by decide +kernel : plainFor yX11_terms = true), ⟨(by decide +kernel : yX11_terms.cls ≠ "java/lang/invoke/MethodHandle"), (by decide +kernel : yX11_terms.cls ≠ "java/lang/invoke/VarHandle"), (by decide +kernel : (parseMethodDescriptor yX11_terms.desc).map (fun d => d.parameters.length) = some 1)⟩, Nat.le_of_ble_eq_true rfl⟩
noncomputable def f_X11_terms (σ : Mem) (x0 : Int32) : Option (Int32 × Mem) :=
  pF σ 306 0 0 (fun (σ1 : Mem) => bq (f_X11_isPolynomial σ1 x0) (fun (b2 : Bool) (σ3 : Mem) => if b2 then gI σ3 311 (x0 - 1) (fun (v4 : Int32) => some (v4, σ3)) else some ((-1), σ3)))
theorem t_X11_terms {w : Wd} (hw : WOK w) (hN : wn w = NT) {σ : Mem} {x0 : Int32} : JO w mu_X11_terms vI σ [(0, .ref (adr w 306)), (1, .int x0)] [] 0 (f_X11_terms σ x0) some := by
  unfold f_X11_terms
  refine jo_aload_n (pc := 0) 0 rfl dX11_terms_0 rfl ?_
  refine jo_iconst (pc := 1) dX11_terms_1 (ic_i_0) ?_
  refine jo_putf (pc := 2) ok_11_0 okp_11_0 (ik_306 hw hN) gw_1293 dX11_terms_2 (fun σ1 => ?_)
  refine jo_aload_n (pc := 5) 0 rfl dX11_terms_5 rfl ?_
  refine jo_iload_n (pc := 6) 1 rfl dX11_terms_6 rfl ?_
  refine jo_cV_Z_i (pc := 7) (μ' := mu_X11_isPolynomial) (fx := f_X11_isPolynomial σ1 x0) (As := [.int x0]) (c_X11_isPolynomial hw hN) (ok_X11_isPolynomial) (ltb rfl) (all3 gw_1762 gw_1764 gw_126) (ik_306 hw hN) (by decide) (q := (RX11, TX11, 39)) rfl rfl rfl rfl (Nat.le_of_ble_eq_true rfl) dX11_terms_7 (fun b2 σ3 => ?_)
  refine jo_ifz_eq (pc := 10) dX11_terms_10 (tgt := 24) rfl ?_ ?_
  · refine jo_iconst (pc := 24) dX11_terms_24 (ic_i_m1) ?_
    exact jo_ireturn (pc := 25) rfl rfl dX11_terms_25
  · refine jo_aload_n (pc := 13) 0 rfl dX11_terms_13 rfl ?_
    refine jo_getrE (pc := 14) ok_11_11 (ik_306 hw hN) rf_306_11 gw_1304 dX11_terms_14 ?_
    refine jo_iload_n (pc := 17) 1 rfl dX11_terms_17 rfl ?_
    refine jo_iconst (pc := 18) dX11_terms_18 (ic_i_1) ?_
    refine jo_isub (pc := 19) dX11_terms_19 ?_
    refine jo_iald (pc := 20) (ik_311 hw hN) dX11_terms_20 (fun v4 => ?_)
    refine jo_goto (pc := 21) dX11_terms_21 (tgt := 25) rfl ?_
    exact jo_ireturn (pc := 25) rfl rfl dX11_terms_25
theorem c_X11_terms {w : Wd} (hw : WOK w) (hN : wn w = NT) {σ : Mem} {x0 : Int32} : ∀ r σ', f_X11_terms σ x0 = some (r, σ') → MC w mu_X11_terms (vI r) [.ref (adr w 306), .int x0] σ σ' := mc_of ok_X11_terms rfl (Nat.le_of_ble_eq_true rfl) (t_X11_terms hw hN)
abbrev mu_X11_termAt : MD := (yX11_termAt, cX11_termAt, 3, some .int, 0)
theorem ok_X11_termAt : MOK mu_X11_termAt 2 := ⟨gw_1773, gw_171, (by decide +kernel : plainFor yX11_termAt = true), ⟨(by decide +kernel : yX11_termAt.cls ≠ "java/lang/invoke/MethodHandle"), (by decide +kernel : yX11_termAt.cls ≠ "java/lang/invoke/VarHandle"), (by decide +kernel : (parseMethodDescriptor yX11_termAt.desc).map (fun d => d.parameters.length) = some 2)⟩, Nat.le_of_ble_eq_true rfl⟩
noncomputable def f_X11_termAt (σ : Mem) (x0 : Int32) (x1 : Int32) : Option Int32 :=
  some ((9100 * (x0 - 1)) + (13 * x1))
theorem t_X11_termAt {w : Wd} (hw : WOK w) (hN : wn w = NT) {σ : Mem} {x0 : Int32} {x1 : Int32} : JO w mu_X11_termAt vI σ [(0, .ref (adr w 306)), (1, .int x0), (2, .int x1)] [] 0 (f_X11_termAt σ x0 x1) (fun z => some (z, σ)) := by
  unfold f_X11_termAt
  refine jo_sipush (pc := 0) dX11_termAt_0 (ic_s_9100) ?_
  refine jo_iload_n (pc := 3) 1 rfl dX11_termAt_3 rfl ?_
  refine jo_iconst (pc := 4) dX11_termAt_4 (ic_i_1) ?_
  refine jo_isub (pc := 5) dX11_termAt_5 ?_
  refine jo_imul (pc := 6) dX11_termAt_6 ?_
  refine jo_bipush (pc := 7) dX11_termAt_7 (ic_b_13) ?_
  refine jo_iload_n (pc := 9) 2 rfl dX11_termAt_9 rfl ?_
  refine jo_imul (pc := 10) dX11_termAt_10 ?_
  refine jo_iadd (pc := 11) dX11_termAt_11 ?_
  exact jo_ireturn (pc := 12) rfl rfl dX11_termAt_12
theorem c_X11_termAt {w : Wd} (hw : WOK w) (hN : wn w = NT) {σ : Mem} {x0 : Int32} {x1 : Int32} : ∀ r, f_X11_termAt σ x0 x1 = some r → MC w mu_X11_termAt (vI r) [.ref (adr w 306), .int x0, .int x1] σ σ := mc_ofP ok_X11_termAt rfl (Nat.le_of_ble_eq_true rfl) (t_X11_termAt hw hN)
abbrev mu_X11_term : MD := (yX11_term, cX11_term, 4, some .int, 38)
theorem ok_X11_term : MOK mu_X11_term 3 := ⟨gw_1769, gw_171, (by decide +kernel : plainFor yX11_term = true), ⟨(by decide +kernel : yX11_term.cls ≠ "java/lang/invoke/MethodHandle"), (by decide +kernel : yX11_term.cls ≠ "java/lang/invoke/VarHandle"), (by decide +kernel : (parseMethodDescriptor yX11_term.desc).map (fun d => d.parameters.length) = some 3)⟩, Nat.le_of_ble_eq_true rfl⟩
noncomputable def f_X11_term (σ : Mem) (x0 : Int32) (x1 : Int32) (x2 : Int32) : Option (Int32 × Mem) :=
  pF σ 306 0 0 (fun (σ1 : Mem) => bq (f_X11_isPolynomial σ1 x0) (fun (b2 : Bool) (σ3 : Mem) => if b2 then gI σ3 311 (x0 - 1) (fun (v4 : Int32) => (f_X11_isIn σ3 (Int32.toInt64 x1) 0 ((Int32.toInt64 v4) - 1)).bind (fun (b5 : Bool) => if b5 then (f_X11_n σ3).bind (fun (v6 : Int32) => (f_X11_isIn σ3 (Int32.toInt64 x2) 0 (2 * (Int32.toInt64 v6))).bind (fun (b7 : Bool) => if b7 then (f_X11_termAt σ3 x0 x1).bind (fun (v8 : Int32) => gL σ3 312 (v8 + x2) (fun (v9 : Int64) => some (Int64.toInt32 v9, σ3))) else some ((-10000), σ3))) else some ((-10000), σ3))) else some ((-10000), σ3)))
theorem t_X11_term {w : Wd} (hw : WOK w) (hN : wn w = NT) {σ : Mem} {x0 : Int32} {x1 : Int32} {x2 : Int32} : JO w mu_X11_term vI σ [(0, .ref (adr w 306)), (1, .int x0), (2, .int x1), (3, .int x2)] [] 0 (f_X11_term σ x0 x1 x2) some := by
  unfold f_X11_term
  refine jo_aload_n (pc := 0) 0 rfl dX11_term_0 rfl ?_
  refine jo_iconst (pc := 1) dX11_term_1 (ic_i_0) ?_
  refine jo_putf (pc := 2) ok_11_0 okp_11_0 (ik_306 hw hN) gw_1293 dX11_term_2 (fun σ1 => ?_)
  refine jo_aload_n (pc := 5) 0 rfl dX11_term_5 rfl ?_
  refine jo_iload_n (pc := 6) 1 rfl dX11_term_6 rfl ?_
  refine jo_cV_Z_i (pc := 7) (μ' := mu_X11_isPolynomial) (fx := f_X11_isPolynomial σ1 x0) (As := [.int x0]) (c_X11_isPolynomial hw hN) (ok_X11_isPolynomial) (ltb rfl) (all3 gw_1762 gw_1764 gw_126) (ik_306 hw hN) (by decide) (q := (RX11, TX11, 39)) rfl rfl rfl rfl (Nat.le_of_ble_eq_true rfl) dX11_term_7 (fun b2 σ3 => ?_)
  refine jo_ifz_eq (pc := 10) dX11_term_10 (tgt := 53) rfl ?_ ?_
  · refine jo_sipush (pc := 53) dX11_term_53 (ic_s_m10000) ?_
    exact jo_ireturn (pc := 56) rfl rfl dX11_term_56
  · refine jo_aload_n (pc := 13) 0 rfl dX11_term_13 rfl ?_
    refine jo_iload_n (pc := 14) 2 rfl dX11_term_14 rfl ?_
    refine jo_i2l (pc := 15) dX11_term_15 ?_
    refine jo_lconst (pc := 16) dX11_term_16 (ic_l_0) ?_
    refine jo_aload_n (pc := 17) 0 rfl dX11_term_17 rfl ?_
    refine jo_getrE (pc := 18) ok_11_11 (ik_306 hw hN) rf_306_11 gw_1304 dX11_term_18 ?_
    refine jo_iload_n (pc := 21) 1 rfl dX11_term_21 rfl ?_
    refine jo_iconst (pc := 22) dX11_term_22 (ic_i_1) ?_
    refine jo_isub (pc := 23) dX11_term_23 ?_
    refine jo_iald (pc := 24) (ik_311 hw hN) dX11_term_24 (fun v4 => ?_)
    refine jo_i2l (pc := 25) dX11_term_25 ?_
    refine jo_lconst (pc := 26) dX11_term_26 (ic_l_1) ?_
    refine jo_lsub (pc := 27) dX11_term_27 ?_
    refine jo_cV_Z_p (pc := 28) (μ' := mu_X11_isIn) (fx := f_X11_isIn σ3 (Int32.toInt64 x1) 0 ((Int32.toInt64 v4) - 1)) (As := [.long (Int32.toInt64 x1), .long 0, .long ((Int32.toInt64 v4) - 1)]) (c_X11_isIn hw hN) (ok_X11_isIn) (ltb rfl) (all3 gw_1420 gw_1422 gw_64) (ik_306 hw hN) (by decide) (q := (RX11, TX11, 39)) rfl rfl rfl rfl (Nat.le_of_ble_eq_true rfl) dX11_term_28 (fun b5 => ?_)
    refine jo_ifz_eq (pc := 31) dX11_term_31 (tgt := 53) rfl ?_ ?_
    · refine jo_sipush (pc := 53) dX11_term_53 (ic_s_m10000) ?_
      exact jo_ireturn (pc := 56) rfl rfl dX11_term_56
    · refine jo_aload_n (pc := 34) 0 rfl dX11_term_34 rfl ?_
      refine jo_iload_n (pc := 35) 3 rfl dX11_term_35 rfl ?_
      refine jo_i2l (pc := 36) dX11_term_36 ?_
      refine jo_lconst (pc := 37) dX11_term_37 (ic_l_0) ?_
      refine jo_ldc2 (pc := 38) dX11_term_38 gw_1547 ?_
      refine jo_aload_n (pc := 41) 0 rfl dX11_term_41 rfl ?_
      refine jo_cV_I_p (pc := 42) (μ' := mu_X11_n) (fx := f_X11_n σ3) (As := []) (c_X11_n hw hN) (ok_X11_n) (ltb rfl) (all3 gw_1441 gw_1443 gw_68) (ik_306 hw hN) (by decide) (q := (RX11, TX11, 39)) rfl rfl rfl rfl (Nat.le_of_ble_eq_true rfl) dX11_term_42 (fun v6 => ?_)
      refine jo_i2l (pc := 45) dX11_term_45 ?_
      refine jo_lmul (pc := 46) dX11_term_46 ?_
      refine jo_cV_Z_p (pc := 47) (μ' := mu_X11_isIn) (fx := f_X11_isIn σ3 (Int32.toInt64 x2) 0 (2 * (Int32.toInt64 v6))) (As := [.long (Int32.toInt64 x2), .long 0, .long (2 * (Int32.toInt64 v6))]) (c_X11_isIn hw hN) (ok_X11_isIn) (ltb rfl) (all3 gw_1420 gw_1422 gw_64) (ik_306 hw hN) (by decide) (q := (RX11, TX11, 39)) rfl rfl rfl rfl (Nat.le_of_ble_eq_true rfl) dX11_term_47 (fun b7 => ?_)
      refine jo_ifz_ne (pc := 50) dX11_term_50 (tgt := 57) rfl ?_ ?_
      · refine jo_aload_n (pc := 57) 0 rfl dX11_term_57 rfl ?_
        refine jo_getrE (pc := 58) ok_11_12 (ik_306 hw hN) rf_306_12 gw_1305 dX11_term_58 ?_
        refine jo_aload_n (pc := 61) 0 rfl dX11_term_61 rfl ?_
        refine jo_iload_n (pc := 62) 1 rfl dX11_term_62 rfl ?_
        refine jo_iload_n (pc := 63) 2 rfl dX11_term_63 rfl ?_
        refine jo_cV_I_p (pc := 64) (μ' := mu_X11_termAt) (fx := f_X11_termAt σ3 x0 x1) (As := [.int x0, .int x1]) (c_X11_termAt hw hN) (ok_X11_termAt) (ltb rfl) (all3 gw_1770 gw_1772 gw_127) (ik_306 hw hN) (by decide) (q := (RX11, TX11, 39)) rfl rfl rfl rfl (Nat.le_of_ble_eq_true rfl) dX11_term_64 (fun v8 => ?_)
        refine jo_iload_n (pc := 67) 3 rfl dX11_term_67 rfl ?_
        refine jo_iadd (pc := 68) dX11_term_68 ?_
        refine jo_lald (pc := 69) (ik_312 hw hN) dX11_term_69 (fun v9 => ?_)
        refine jo_l2i (pc := 70) dX11_term_70 ?_
        exact jo_ireturn (pc := 71) rfl rfl dX11_term_71
      · refine jo_sipush (pc := 53) dX11_term_53 (ic_s_m10000) ?_
        exact jo_ireturn (pc := 56) rfl rfl dX11_term_56
theorem c_X11_term {w : Wd} (hw : WOK w) (hN : wn w = NT) {σ : Mem} {x0 : Int32} {x1 : Int32} {x2 : Int32} : ∀ r σ', f_X11_term σ x0 x1 x2 = some (r, σ') → MC w mu_X11_term (vI r) [.ref (adr w 306), .int x0, .int x1, .int x2] σ σ' := mc_of ok_X11_term rfl (Nat.le_of_ble_eq_true rfl) (t_X11_term hw hN)
abbrev mu_X11_degreeOf : MD := (yX11_degreeOf, cX11_degreeOf, 5, some .int, 1)
theorem ok_X11_degreeOf : MOK mu_X11_degreeOf 2 := ⟨gw_1781, gw_171, (by decide +kernel : plainFor yX11_degreeOf = true), ⟨(by decide +kernel : yX11_degreeOf.cls ≠ "java/lang/invoke/MethodHandle"), (by decide +kernel : yX11_degreeOf.cls ≠ "java/lang/invoke/VarHandle"), (by decide +kernel : (parseMethodDescriptor yX11_degreeOf.desc).map (fun d => d.parameters.length) = some 2)⟩, Nat.le_of_ble_eq_true rfl⟩
noncomputable def l_X11_degreeOf_5 (σ : Mem) (x0 : Int32) (x1 : Int32) (i1 : Int32) (i2 : Int32) : Option ((Int32 × Int32) ⊕ Int32) :=
  (f_X11_n σ).bind (fun (v3 : Int32) => if (2 * v3) < i2 then (some (Sum.inr i1)) else ((f_X11_termAt σ x0 x1).bind (fun (v4 : Int32) => gL σ 312 (v4 + i2) (fun (v5 : Int64) => bd (i1 + (Int64.toInt32 v5)) (fun (v6 : Int32) => some (Sum.inl (v6, i2 + 1)))))))
noncomputable def f_X11_degreeOf (σ : Mem) (x0 : Int32) (x1 : Int32) : Option Int32 :=
  loopO (fun (z2 : (Int32 × Int32)) => l_X11_degreeOf_5 σ x0 x1 z2.1 z2.2) (0, 1)
theorem t_X11_degreeOf {w : Wd} (hw : WOK w) (hN : wn w = NT) {σ : Mem} {x0 : Int32} {x1 : Int32} : JO w mu_X11_degreeOf vI σ [(0, .ref (adr w 306)), (1, .int x0), (2, .int x1)] [] 0 (f_X11_degreeOf σ x0 x1) (fun z => some (z, σ)) := by
  unfold f_X11_degreeOf
  refine jo_iconst (pc := 0) dX11_degreeOf_0 (ic_i_0) ?_
  refine jo_istore_n (pc := 1) (lv' := [(3, .int 0), (0, .ref (adr w 306)), (1, .int x0), (2, .int x1)]) dX11_degreeOf_1 rfl (ltb rfl) rfl ?_
  refine jo_iconst (pc := 2) dX11_degreeOf_2 (ic_i_1) ?_
  refine jo_istore (pc := 3) (lv' := [(4, .int 1), (3, .int 0), (0, .ref (adr w 306)), (1, .int x0), (2, .int x1)]) dX11_degreeOf_3 (ltb rfl) rfl ?_
  refine jo_lv (lv' := [(0, .ref (adr w 306)), (1, .int x0), (2, .int x1), (3, .int 0), (4, .int 1)]) [2, 3, 4, 1, 0] rfl ?_
  refine jo_loop (X := Int32) (fun (z2 : (Int32 × Int32)) => σ) (fun (z2 : (Int32 × Int32)) => [(0, .ref (adr w 306)), (1, .int x0), (2, .int x1), (3, .int z2.1), (4, .int z2.2)]) (body := (fun (z2 : (Int32 × Int32)) => l_X11_degreeOf_5 σ x0 x1 z2.1 z2.2)) (fun F5_2 hF5_2 s => ?_) (0, 1)
  obtain ⟨i1, i2⟩ := s
  show JO w mu_X11_degreeOf vI σ [(0, .ref (adr w 306)), (1, .int x0), (2, .int x1), (3, .int i1), (4, .int i2)] [] 5 (l_X11_degreeOf_5 σ x0 x1 i1 i2) _
  unfold l_X11_degreeOf_5
  refine jo_iload (pc := 5) 4 rfl dX11_degreeOf_5 ?_
  refine jo_iconst (pc := 7) dX11_degreeOf_7 (ic_i_2) ?_
  refine jo_aload_n (pc := 8) 0 rfl dX11_degreeOf_8 rfl ?_
  refine jo_cV_I_p (pc := 9) (μ' := mu_X11_n) (fx := f_X11_n σ) (As := []) (c_X11_n hw hN) (ok_X11_n) (ltb rfl) (all3 gw_1441 gw_1443 gw_68) (ik_306 hw hN) (by decide) (q := (RX11, TX11, 39)) rfl rfl rfl rfl (Nat.le_of_ble_eq_true rfl) dX11_degreeOf_9 (fun v3 => ?_)
  refine jo_imul (pc := 12) dX11_degreeOf_12 ?_
  refine jo_icmp_gt (pc := 13) dX11_degreeOf_13 (tgt := 40) rfl ?_ ?_
  · refine jo_iload_n (pc := 40) 3 rfl dX11_degreeOf_40 rfl ?_
    exact jo_ireturn (pc := 41) rfl rfl dX11_degreeOf_41
  · refine jo_iload_n (pc := 16) 3 rfl dX11_degreeOf_16 rfl ?_
    refine jo_aload_n (pc := 17) 0 rfl dX11_degreeOf_17 rfl ?_
    refine jo_getrE (pc := 18) ok_11_12 (ik_306 hw hN) rf_306_12 gw_1305 dX11_degreeOf_18 ?_
    refine jo_aload_n (pc := 21) 0 rfl dX11_degreeOf_21 rfl ?_
    refine jo_iload_n (pc := 22) 1 rfl dX11_degreeOf_22 rfl ?_
    refine jo_iload_n (pc := 23) 2 rfl dX11_degreeOf_23 rfl ?_
    refine jo_cV_I_p (pc := 24) (μ' := mu_X11_termAt) (fx := f_X11_termAt σ x0 x1) (As := [.int x0, .int x1]) (c_X11_termAt hw hN) (ok_X11_termAt) (ltb rfl) (all3 gw_1770 gw_1772 gw_127) (ik_306 hw hN) (by decide) (q := (RX11, TX11, 39)) rfl rfl rfl rfl (Nat.le_of_ble_eq_true rfl) dX11_degreeOf_24 (fun v4 => ?_)
    refine jo_iload (pc := 27) 4 rfl dX11_degreeOf_27 ?_
    refine jo_iadd (pc := 29) dX11_degreeOf_29 ?_
    refine jo_lald (pc := 30) (ik_312 hw hN) dX11_degreeOf_30 (fun v5 => ?_)
    refine jo_l2i (pc := 31) dX11_degreeOf_31 ?_
    refine jo_iadd (pc := 32) dX11_degreeOf_32 ?_
    refine jo_bd ?_
    refine jo_istore_n (pc := 33) (lv' := [(3, .int (i1 + (Int64.toInt32 v5))), (0, .ref (adr w 306)), (1, .int x0), (2, .int x1), (4, .int i2)]) dX11_degreeOf_33 rfl (ltb rfl) rfl ?_
    generalize (i1 + (Int64.toInt32 v5)) = v6
    refine jo_iinc (pc := 34) (lv' := [(4, .int (i2 + 1)), (3, .int v6), (0, .ref (adr w 306)), (1, .int x0), (2, .int x1)]) 4 rfl dX11_degreeOf_34 (congrArg (fun z => i2 + z) (ic_i_1)) (ltb rfl) rfl ?_
    refine jo_goto (pc := 37) dX11_degreeOf_37 (tgt := 5) rfl ?_
    refine jo_lv (lv' := [(0, .ref (adr w 306)), (1, .int x0), (2, .int x1), (3, .int v6), (4, .int (i2 + 1))]) [2, 3, 4, 1, 0] rfl ?_
    exact jo_leaf (by rfl) (hF5_2 (v6, i2 + 1))
theorem c_X11_degreeOf {w : Wd} (hw : WOK w) (hN : wn w = NT) {σ : Mem} {x0 : Int32} {x1 : Int32} : ∀ r, f_X11_degreeOf σ x0 x1 = some r → MC w mu_X11_degreeOf (vI r) [.ref (adr w 306), .int x0, .int x1] σ σ := mc_ofP ok_X11_degreeOf rfl (Nat.le_of_ble_eq_true rfl) (t_X11_degreeOf hw hN)
abbrev mu_X11_weightOfTerm : MD := (yX11_weightOfTerm, cX11_weightOfTerm, 5, some .int, 2)
theorem ok_X11_weightOfTerm : MOK mu_X11_weightOfTerm 2 := ⟨gw_1786, gw_171, (by decide +kernel : plainFor yX11_weightOfTerm = true), ⟨(by decide +kernel : yX11_weightOfTerm.cls ≠ "java/lang/invoke/MethodHandle"), (by decide +kernel : yX11_weightOfTerm.cls ≠ "java/lang/invoke/VarHandle"), (by decide +kernel : (parseMethodDescriptor yX11_weightOfTerm.desc).map (fun d => d.parameters.length) = some 2)⟩, Nat.le_of_ble_eq_true rfl⟩
noncomputable def l_X11_weightOfTerm_5 (σ : Mem) (x0 : Int32) (x1 : Int32) (i1 : Int32) (i2 : Int32) : Option ((Int32 × Int32) ⊕ Int32) :=
  (f_X11_n σ).bind (fun (v3 : Int32) => if (2 * v3) < i2 then (some (Sum.inr i1)) else ((f_X11_weightOf σ (i2 - 1)).bind (fun (v4 : Int32) => (f_X11_termAt σ x0 x1).bind (fun (v5 : Int32) => gL σ 312 (v5 + i2) (fun (v6 : Int64) => bd (i1 + (v4 * (Int64.toInt32 v6))) (fun (v7 : Int32) => some (Sum.inl (v7, i2 + 1))))))))
noncomputable def f_X11_weightOfTerm (σ : Mem) (x0 : Int32) (x1 : Int32) : Option Int32 :=
  loopO (fun (z2 : (Int32 × Int32)) => l_X11_weightOfTerm_5 σ x0 x1 z2.1 z2.2) (0, 1)
theorem t_X11_weightOfTerm {w : Wd} (hw : WOK w) (hN : wn w = NT) {σ : Mem} {x0 : Int32} {x1 : Int32} : JO w mu_X11_weightOfTerm vI σ [(0, .ref (adr w 306)), (1, .int x0), (2, .int x1)] [] 0 (f_X11_weightOfTerm σ x0 x1) (fun z => some (z, σ)) := by
  unfold f_X11_weightOfTerm
  refine jo_iconst (pc := 0) dX11_weightOfTerm_0 (ic_i_0) ?_
  refine jo_istore_n (pc := 1) (lv' := [(3, .int 0), (0, .ref (adr w 306)), (1, .int x0), (2, .int x1)]) dX11_weightOfTerm_1 rfl (ltb rfl) rfl ?_
  refine jo_iconst (pc := 2) dX11_weightOfTerm_2 (ic_i_1) ?_
  refine jo_istore (pc := 3) (lv' := [(4, .int 1), (3, .int 0), (0, .ref (adr w 306)), (1, .int x0), (2, .int x1)]) dX11_weightOfTerm_3 (ltb rfl) rfl ?_
  refine jo_lv (lv' := [(0, .ref (adr w 306)), (1, .int x0), (2, .int x1), (3, .int 0), (4, .int 1)]) [2, 3, 4, 1, 0] rfl ?_
  refine jo_loop (X := Int32) (fun (z2 : (Int32 × Int32)) => σ) (fun (z2 : (Int32 × Int32)) => [(0, .ref (adr w 306)), (1, .int x0), (2, .int x1), (3, .int z2.1), (4, .int z2.2)]) (body := (fun (z2 : (Int32 × Int32)) => l_X11_weightOfTerm_5 σ x0 x1 z2.1 z2.2)) (fun F5_2 hF5_2 s => ?_) (0, 1)
  obtain ⟨i1, i2⟩ := s
  show JO w mu_X11_weightOfTerm vI σ [(0, .ref (adr w 306)), (1, .int x0), (2, .int x1), (3, .int i1), (4, .int i2)] [] 5 (l_X11_weightOfTerm_5 σ x0 x1 i1 i2) _
  unfold l_X11_weightOfTerm_5
  refine jo_iload (pc := 5) 4 rfl dX11_weightOfTerm_5 ?_
  refine jo_iconst (pc := 7) dX11_weightOfTerm_7 (ic_i_2) ?_
  refine jo_aload_n (pc := 8) 0 rfl dX11_weightOfTerm_8 rfl ?_
  refine jo_cV_I_p (pc := 9) (μ' := mu_X11_n) (fx := f_X11_n σ) (As := []) (c_X11_n hw hN) (ok_X11_n) (ltb rfl) (all3 gw_1441 gw_1443 gw_68) (ik_306 hw hN) (by decide) (q := (RX11, TX11, 39)) rfl rfl rfl rfl (Nat.le_of_ble_eq_true rfl) dX11_weightOfTerm_9 (fun v3 => ?_)
  refine jo_imul (pc := 12) dX11_weightOfTerm_12 ?_
  refine jo_icmp_gt (pc := 13) dX11_weightOfTerm_13 (tgt := 49) rfl ?_ ?_
  · refine jo_iload_n (pc := 49) 3 rfl dX11_weightOfTerm_49 rfl ?_
    exact jo_ireturn (pc := 50) rfl rfl dX11_weightOfTerm_50
  · refine jo_iload_n (pc := 16) 3 rfl dX11_weightOfTerm_16 rfl ?_
    refine jo_aload_n (pc := 17) 0 rfl dX11_weightOfTerm_17 rfl ?_
    refine jo_iload (pc := 18) 4 rfl dX11_weightOfTerm_18 ?_
    refine jo_iconst (pc := 20) dX11_weightOfTerm_20 (ic_i_1) ?_
    refine jo_isub (pc := 21) dX11_weightOfTerm_21 ?_
    refine jo_cV_I_p (pc := 22) (μ' := mu_X11_weightOf) (fx := f_X11_weightOf σ (i2 - 1)) (As := [.int (i2 - 1)]) (c_X11_weightOf hw hN) (ok_X11_weightOf) (ltb rfl) (all3 gw_1553 gw_1555 gw_93) (ik_306 hw hN) (by decide) (q := (RX11, TX11, 39)) rfl rfl rfl rfl (Nat.le_of_ble_eq_true rfl) dX11_weightOfTerm_22 (fun v4 => ?_)
    refine jo_aload_n (pc := 25) 0 rfl dX11_weightOfTerm_25 rfl ?_
    refine jo_getrE (pc := 26) ok_11_12 (ik_306 hw hN) rf_306_12 gw_1305 dX11_weightOfTerm_26 ?_
    refine jo_aload_n (pc := 29) 0 rfl dX11_weightOfTerm_29 rfl ?_
    refine jo_iload_n (pc := 30) 1 rfl dX11_weightOfTerm_30 rfl ?_
    refine jo_iload_n (pc := 31) 2 rfl dX11_weightOfTerm_31 rfl ?_
    refine jo_cV_I_p (pc := 32) (μ' := mu_X11_termAt) (fx := f_X11_termAt σ x0 x1) (As := [.int x0, .int x1]) (c_X11_termAt hw hN) (ok_X11_termAt) (ltb rfl) (all3 gw_1770 gw_1772 gw_127) (ik_306 hw hN) (by decide) (q := (RX11, TX11, 39)) rfl rfl rfl rfl (Nat.le_of_ble_eq_true rfl) dX11_weightOfTerm_32 (fun v5 => ?_)
    refine jo_iload (pc := 35) 4 rfl dX11_weightOfTerm_35 ?_
    refine jo_iadd (pc := 37) dX11_weightOfTerm_37 ?_
    refine jo_lald (pc := 38) (ik_312 hw hN) dX11_weightOfTerm_38 (fun v6 => ?_)
    refine jo_l2i (pc := 39) dX11_weightOfTerm_39 ?_
    refine jo_imul (pc := 40) dX11_weightOfTerm_40 ?_
    refine jo_iadd (pc := 41) dX11_weightOfTerm_41 ?_
    refine jo_bd ?_
    refine jo_istore_n (pc := 42) (lv' := [(3, .int (i1 + (v4 * (Int64.toInt32 v6)))), (0, .ref (adr w 306)), (1, .int x0), (2, .int x1), (4, .int i2)]) dX11_weightOfTerm_42 rfl (ltb rfl) rfl ?_
    generalize (i1 + (v4 * (Int64.toInt32 v6))) = v7
    refine jo_iinc (pc := 43) (lv' := [(4, .int (i2 + 1)), (3, .int v7), (0, .ref (adr w 306)), (1, .int x0), (2, .int x1)]) 4 rfl dX11_weightOfTerm_43 (congrArg (fun z => i2 + z) (ic_i_1)) (ltb rfl) rfl ?_
    refine jo_goto (pc := 46) dX11_weightOfTerm_46 (tgt := 5) rfl ?_
    refine jo_lv (lv' := [(0, .ref (adr w 306)), (1, .int x0), (2, .int x1), (3, .int v7), (4, .int (i2 + 1))]) [2, 3, 4, 1, 0] rfl ?_
    exact jo_leaf (by rfl) (hF5_2 (v7, i2 + 1))
theorem c_X11_weightOfTerm {w : Wd} (hw : WOK w) (hN : wn w = NT) {σ : Mem} {x0 : Int32} {x1 : Int32} : ∀ r, f_X11_weightOfTerm σ x0 x1 = some r → MC w mu_X11_weightOfTerm (vI r) [.ref (adr w 306), .int x0, .int x1] σ σ := mc_ofP ok_X11_weightOfTerm rfl (Nat.le_of_ble_eq_true rfl) (t_X11_weightOfTerm hw hN)
abbrev mu_X11_isInBoth : MD := (yX11_isInBoth, cX11_isInBoth, 4, some .boolean, 1)
theorem ok_X11_isInBoth : MOK mu_X11_isInBoth 2 := ⟨gw_1790, gw_171, (by decide +kernel : plainFor yX11_isInBoth = true), ⟨(by decide +kernel : yX11_isInBoth.cls ≠ "java/lang/invoke/MethodHandle"), (by decide +kernel : yX11_isInBoth.cls ≠ "java/lang/invoke/VarHandle"), (by decide +kernel : (parseMethodDescriptor yX11_isInBoth.desc).map (fun d => d.parameters.length) = some 2)⟩, Nat.le_of_ble_eq_true rfl⟩
noncomputable def j_X11_isInBoth_53 (i1 : Int32) : Option (Int32 ⊕ Bool) :=
  some (Sum.inl (i1 + 1))
noncomputable def l_X11_isInBoth_2 (σ : Mem) (x0 : Int32) (x1 : Int32) (i1 : Int32) : Option (Int32 ⊕ Bool) :=
  (f_X11_n σ).bind (fun (v2 : Int32) => if v2 < i1 then (some (Sum.inr false)) else ((f_X11_termAt σ x0 x1).bind (fun (v3 : Int32) => gL σ 312 (v3 + i1) (fun (v4 : Int64) => (if v4 ≤ 0 then (some (Sum.inl ())) else ((f_X11_termAt σ x0 x1).bind (fun (v5 : Int32) => (f_X11_n σ).bind (fun (v6 : Int32) => gL σ 312 ((v5 + v6) + i1) (fun (v7 : Int64) => if v7 ≤ 0 then (some (Sum.inl ())) else (some (Sum.inr (Sum.inr true))))))) : Option (Unit ⊕ (Int32 ⊕ Bool))).bind (Sum.elim (fun (z4 : Unit) => j_X11_isInBoth_53 i1) some)))))
noncomputable def f_X11_isInBoth (σ : Mem) (x0 : Int32) (x1 : Int32) : Option Bool :=
  loopO (fun (z1 : Int32) => l_X11_isInBoth_2 σ x0 x1 z1) 1
theorem t_X11_isInBoth {w : Wd} (hw : WOK w) (hN : wn w = NT) {σ : Mem} {x0 : Int32} {x1 : Int32} : JO w mu_X11_isInBoth vB σ [(0, .ref (adr w 306)), (1, .int x0), (2, .int x1)] [] 0 (f_X11_isInBoth σ x0 x1) (fun z => some (z, σ)) := by
  unfold f_X11_isInBoth
  refine jo_iconst (pc := 0) dX11_isInBoth_0 (ic_i_1) ?_
  refine jo_istore_n (pc := 1) (lv' := [(3, .int 1), (0, .ref (adr w 306)), (1, .int x0), (2, .int x1)]) dX11_isInBoth_1 rfl (ltb rfl) rfl ?_
  refine jo_lv (lv' := [(0, .ref (adr w 306)), (1, .int x0), (2, .int x1), (3, .int 1)]) [1, 2, 3, 0] rfl ?_
  refine jo_loop (X := Bool) (fun (z1 : Int32) => σ) (fun (z1 : Int32) => [(0, .ref (adr w 306)), (1, .int x0), (2, .int x1), (3, .int z1)]) (body := (fun (z1 : Int32) => l_X11_isInBoth_2 σ x0 x1 z1)) (fun F2_1 hF2_1 s => ?_) 1
  revert s; intro i1
  show JO w mu_X11_isInBoth vB σ [(0, .ref (adr w 306)), (1, .int x0), (2, .int x1), (3, .int i1)] [] 2 (l_X11_isInBoth_2 σ x0 x1 i1) _
  unfold l_X11_isInBoth_2
  refine jo_iload_n (pc := 2) 3 rfl dX11_isInBoth_2 rfl ?_
  refine jo_aload_n (pc := 3) 0 rfl dX11_isInBoth_3 rfl ?_
  refine jo_cV_I_p (pc := 4) (μ' := mu_X11_n) (fx := f_X11_n σ) (As := []) (c_X11_n hw hN) (ok_X11_n) (ltb rfl) (all3 gw_1441 gw_1443 gw_68) (ik_306 hw hN) (by decide) (q := (RX11, TX11, 39)) rfl rfl rfl rfl (Nat.le_of_ble_eq_true rfl) dX11_isInBoth_4 (fun v2 => ?_)
  refine jo_icmp_gt (pc := 7) dX11_isInBoth_7 (tgt := 59) rfl ?_ ?_
  · refine jo_iconst (pc := 59) dX11_isInBoth_59 (ic_i_0) ?_
    exact jo_breturn (pc := 60) (b := false) rfl rfl dX11_isInBoth_60
  · refine jo_aload_n (pc := 10) 0 rfl dX11_isInBoth_10 rfl ?_
    refine jo_getrE (pc := 11) ok_11_12 (ik_306 hw hN) rf_306_12 gw_1305 dX11_isInBoth_11 ?_
    refine jo_aload_n (pc := 14) 0 rfl dX11_isInBoth_14 rfl ?_
    refine jo_iload_n (pc := 15) 1 rfl dX11_isInBoth_15 rfl ?_
    refine jo_iload_n (pc := 16) 2 rfl dX11_isInBoth_16 rfl ?_
    refine jo_cV_I_p (pc := 17) (μ' := mu_X11_termAt) (fx := f_X11_termAt σ x0 x1) (As := [.int x0, .int x1]) (c_X11_termAt hw hN) (ok_X11_termAt) (ltb rfl) (all3 gw_1770 gw_1772 gw_127) (ik_306 hw hN) (by decide) (q := (RX11, TX11, 39)) rfl rfl rfl rfl (Nat.le_of_ble_eq_true rfl) dX11_isInBoth_17 (fun v3 => ?_)
    refine jo_iload_n (pc := 20) 3 rfl dX11_isInBoth_20 rfl ?_
    refine jo_iadd (pc := 21) dX11_isInBoth_21 ?_
    refine jo_lald (pc := 22) (ik_312 hw hN) dX11_isInBoth_22 (fun v4 => ?_)
    refine jo_lconst (pc := 23) dX11_isInBoth_23 (ic_l_0) ?_
    refine jo_joinS (S := Unit) (fun (z4 : Unit) => σ) (fun (z4 : Unit) => [(0, .ref (adr w 306)), (1, .int x0), (2, .int x1), (3, .int i1)]) (fun (z4 : Unit) => []) 53 ?_ (fun h53_4 => ?_)
    · intro _
      show JO w mu_X11_isInBoth vB σ [(0, .ref (adr w 306)), (1, .int x0), (2, .int x1), (3, .int i1)] [] 53 (j_X11_isInBoth_53 i1) _
      unfold j_X11_isInBoth_53
      refine jo_iinc (pc := 53) (lv' := [(3, .int (i1 + 1)), (0, .ref (adr w 306)), (1, .int x0), (2, .int x1)]) 3 rfl dX11_isInBoth_53 (congrArg (fun z => i1 + z) (ic_i_1)) (ltb rfl) rfl ?_
      refine jo_goto (pc := 56) dX11_isInBoth_56 (tgt := 2) rfl ?_
      refine jo_lv (lv' := [(0, .ref (adr w 306)), (1, .int x0), (2, .int x1), (3, .int (i1 + 1))]) [1, 2, 3, 0] rfl ?_
      exact jo_leaf (by rfl) (hF2_1 (i1 + 1))
    · refine jo_lcmp_le (pc := 24) dX11_isInBoth_24 dX11_isInBoth_25 (tgt := 53) rfl ?_ ?_
      · exact jo_leaf (by rfl) (h53_4 ())
      · refine jo_aload_n (pc := 28) 0 rfl dX11_isInBoth_28 rfl ?_
        refine jo_getrE (pc := 29) ok_11_12 (ik_306 hw hN) rf_306_12 gw_1305 dX11_isInBoth_29 ?_
        refine jo_aload_n (pc := 32) 0 rfl dX11_isInBoth_32 rfl ?_
        refine jo_iload_n (pc := 33) 1 rfl dX11_isInBoth_33 rfl ?_
        refine jo_iload_n (pc := 34) 2 rfl dX11_isInBoth_34 rfl ?_
        refine jo_cV_I_p (pc := 35) (μ' := mu_X11_termAt) (fx := f_X11_termAt σ x0 x1) (As := [.int x0, .int x1]) (c_X11_termAt hw hN) (ok_X11_termAt) (ltb rfl) (all3 gw_1770 gw_1772 gw_127) (ik_306 hw hN) (by decide) (q := (RX11, TX11, 39)) rfl rfl rfl rfl (Nat.le_of_ble_eq_true rfl) dX11_isInBoth_35 (fun v5 => ?_)
        refine jo_aload_n (pc := 38) 0 rfl dX11_isInBoth_38 rfl ?_
        refine jo_cV_I_p (pc := 39) (μ' := mu_X11_n) (fx := f_X11_n σ) (As := []) (c_X11_n hw hN) (ok_X11_n) (ltb rfl) (all3 gw_1441 gw_1443 gw_68) (ik_306 hw hN) (by decide) (q := (RX11, TX11, 39)) rfl rfl rfl rfl (Nat.le_of_ble_eq_true rfl) dX11_isInBoth_39 (fun v6 => ?_)
        refine jo_iadd (pc := 42) dX11_isInBoth_42 ?_
        refine jo_iload_n (pc := 43) 3 rfl dX11_isInBoth_43 rfl ?_
        refine jo_iadd (pc := 44) dX11_isInBoth_44 ?_
        refine jo_lald (pc := 45) (ik_312 hw hN) dX11_isInBoth_45 (fun v7 => ?_)
        refine jo_lconst (pc := 46) dX11_isInBoth_46 (ic_l_0) ?_
        refine jo_lcmp_le (pc := 47) dX11_isInBoth_47 dX11_isInBoth_48 (tgt := 53) rfl ?_ ?_
        · exact jo_leaf (by rfl) (h53_4 ())
        · refine jo_iconst (pc := 51) dX11_isInBoth_51 (ic_i_1) ?_
          exact jo_breturn (pc := 52) (b := true) rfl rfl dX11_isInBoth_52
theorem c_X11_isInBoth {w : Wd} (hw : WOK w) (hN : wn w = NT) {σ : Mem} {x0 : Int32} {x1 : Int32} : ∀ r, f_X11_isInBoth σ x0 x1 = some r → MC w mu_X11_isInBoth (vB r) [.ref (adr w 306), .int x0, .int x1] σ σ := mc_ofP ok_X11_isInBoth rfl (Nat.le_of_ble_eq_true rfl) (t_X11_isInBoth hw hN)
abbrev mu_X11_shape : MD := (yX11_shape, cX11_shape, 5, some .int, 38)
theorem ok_X11_shape : MOK mu_X11_shape 2 := ⟨gw_1777, gw_171, (by decide +kernel : plainFor yX11_shape = true), ⟨(by decide +kernel : yX11_shape.cls ≠ "java/lang/invoke/MethodHandle"), (by decide +kernel : yX11_shape.cls ≠ "java/lang/invoke/VarHandle"), (by decide +kernel : (parseMethodDescriptor yX11_shape.desc).map (fun d => d.parameters.length) = some 2)⟩, Nat.le_of_ble_eq_true rfl⟩
noncomputable def j_X11_shape_121 (i6 : Int32) (i11 : Int32) : Option ((Int32 × Int32) ⊕ (Int32 × Mem)) :=
  some (Sum.inl (i11, i6 + 1))
noncomputable def j_X11_shape_100 (x0 : Int32) (x1 : Int32) (σ3 : Mem) (i6 : Int32) (i10 : Int32) : Option ((Int32 × Int32) ⊕ (Int32 × Mem)) :=
  (if x1 = 3 then ((f_X11_termAt σ3 x0 i6).bind (fun (v12 : Int32) => gL σ3 312 v12 (fun (v13 : Int64) => bd (i10 + (Int64.toInt32 v13)) (fun (v14 : Int32) => some v14)))) else (some i10) : Option Int32).bind (fun (z11 : Int32) => j_X11_shape_121 i6 z11)
noncomputable def j_X11_shape_81 (x0 : Int32) (x1 : Int32) (σ3 : Mem) (i6 : Int32) (i9 : Int32) : Option ((Int32 × Int32) ⊕ (Int32 × Mem)) :=
  (if x1 = 2 then ((f_X11_isInBoth σ3 x0 i6).bind (fun (b15 : Bool) => if b15 then bd (i9 + 1) (fun (v16 : Int32) => some v16) else some i9)) else (some i9) : Option Int32).bind (fun (z10 : Int32) => j_X11_shape_100 x0 x1 σ3 i6 z10)
noncomputable def j_X11_shape_64 (x0 : Int32) (x1 : Int32) (σ3 : Mem) (i6 : Int32) (i8 : Int32) : Option ((Int32 × Int32) ⊕ (Int32 × Mem)) :=
  (if x1 = 1 then ((f_X11_weightOfTerm σ3 x0 i6).bind (fun (v17 : Int32) => (f_J9_max_7cf53 σ3 i8 v17).bind (fun (v18 : Int32) => some v18))) else (some i8) : Option Int32).bind (fun (z9 : Int32) => j_X11_shape_81 x0 x1 σ3 i6 z9)
noncomputable def l_X11_shape_35 (x0 : Int32) (x1 : Int32) (σ3 : Mem) (i5 : Int32) (i6 : Int32) : Option ((Int32 × Int32) ⊕ (Int32 × Mem)) :=
  gI σ3 311 (x0 - 1) (fun (v7 : Int32) => if v7 ≤ i6 then (some (Sum.inr (i5, σ3))) else ((if x1 = 0 then ((f_X11_degreeOf σ3 x0 i6).bind (fun (v19 : Int32) => (f_J9_max_7cf53 σ3 i5 v19).bind (fun (v20 : Int32) => some v20))) else (some i5) : Option Int32).bind (fun (z8 : Int32) => j_X11_shape_64 x0 x1 σ3 i6 z8)))
noncomputable def f_X11_shape (σ : Mem) (x0 : Int32) (x1 : Int32) : Option (Int32 × Mem) :=
  pF σ 306 0 0 (fun (σ1 : Mem) => bq (f_X11_isPolynomial σ1 x0) (fun (b2 : Bool) (σ3 : Mem) => if b2 then (f_X11_isIn σ3 (Int32.toInt64 x1) 0 3).bind (fun (b4 : Bool) => if b4 then loopO (fun (z6 : (Int32 × Int32)) => l_X11_shape_35 x0 x1 σ3 z6.1 z6.2) (0, 0) else some ((-10000), σ3)) else some ((-10000), σ3)))
theorem t_X11_shape {w : Wd} (hw : WOK w) (hN : wn w = NT) {σ : Mem} {x0 : Int32} {x1 : Int32} : JO w mu_X11_shape vI σ [(0, .ref (adr w 306)), (1, .int x0), (2, .int x1)] [] 0 (f_X11_shape σ x0 x1) some := by
  unfold f_X11_shape
  refine jo_aload_n (pc := 0) 0 rfl dX11_shape_0 rfl ?_
  refine jo_iconst (pc := 1) dX11_shape_1 (ic_i_0) ?_
  refine jo_putf (pc := 2) ok_11_0 okp_11_0 (ik_306 hw hN) gw_1293 dX11_shape_2 (fun σ1 => ?_)
  refine jo_aload_n (pc := 5) 0 rfl dX11_shape_5 rfl ?_
  refine jo_iload_n (pc := 6) 1 rfl dX11_shape_6 rfl ?_
  refine jo_cV_Z_i (pc := 7) (μ' := mu_X11_isPolynomial) (fx := f_X11_isPolynomial σ1 x0) (As := [.int x0]) (c_X11_isPolynomial hw hN) (ok_X11_isPolynomial) (ltb rfl) (all3 gw_1762 gw_1764 gw_126) (ik_306 hw hN) (by decide) (q := (RX11, TX11, 39)) rfl rfl rfl rfl (Nat.le_of_ble_eq_true rfl) dX11_shape_7 (fun b2 σ3 => ?_)
  refine jo_ifz_eq (pc := 10) dX11_shape_10 (tgt := 26) rfl ?_ ?_
  · refine jo_sipush (pc := 26) dX11_shape_26 (ic_s_m10000) ?_
    exact jo_ireturn (pc := 29) rfl rfl dX11_shape_29
  · refine jo_aload_n (pc := 13) 0 rfl dX11_shape_13 rfl ?_
    refine jo_iload_n (pc := 14) 2 rfl dX11_shape_14 rfl ?_
    refine jo_i2l (pc := 15) dX11_shape_15 ?_
    refine jo_lconst (pc := 16) dX11_shape_16 (ic_l_0) ?_
    refine jo_ldc2 (pc := 17) dX11_shape_17 gw_1445 ?_
    refine jo_cV_Z_p (pc := 20) (μ' := mu_X11_isIn) (fx := f_X11_isIn σ3 (Int32.toInt64 x1) 0 3) (As := [.long (Int32.toInt64 x1), .long 0, .long 3]) (c_X11_isIn hw hN) (ok_X11_isIn) (ltb rfl) (all3 gw_1420 gw_1422 gw_64) (ik_306 hw hN) (by decide) (q := (RX11, TX11, 39)) rfl rfl rfl rfl (Nat.le_of_ble_eq_true rfl) dX11_shape_20 (fun b4 => ?_)
    refine jo_ifz_ne (pc := 23) dX11_shape_23 (tgt := 30) rfl ?_ ?_
    · refine jo_iconst (pc := 30) dX11_shape_30 (ic_i_0) ?_
      refine jo_istore_n (pc := 31) (lv' := [(3, .int 0), (0, .ref (adr w 306)), (1, .int x0), (2, .int x1)]) dX11_shape_31 rfl (ltb rfl) rfl ?_
      refine jo_iconst (pc := 32) dX11_shape_32 (ic_i_0) ?_
      refine jo_istore (pc := 33) (lv' := [(4, .int 0), (3, .int 0), (0, .ref (adr w 306)), (1, .int x0), (2, .int x1)]) dX11_shape_33 (ltb rfl) rfl ?_
      refine jo_lv (lv' := [(0, .ref (adr w 306)), (1, .int x0), (2, .int x1), (3, .int 0), (4, .int 0)]) [2, 3, 4, 1, 0] rfl ?_
      refine jo_loop (X := (Int32 × Mem)) (fun (z6 : (Int32 × Int32)) => σ3) (fun (z6 : (Int32 × Int32)) => [(0, .ref (adr w 306)), (1, .int x0), (2, .int x1), (3, .int z6.1), (4, .int z6.2)]) (body := (fun (z6 : (Int32 × Int32)) => l_X11_shape_35 x0 x1 σ3 z6.1 z6.2)) (fun F35_6 hF35_6 s => ?_) (0, 0)
      obtain ⟨i5, i6⟩ := s
      show JO w mu_X11_shape vI σ3 [(0, .ref (adr w 306)), (1, .int x0), (2, .int x1), (3, .int i5), (4, .int i6)] [] 35 (l_X11_shape_35 x0 x1 σ3 i5 i6) _
      unfold l_X11_shape_35
      refine jo_iload (pc := 35) 4 rfl dX11_shape_35 ?_
      refine jo_aload_n (pc := 37) 0 rfl dX11_shape_37 rfl ?_
      refine jo_getrE (pc := 38) ok_11_11 (ik_306 hw hN) rf_306_11 gw_1304 dX11_shape_38 ?_
      refine jo_iload_n (pc := 41) 1 rfl dX11_shape_41 rfl ?_
      refine jo_iconst (pc := 42) dX11_shape_42 (ic_i_1) ?_
      refine jo_isub (pc := 43) dX11_shape_43 ?_
      refine jo_iald (pc := 44) (ik_311 hw hN) dX11_shape_44 (fun v7 => ?_)
      refine jo_icmp_ge (pc := 45) dX11_shape_45 (tgt := 127) rfl ?_ ?_
      · refine jo_iload_n (pc := 127) 3 rfl dX11_shape_127 rfl ?_
        exact jo_ireturn (pc := 128) rfl rfl dX11_shape_128
      · refine jo_iload_n (pc := 48) 2 rfl dX11_shape_48 rfl ?_
        refine jo_join1 (S := Int32) (fun (z8 : Int32) => σ3) (fun (z8 : Int32) => [(0, .ref (adr w 306)), (1, .int x0), (2, .int x1), (4, .int i6), (3, .int z8)]) (fun (z8 : Int32) => []) 64 ?_ (fun h64_8 => ?_)
        · intro i8
          show JO w mu_X11_shape vI σ3 [(0, .ref (adr w 306)), (1, .int x0), (2, .int x1), (4, .int i6), (3, .int i8)] [] 64 (j_X11_shape_64 x0 x1 σ3 i6 i8) _
          unfold j_X11_shape_64
          refine jo_iload_n (pc := 64) 2 rfl dX11_shape_64 rfl ?_
          refine jo_iconst (pc := 65) dX11_shape_65 (ic_i_1) ?_
          refine jo_join1 (S := Int32) (fun (z9 : Int32) => σ3) (fun (z9 : Int32) => [(0, .ref (adr w 306)), (1, .int x0), (2, .int x1), (4, .int i6), (3, .int z9)]) (fun (z9 : Int32) => []) 81 ?_ (fun h81_9 => ?_)
          · intro i9
            show JO w mu_X11_shape vI σ3 [(0, .ref (adr w 306)), (1, .int x0), (2, .int x1), (4, .int i6), (3, .int i9)] [] 81 (j_X11_shape_81 x0 x1 σ3 i6 i9) _
            unfold j_X11_shape_81
            refine jo_iload_n (pc := 81) 2 rfl dX11_shape_81 rfl ?_
            refine jo_iconst (pc := 82) dX11_shape_82 (ic_i_2) ?_
            refine jo_join1 (S := Int32) (fun (z10 : Int32) => σ3) (fun (z10 : Int32) => [(0, .ref (adr w 306)), (1, .int x0), (2, .int x1), (4, .int i6), (3, .int z10)]) (fun (z10 : Int32) => []) 100 ?_ (fun h100_10 => ?_)
            · intro i10
              show JO w mu_X11_shape vI σ3 [(0, .ref (adr w 306)), (1, .int x0), (2, .int x1), (4, .int i6), (3, .int i10)] [] 100 (j_X11_shape_100 x0 x1 σ3 i6 i10) _
              unfold j_X11_shape_100
              refine jo_iload_n (pc := 100) 2 rfl dX11_shape_100 rfl ?_
              refine jo_iconst (pc := 101) dX11_shape_101 (ic_i_3) ?_
              refine jo_join1 (S := Int32) (fun (z11 : Int32) => σ3) (fun (z11 : Int32) => [(0, .ref (adr w 306)), (1, .int x0), (2, .int x1), (4, .int i6), (3, .int z11)]) (fun (z11 : Int32) => []) 121 ?_ (fun h121_11 => ?_)
              · intro i11
                show JO w mu_X11_shape vI σ3 [(0, .ref (adr w 306)), (1, .int x0), (2, .int x1), (4, .int i6), (3, .int i11)] [] 121 (j_X11_shape_121 i6 i11) _
                unfold j_X11_shape_121
                refine jo_iinc (pc := 121) (lv' := [(4, .int (i6 + 1)), (0, .ref (adr w 306)), (1, .int x0), (2, .int x1), (3, .int i11)]) 3 rfl dX11_shape_121 (congrArg (fun z => i6 + z) (ic_i_1)) (ltb rfl) rfl ?_
                refine jo_goto (pc := 124) dX11_shape_124 (tgt := 35) rfl ?_
                refine jo_lv (lv' := [(0, .ref (adr w 306)), (1, .int x0), (2, .int x1), (3, .int i11), (4, .int (i6 + 1))]) [1, 2, 3, 4, 0] rfl ?_
                exact jo_leaf (by rfl) (hF35_6 (i11, i6 + 1))
              · refine jo_icmp_ne (pc := 102) dX11_shape_102 (tgt := 121) rfl ?_ ?_
                · exact jo_leaf (by rfl) (h121_11 i10)
                · refine jo_iload_n (pc := 105) 4 rfl dX11_shape_105 rfl ?_
                  refine jo_aload_n (pc := 106) 0 rfl dX11_shape_106 rfl ?_
                  refine jo_getrE (pc := 107) ok_11_12 (ik_306 hw hN) rf_306_12 gw_1305 dX11_shape_107 ?_
                  refine jo_aload_n (pc := 110) 0 rfl dX11_shape_110 rfl ?_
                  refine jo_iload_n (pc := 111) 1 rfl dX11_shape_111 rfl ?_
                  refine jo_iload (pc := 112) 3 rfl dX11_shape_112 ?_
                  refine jo_cV_I_p (pc := 114) (μ' := mu_X11_termAt) (fx := f_X11_termAt σ3 x0 i6) (As := [.int x0, .int i6]) (c_X11_termAt hw hN) (ok_X11_termAt) (ltb rfl) (all3 gw_1770 gw_1772 gw_127) (ik_306 hw hN) (by decide) (q := (RX11, TX11, 39)) rfl rfl rfl rfl (Nat.le_of_ble_eq_true rfl) dX11_shape_114 (fun v12 => ?_)
                  refine jo_lald (pc := 117) (ik_312 hw hN) dX11_shape_117 (fun v13 => ?_)
                  refine jo_l2i (pc := 118) dX11_shape_118 ?_
                  refine jo_iadd (pc := 119) dX11_shape_119 ?_
                  refine jo_bd ?_
                  refine jo_istore_n (pc := 120) (lv' := [(3, .int (i10 + (Int64.toInt32 v13))), (0, .ref (adr w 306)), (1, .int x0), (2, .int x1), (4, .int i6)]) dX11_shape_120 rfl (ltb rfl) rfl ?_
                  generalize (i10 + (Int64.toInt32 v13)) = v14
                  refine jo_lv (lv' := [(0, .ref (adr w 306)), (1, .int x0), (2, .int x1), (4, .int i6), (3, .int v14)]) [1, 2, 3, 4, 0] rfl ?_
                  exact jo_leaf (by rfl) (h121_11 v14)
            · refine jo_icmp_ne (pc := 83) dX11_shape_83 (tgt := 100) rfl ?_ ?_
              · exact jo_leaf (by rfl) (h100_10 i9)
              · refine jo_aload_n (pc := 86) 0 rfl dX11_shape_86 rfl ?_
                refine jo_iload_n (pc := 87) 1 rfl dX11_shape_87 rfl ?_
                refine jo_iload (pc := 88) 3 rfl dX11_shape_88 ?_
                refine jo_cV_Z_p (pc := 90) (μ' := mu_X11_isInBoth) (fx := f_X11_isInBoth σ3 x0 i6) (As := [.int x0, .int i6]) (c_X11_isInBoth hw hN) (ok_X11_isInBoth) (ltb rfl) (all3 gw_1787 gw_1789 gw_130) (ik_306 hw hN) (by decide) (q := (RX11, TX11, 39)) rfl rfl rfl rfl (Nat.le_of_ble_eq_true rfl) dX11_shape_90 (fun b15 => ?_)
                refine jo_ifz_eq (pc := 93) dX11_shape_93 (tgt := 100) rfl ?_ ?_
                · exact jo_leaf (by rfl) (h100_10 i9)
                · refine jo_iload_n (pc := 96) 4 rfl dX11_shape_96 rfl ?_
                  refine jo_iconst (pc := 97) dX11_shape_97 (ic_i_1) ?_
                  refine jo_iadd (pc := 98) dX11_shape_98 ?_
                  refine jo_bd ?_
                  refine jo_istore_n (pc := 99) (lv' := [(3, .int (i9 + 1)), (0, .ref (adr w 306)), (1, .int x0), (2, .int x1), (4, .int i6)]) dX11_shape_99 rfl (ltb rfl) rfl ?_
                  generalize (i9 + 1) = v16
                  refine jo_lv (lv' := [(0, .ref (adr w 306)), (1, .int x0), (2, .int x1), (4, .int i6), (3, .int v16)]) [1, 2, 3, 4, 0] rfl ?_
                  exact jo_leaf (by rfl) (h100_10 v16)
          · refine jo_icmp_ne (pc := 66) dX11_shape_66 (tgt := 81) rfl ?_ ?_
            · exact jo_leaf (by rfl) (h81_9 i8)
            · refine jo_iload_n (pc := 69) 4 rfl dX11_shape_69 rfl ?_
              refine jo_aload_n (pc := 70) 0 rfl dX11_shape_70 rfl ?_
              refine jo_iload_n (pc := 71) 1 rfl dX11_shape_71 rfl ?_
              refine jo_iload (pc := 72) 3 rfl dX11_shape_72 ?_
              refine jo_cV_I_p (pc := 74) (μ' := mu_X11_weightOfTerm) (fx := f_X11_weightOfTerm σ3 x0 i6) (As := [.int x0, .int i6]) (c_X11_weightOfTerm hw hN) (ok_X11_weightOfTerm) (ltb rfl) (all3 gw_1783 gw_1785 gw_129) (ik_306 hw hN) (by decide) (q := (RX11, TX11, 39)) rfl rfl rfl rfl (Nat.le_of_ble_eq_true rfl) dX11_shape_74 (fun v17 => ?_)
              refine jo_cS_I_p (pc := 77) (μ' := mu_J9_max_7cf53) (fx := f_J9_max_7cf53 σ3 i8 v17) (As := [.int i8, .int v17]) (c_J9_max_7cf53 hw) (ok_J9_max_7cf53) (ltb rfl) (all2 gw_1782 gw_752) rfl rfl (Nat.le_of_ble_eq_true rfl) dX11_shape_77 (fun v18 => ?_)
              refine jo_istore_n (pc := 80) (lv' := [(3, .int v18), (0, .ref (adr w 306)), (1, .int x0), (2, .int x1), (4, .int i6)]) dX11_shape_80 rfl (ltb rfl) rfl ?_
              refine jo_lv (lv' := [(0, .ref (adr w 306)), (1, .int x0), (2, .int x1), (4, .int i6), (3, .int v18)]) [1, 2, 3, 4, 0] rfl ?_
              exact jo_leaf (by rfl) (h81_9 v18)
        · refine jo_if_ne (pc := 49) dX11_shape_49 (tgt := 64) rfl ?_ ?_
          · refine jo_lv (lv' := [(0, .ref (adr w 306)), (1, .int x0), (2, .int x1), (4, .int i6), (3, .int i5)]) [0, 1, 2, 4, 3] rfl ?_
            exact jo_leaf (by rfl) (h64_8 i5)
          · refine jo_iload_n (pc := 52) 3 rfl dX11_shape_52 rfl ?_
            refine jo_aload_n (pc := 53) 0 rfl dX11_shape_53 rfl ?_
            refine jo_iload_n (pc := 54) 1 rfl dX11_shape_54 rfl ?_
            refine jo_iload (pc := 55) 4 rfl dX11_shape_55 ?_
            refine jo_cV_I_p (pc := 57) (μ' := mu_X11_degreeOf) (fx := f_X11_degreeOf σ3 x0 i6) (As := [.int x0, .int i6]) (c_X11_degreeOf hw hN) (ok_X11_degreeOf) (ltb rfl) (all3 gw_1778 gw_1780 gw_128) (ik_306 hw hN) (by decide) (q := (RX11, TX11, 39)) rfl rfl rfl rfl (Nat.le_of_ble_eq_true rfl) dX11_shape_57 (fun v19 => ?_)
            refine jo_cS_I_p (pc := 60) (μ' := mu_J9_max_7cf53) (fx := f_J9_max_7cf53 σ3 i5 v19) (As := [.int i5, .int v19]) (c_J9_max_7cf53 hw) (ok_J9_max_7cf53) (ltb rfl) (all2 gw_1782 gw_752) rfl rfl (Nat.le_of_ble_eq_true rfl) dX11_shape_60 (fun v20 => ?_)
            refine jo_istore_n (pc := 63) (lv' := [(3, .int v20), (0, .ref (adr w 306)), (1, .int x0), (2, .int x1), (4, .int i6)]) dX11_shape_63 rfl (ltb rfl) rfl ?_
            refine jo_lv (lv' := [(0, .ref (adr w 306)), (1, .int x0), (2, .int x1), (4, .int i6), (3, .int v20)]) [1, 2, 3, 4, 0] rfl ?_
            exact jo_leaf (by rfl) (h64_8 v20)
    · refine jo_sipush (pc := 26) dX11_shape_26 (ic_s_m10000) ?_
      exact jo_ireturn (pc := 29) rfl rfl dX11_shape_29
theorem c_X11_shape {w : Wd} (hw : WOK w) (hN : wn w = NT) {σ : Mem} {x0 : Int32} {x1 : Int32} : ∀ r σ', f_X11_shape σ x0 x1 = some (r, σ') → MC w mu_X11_shape (vI r) [.ref (adr w 306), .int x0, .int x1] σ σ' := mc_of ok_X11_shape rfl (Nat.le_of_ble_eq_true rfl) (t_X11_shape hw hN)
end
section
abbrev mu_X11_layer : MD := (yX11_layer, cX11_layer, 3, some .int, 2)
theorem ok_X11_layer : MOK mu_X11_layer 1 := ⟨gw_1816, gw_171, (by decide +kernel : plainFor yX11_layer = true), ⟨(by decide +kernel : yX11_layer.cls ≠ "java/lang/invoke/MethodHandle"), (by decide +kernel : yX11_layer.cls ≠ "java/lang/invoke/VarHandle"), (by decide +kernel : (parseMethodDescriptor yX11_layer.desc).map (fun d => d.parameters.length) = some 1)⟩, Nat.le_of_ble_eq_true rfl⟩
noncomputable def j_X11_layer_33 (σ : Mem) : Option Int32 :=
  (f_X11_level σ).bind (fun (v1 : Int32) => some (v1 + 1))
noncomputable def j_X11_layer_21 (σ : Mem) (i2 : Int32) : Option (Unit ⊕ Int32) :=
  (f_X11_weight σ i2).bind (fun (v3 : Int32) => some (Sum.inr v3))
noncomputable def l_X11_layer_2 (σ : Mem) (x0 : Int32) (i4 : Int32) : Option (Int32 ⊕ (Int32 ⊕ (Unit ⊕ Int32))) :=
  (f_X11_n σ).bind (fun (v5 : Int32) => if v5 ≤ i4 then (some (Sum.inr (Sum.inr (Sum.inl ())))) else ((f_X11_of σ x0 i4).bind (fun (v6 : Int64) => if v6 = 0 then (some (Sum.inl (i4 + 1))) else (some (Sum.inr (Sum.inl i4))))))
noncomputable def f_X11_layer (σ : Mem) (x0 : Int32) : Option Int32 :=
  ((loopO (fun (z4 : Int32) => l_X11_layer_2 σ x0 z4) 0 : Option (Int32 ⊕ (Unit ⊕ Int32))).bind (Sum.elim (fun (z2 : Int32) => j_X11_layer_21 σ z2) some) : Option (Unit ⊕ Int32)).bind (Sum.elim (fun (z0 : Unit) => j_X11_layer_33 σ) some)
theorem t_X11_layer {w : Wd} (hw : WOK w) (hN : wn w = NT) {σ : Mem} {x0 : Int32} : JO w mu_X11_layer vI σ [(0, .ref (adr w 306)), (1, .int x0)] [] 0 (f_X11_layer σ x0) (fun z => some (z, σ)) := by
  unfold f_X11_layer
  refine jo_iconst (pc := 0) dX11_layer_0 (ic_i_0) ?_
  refine jo_istore_n (pc := 1) (lv' := [(2, .int 0), (0, .ref (adr w 306)), (1, .int x0)]) dX11_layer_1 rfl (ltb rfl) rfl ?_
  refine jo_joinS (S := Unit) (fun (z0 : Unit) => σ) (fun (z0 : Unit) => [(0, .ref (adr w 306))]) (fun (z0 : Unit) => []) 33 ?_ (fun h33_0 => ?_)
  · intro _
    show JO w mu_X11_layer vI σ [(0, .ref (adr w 306))] [] 33 (j_X11_layer_33 σ) _
    unfold j_X11_layer_33
    refine jo_aload_n (pc := 33) 0 rfl dX11_layer_33 rfl ?_
    refine jo_cV_I_p (pc := 34) (μ' := mu_X11_level) (fx := f_X11_level σ) (As := []) (c_X11_level hw hN) (ok_X11_level) (ltb rfl) (all3 gw_1637 gw_1639 gw_106) (ik_306 hw hN) (by decide) (q := (RX11, TX11, 39)) rfl rfl rfl rfl (Nat.le_of_ble_eq_true rfl) dX11_layer_34 (fun v1 => ?_)
    refine jo_iconst (pc := 37) dX11_layer_37 (ic_i_1) ?_
    refine jo_iadd (pc := 38) dX11_layer_38 ?_
    exact jo_ireturn (pc := 39) rfl rfl dX11_layer_39
  · refine jo_joinS (S := Int32) (fun (z2 : Int32) => σ) (fun (z2 : Int32) => [(0, .ref (adr w 306)), (2, .int z2)]) (fun (z2 : Int32) => []) 21 ?_ (fun h21_2 => ?_)
    · intro i2
      show JO w mu_X11_layer vI σ [(0, .ref (adr w 306)), (2, .int i2)] [] 21 (j_X11_layer_21 σ i2) _
      unfold j_X11_layer_21
      refine jo_aload_n (pc := 21) 0 rfl dX11_layer_21 rfl ?_
      refine jo_iload_n (pc := 22) 1 rfl dX11_layer_22 rfl ?_
      refine jo_cV_I_p (pc := 23) (μ' := mu_X11_weight) (fx := f_X11_weight σ i2) (As := [.int i2]) (c_X11_weight hw hN) (ok_X11_weight) (ltb rfl) (all3 gw_1446 gw_1448 gw_69) (ik_306 hw hN) (by decide) (q := (RX11, TX11, 39)) rfl rfl rfl rfl (Nat.le_of_ble_eq_true rfl) dX11_layer_23 (fun v3 => ?_)
      exact jo_ireturn (pc := 26) rfl rfl dX11_layer_26
    · refine jo_lv (lv' := [(0, .ref (adr w 306)), (1, .int x0), (2, .int 0)]) [1, 2, 0] rfl ?_
      refine jo_loop (X := Int32 ⊕ (Unit ⊕ Int32)) (fun (z4 : Int32) => σ) (fun (z4 : Int32) => [(0, .ref (adr w 306)), (1, .int x0), (2, .int z4)]) (body := (fun (z4 : Int32) => l_X11_layer_2 σ x0 z4)) (fun F2_4 hF2_4 s => ?_) 0
      revert s; intro i4
      show JO w mu_X11_layer vI σ [(0, .ref (adr w 306)), (1, .int x0), (2, .int i4)] [] 2 (l_X11_layer_2 σ x0 i4) _
      unfold l_X11_layer_2
      refine jo_iload_n (pc := 2) 2 rfl dX11_layer_2 rfl ?_
      refine jo_aload_n (pc := 3) 0 rfl dX11_layer_3 rfl ?_
      refine jo_cV_I_p (pc := 4) (μ' := mu_X11_n) (fx := f_X11_n σ) (As := []) (c_X11_n hw hN) (ok_X11_n) (ltb rfl) (all3 gw_1441 gw_1443 gw_68) (ik_306 hw hN) (by decide) (q := (RX11, TX11, 39)) rfl rfl rfl rfl (Nat.le_of_ble_eq_true rfl) dX11_layer_4 (fun v5 => ?_)
      refine jo_icmp_ge (pc := 7) dX11_layer_7 (tgt := 33) rfl ?_ ?_
      · refine jo_lv (lv' := [(0, .ref (adr w 306))]) [0] rfl ?_
        exact jo_leaf (by rfl) (h33_0 ())
      · refine jo_aload_n (pc := 10) 0 rfl dX11_layer_10 rfl ?_
        refine jo_iload_n (pc := 11) 1 rfl dX11_layer_11 rfl ?_
        refine jo_iload_n (pc := 12) 2 rfl dX11_layer_12 rfl ?_
        refine jo_cV_J_p (pc := 13) (μ' := mu_X11_of) (fx := f_X11_of σ x0 i4) (As := [.int x0, .int i4]) (c_X11_of hw hN) (ok_X11_of) (ltb rfl) (all3 gw_1527 gw_1529 gw_87) (ik_306 hw hN) (by decide) (q := (RX11, TX11, 39)) rfl rfl rfl rfl (Nat.le_of_ble_eq_true rfl) dX11_layer_13 (fun v6 => ?_)
        refine jo_lconst (pc := 16) dX11_layer_16 (ic_l_0) ?_
        refine jo_lcmp_eq (pc := 17) dX11_layer_17 dX11_layer_18 (tgt := 27) rfl ?_ ?_
        · refine jo_iinc (pc := 27) (lv' := [(2, .int (i4 + 1)), (0, .ref (adr w 306)), (1, .int x0)]) 2 rfl dX11_layer_27 (congrArg (fun z => i4 + z) (ic_i_1)) (ltb rfl) rfl ?_
          refine jo_goto (pc := 30) dX11_layer_30 (tgt := 2) rfl ?_
          refine jo_lv (lv' := [(0, .ref (adr w 306)), (1, .int x0), (2, .int (i4 + 1))]) [1, 2, 0] rfl ?_
          exact jo_leaf (by rfl) (hF2_4 (i4 + 1))
        · refine jo_lv (lv' := [(0, .ref (adr w 306)), (2, .int i4)]) [0, 2] rfl ?_
          exact jo_leaf (by rfl) (h21_2 i4)
theorem c_X11_layer {w : Wd} (hw : WOK w) (hN : wn w = NT) {σ : Mem} {x0 : Int32} : ∀ r, f_X11_layer σ x0 = some r → MC w mu_X11_layer (vI r) [.ref (adr w 306), .int x0] σ σ := mc_ofP ok_X11_layer rfl (Nat.le_of_ble_eq_true rfl) (t_X11_layer hw hN)
abbrev mu_X11_place : MD := (yX11_place, cX11_place, 5, some .int, 1)
theorem ok_X11_place : MOK mu_X11_place 1 := ⟨gw_1807, gw_171, (by decide +kernel : plainFor yX11_place = true), ⟨(by decide +kernel : yX11_place.cls ≠ "java/lang/invoke/MethodHandle"), (by decide +kernel : yX11_place.cls ≠ "java/lang/invoke/VarHandle"), (by decide +kernel : (parseMethodDescriptor yX11_place.desc).map (fun d => d.parameters.length) = some 1)⟩, Nat.le_of_ble_eq_true rfl⟩
noncomputable def j_X11_place_75 (σ : Mem) : Option Int32 :=
  gF σ 306 29 (fun (v1 : Int32) => some v1)
noncomputable def j_X11_place_63 (i2 : Int32) (i4 : Int32) : Option (Int32 ⊕ (Unit ⊕ Int32)) :=
  if i4 = 0 then (some (Sum.inl (i2 + 1))) else (some (Sum.inr (Sum.inr i2)))
noncomputable def j_X11_place_56 (i6 : Int32) (b10 : Bool) : Option ((Int32 × Int32) ⊕ Int32) :=
  some (Sum.inl (b2i b10, i6 + 1))
noncomputable def l_X11_place_15 (σ : Mem) (x0 : Int32) (i2 : Int32) (i5 : Int32) (i6 : Int32) : Option ((Int32 × Int32) ⊕ Int32) :=
  (f_X11_n σ).bind (fun (v7 : Int32) => if v7 ≤ i6 then (some (Sum.inr i5)) else (if i5 = 0 then (some (Sum.inr i5)) else (gL σ 319 ((6 * i2) + i6) (fun (v8 : Int64) => (f_X11_of σ x0 i6).bind (fun (v9 : Int64) => (if v8 = v9 then (some true) else (some false) : Option Bool).bind (fun (z10 : Bool) => j_X11_place_56 i6 z10))))))
noncomputable def l_X11_place_2 (σ : Mem) (x0 : Int32) (i2 : Int32) : Option (Int32 ⊕ (Unit ⊕ Int32)) :=
  gF σ 306 29 (fun (v3 : Int32) => if v3 ≤ i2 then (some (Sum.inr (Sum.inl ()))) else ((loopO (fun (z6 : (Int32 × Int32)) => l_X11_place_15 σ x0 i2 z6.1 z6.2) (1, 0) : Option Int32).bind (fun (z4 : Int32) => j_X11_place_63 i2 z4)))
noncomputable def f_X11_place (σ : Mem) (x0 : Int32) : Option Int32 :=
  (loopO (fun (z2 : Int32) => l_X11_place_2 σ x0 z2) 0 : Option (Unit ⊕ Int32)).bind (Sum.elim (fun (z0 : Unit) => j_X11_place_75 σ) some)
theorem t_X11_place {w : Wd} (hw : WOK w) (hN : wn w = NT) {σ : Mem} {x0 : Int32} : JO w mu_X11_place vI σ [(0, .ref (adr w 306)), (1, .int x0)] [] 0 (f_X11_place σ x0) (fun z => some (z, σ)) := by
  unfold f_X11_place
  refine jo_iconst (pc := 0) dX11_place_0 (ic_i_0) ?_
  refine jo_istore_n (pc := 1) (lv' := [(2, .int 0), (0, .ref (adr w 306)), (1, .int x0)]) dX11_place_1 rfl (ltb rfl) rfl ?_
  refine jo_joinS (S := Unit) (fun (z0 : Unit) => σ) (fun (z0 : Unit) => [(0, .ref (adr w 306))]) (fun (z0 : Unit) => []) 75 ?_ (fun h75_0 => ?_)
  · intro _
    show JO w mu_X11_place vI σ [(0, .ref (adr w 306))] [] 75 (j_X11_place_75 σ) _
    unfold j_X11_place_75
    refine jo_aload_n (pc := 75) 0 rfl dX11_place_75 rfl ?_
    refine jo_getf (pc := 76) ok_11_29 (ik_306 hw hN) gw_1322 dX11_place_76 (fun v1 => ?_)
    exact jo_ireturn (pc := 79) rfl rfl dX11_place_79
  · refine jo_lv (lv' := [(0, .ref (adr w 306)), (1, .int x0), (2, .int 0)]) [1, 2, 0] rfl ?_
    refine jo_loop (X := Unit ⊕ Int32) (fun (z2 : Int32) => σ) (fun (z2 : Int32) => [(0, .ref (adr w 306)), (1, .int x0), (2, .int z2)]) (body := (fun (z2 : Int32) => l_X11_place_2 σ x0 z2)) (fun F2_2 hF2_2 s => ?_) 0
    revert s; intro i2
    show JO w mu_X11_place vI σ [(0, .ref (adr w 306)), (1, .int x0), (2, .int i2)] [] 2 (l_X11_place_2 σ x0 i2) _
    unfold l_X11_place_2
    refine jo_iload_n (pc := 2) 2 rfl dX11_place_2 rfl ?_
    refine jo_aload_n (pc := 3) 0 rfl dX11_place_3 rfl ?_
    refine jo_getf (pc := 4) ok_11_29 (ik_306 hw hN) gw_1322 dX11_place_4 (fun v3 => ?_)
    refine jo_icmp_ge (pc := 7) dX11_place_7 (tgt := 75) rfl ?_ ?_
    · refine jo_lv (lv' := [(0, .ref (adr w 306))]) [0] rfl ?_
      exact jo_leaf (by rfl) (h75_0 ())
    · refine jo_iconst (pc := 10) dX11_place_10 (ic_i_1) ?_
      refine jo_istore_n (pc := 11) (lv' := [(3, .int 1), (0, .ref (adr w 306)), (1, .int x0), (2, .int i2)]) dX11_place_11 rfl (ltb rfl) rfl ?_
      refine jo_iconst (pc := 12) dX11_place_12 (ic_i_0) ?_
      refine jo_istore (pc := 13) (lv' := [(4, .int 0), (3, .int 1), (0, .ref (adr w 306)), (1, .int x0), (2, .int i2)]) dX11_place_13 (ltb rfl) rfl ?_
      refine jo_join1 (S := Int32) (fun (z4 : Int32) => σ) (fun (z4 : Int32) => [(0, .ref (adr w 306)), (1, .int x0), (2, .int i2), (3, .int z4)]) (fun (z4 : Int32) => []) 63 ?_ (fun h63_4 => ?_)
      · intro i4
        show JO w mu_X11_place vI σ [(0, .ref (adr w 306)), (1, .int x0), (2, .int i2), (3, .int i4)] [] 63 (j_X11_place_63 i2 i4) _
        unfold j_X11_place_63
        refine jo_iload_n (pc := 63) 3 rfl dX11_place_63 rfl ?_
        refine jo_if_eq (pc := 64) dX11_place_64 (tgt := 69) rfl ?_ ?_
        · refine jo_iinc (pc := 69) (lv' := [(2, .int (i2 + 1)), (0, .ref (adr w 306)), (1, .int x0), (3, .int i4)]) 2 rfl dX11_place_69 (congrArg (fun z => i2 + z) (ic_i_1)) (ltb rfl) rfl ?_
          refine jo_goto (pc := 72) dX11_place_72 (tgt := 2) rfl ?_
          refine jo_lv (lv' := [(0, .ref (adr w 306)), (1, .int x0), (2, .int (i2 + 1))]) [1, 2, 0] rfl ?_
          exact jo_leaf (by rfl) (hF2_2 (i2 + 1))
        · refine jo_iload_n (pc := 67) 2 rfl dX11_place_67 rfl ?_
          exact jo_ireturn (pc := 68) rfl rfl dX11_place_68
      · refine jo_lv (lv' := [(0, .ref (adr w 306)), (1, .int x0), (2, .int i2), (3, .int 1), (4, .int 0)]) [2, 3, 4, 1, 0] rfl ?_
        refine jo_loop (X := Int32) (fun (z6 : (Int32 × Int32)) => σ) (fun (z6 : (Int32 × Int32)) => [(0, .ref (adr w 306)), (1, .int x0), (2, .int i2), (3, .int z6.1), (4, .int z6.2)]) (body := (fun (z6 : (Int32 × Int32)) => l_X11_place_15 σ x0 i2 z6.1 z6.2)) (fun F15_6 hF15_6 s => ?_) (1, 0)
        obtain ⟨i5, i6⟩ := s
        show JO w mu_X11_place vI σ [(0, .ref (adr w 306)), (1, .int x0), (2, .int i2), (3, .int i5), (4, .int i6)] [] 15 (l_X11_place_15 σ x0 i2 i5 i6) _
        unfold l_X11_place_15
        refine jo_iload (pc := 15) 4 rfl dX11_place_15 ?_
        refine jo_aload_n (pc := 17) 0 rfl dX11_place_17 rfl ?_
        refine jo_cV_I_p (pc := 18) (μ' := mu_X11_n) (fx := f_X11_n σ) (As := []) (c_X11_n hw hN) (ok_X11_n) (ltb rfl) (all3 gw_1441 gw_1443 gw_68) (ik_306 hw hN) (by decide) (q := (RX11, TX11, 39)) rfl rfl rfl rfl (Nat.le_of_ble_eq_true rfl) dX11_place_18 (fun v7 => ?_)
        refine jo_icmp_ge (pc := 21) dX11_place_21 (tgt := 63) rfl ?_ ?_
        · refine jo_lv (lv' := [(0, .ref (adr w 306)), (1, .int x0), (2, .int i2), (3, .int i5)]) [0, 1, 2, 3] rfl ?_
          exact jo_leaf (by rfl) (h63_4 i5)
        · refine jo_iload_n (pc := 24) 3 rfl dX11_place_24 rfl ?_
          refine jo_if_eq (pc := 25) dX11_place_25 (tgt := 63) rfl ?_ ?_
          · refine jo_lv (lv' := [(0, .ref (adr w 306)), (1, .int x0), (2, .int i2), (3, .int i5)]) [0, 1, 2, 3] rfl ?_
            exact jo_leaf (by rfl) (h63_4 i5)
          · refine jo_aload_n (pc := 28) 0 rfl dX11_place_28 rfl ?_
            refine jo_getrE (pc := 29) ok_11_28 (ik_306 hw hN) rf_306_28 gw_1321 dX11_place_29 ?_
            refine jo_bipush (pc := 32) dX11_place_32 (ic_b_6) ?_
            refine jo_iload_n (pc := 34) 2 rfl dX11_place_34 rfl ?_
            refine jo_imul (pc := 35) dX11_place_35 ?_
            refine jo_iload (pc := 36) 4 rfl dX11_place_36 ?_
            refine jo_iadd (pc := 38) dX11_place_38 ?_
            refine jo_lald (pc := 39) (ik_319 hw hN) dX11_place_39 (fun v8 => ?_)
            refine jo_aload_n (pc := 40) 0 rfl dX11_place_40 rfl ?_
            refine jo_iload_n (pc := 41) 1 rfl dX11_place_41 rfl ?_
            refine jo_iload (pc := 42) 4 rfl dX11_place_42 ?_
            refine jo_cV_J_p (pc := 44) (μ' := mu_X11_of) (fx := f_X11_of σ x0 i6) (As := [.int x0, .int i6]) (c_X11_of hw hN) (ok_X11_of) (ltb rfl) (all3 gw_1527 gw_1529 gw_87) (ik_306 hw hN) (by decide) (q := (RX11, TX11, 39)) rfl rfl rfl rfl (Nat.le_of_ble_eq_true rfl) dX11_place_44 (fun v9 => ?_)
            refine jo_join1 (S := Bool) (fun (z10 : Bool) => σ) (fun (z10 : Bool) => [(0, .ref (adr w 306)), (1, .int x0), (2, .int i2), (4, .int i6)]) (fun (z10 : Bool) => [.int (b2i z10)]) 56 ?_ (fun h56_10 => ?_)
            · intro b10
              show JO w mu_X11_place vI σ [(0, .ref (adr w 306)), (1, .int x0), (2, .int i2), (4, .int i6)] [.int (b2i b10)] 56 (j_X11_place_56 i6 b10) _
              unfold j_X11_place_56
              refine jo_istore_n (pc := 56) (lv' := [(3, .int (b2i b10)), (0, .ref (adr w 306)), (1, .int x0), (2, .int i2), (4, .int i6)]) dX11_place_56 rfl (ltb rfl) rfl ?_
              refine jo_iinc (pc := 57) (lv' := [(4, .int (i6 + 1)), (3, .int (b2i b10)), (0, .ref (adr w 306)), (1, .int x0), (2, .int i2)]) 4 rfl dX11_place_57 (congrArg (fun z => i6 + z) (ic_i_1)) (ltb rfl) rfl ?_
              refine jo_goto (pc := 60) dX11_place_60 (tgt := 15) rfl ?_
              refine jo_lv (lv' := [(0, .ref (adr w 306)), (1, .int x0), (2, .int i2), (3, .int (b2i b10)), (4, .int (i6 + 1))]) [2, 3, 4, 1, 0] rfl ?_
              exact jo_leaf (by rfl) (hF15_6 (b2i b10, i6 + 1))
            · refine jo_lcmp_ne (pc := 47) dX11_place_47 dX11_place_48 (tgt := 55) rfl ?_ ?_
              · refine jo_iconst (pc := 55) dX11_place_55 (ic_i_0) ?_
                refine jo_lv (lv' := [(0, .ref (adr w 306)), (1, .int x0), (2, .int i2), (4, .int i6)]) [0, 1, 2, 4] rfl ?_
                exact jo_leaf (by rfl) (h56_10 false)
              · refine jo_iconst (pc := 51) dX11_place_51 (ic_i_1) ?_
                refine jo_goto (pc := 52) dX11_place_52 (tgt := 56) rfl ?_
                refine jo_lv (lv' := [(0, .ref (adr w 306)), (1, .int x0), (2, .int i2), (4, .int i6)]) [0, 1, 2, 4] rfl ?_
                exact jo_leaf (by rfl) (h56_10 true)
theorem c_X11_place {w : Wd} (hw : WOK w) (hN : wn w = NT) {σ : Mem} {x0 : Int32} : ∀ r, f_X11_place σ x0 = some r → MC w mu_X11_place (vI r) [.ref (adr w 306), .int x0] σ σ := mc_ofP ok_X11_place rfl (Nat.le_of_ble_eq_true rfl) (t_X11_place hw hN)
abbrev mu_X11_meets : MD := (yX11_meets, cX11_meets, 4, none, 2)
theorem ok_X11_meets : MOK mu_X11_meets 1 := ⟨gw_1803, gw_171, (by decide +kernel : plainFor yX11_meets = true), ⟨(by decide +kernel : yX11_meets.cls ≠ "java/lang/invoke/MethodHandle"), (by decide +kernel : yX11_meets.cls ≠ "java/lang/invoke/VarHandle"), (by decide +kernel : (parseMethodDescriptor yX11_meets.desc).map (fun d => d.parameters.length) = some 1)⟩, Nat.le_of_ble_eq_true rfl⟩
noncomputable def j_X11_meets_46 (σ3 : Mem) : Option Mem :=
  gF σ3 306 29 (fun (v4 : Int32) => pF σ3 306 29 (v4 + 1) (fun (σ5 : Mem) => some σ5))
noncomputable def l_X11_meets_17 (x0 : Int32) (v1 : Int32) (σ6 : Mem) (i7 : Int32) : Option ((Mem × Int32) ⊕ Mem) :=
  if 6 ≤ i7 then (some (Sum.inr σ6)) else ((f_X11_of σ6 x0 i7).bind (fun (v8 : Int64) => pL σ6 319 ((6 * v1) + i7) v8 (fun (σ9 : Mem) => some (Sum.inl (σ9, i7 + 1)))))
noncomputable def f_X11_meets (σ : Mem) (x0 : Int32) : Option Mem :=
  (f_X11_place σ x0).bind (fun (v1 : Int32) => gF σ 306 29 (fun (v2 : Int32) => if v2 ≤ v1 then ((loopO (fun (z7 : (Mem × Int32)) => l_X11_meets_17 x0 v1 z7.1 z7.2) (σ, 0) : Option Mem).bind (fun (z3 : Mem) => j_X11_meets_46 z3)) else (some σ)))
theorem t_X11_meets {w : Wd} (hw : WOK w) (hN : wn w = NT) {σ : Mem} {x0 : Int32} : JO w mu_X11_meets vV σ [(0, .ref (adr w 306)), (1, .int x0)] [] 0 (f_X11_meets σ x0) (fun z => some ((), z)) := by
  unfold f_X11_meets
  refine jo_aload_n (pc := 0) 0 rfl dX11_meets_0 rfl ?_
  refine jo_iload_n (pc := 1) 1 rfl dX11_meets_1 rfl ?_
  refine jo_cV_I_p (pc := 2) (μ' := mu_X11_place) (fx := f_X11_place σ x0) (As := [.int x0]) (c_X11_place hw hN) (ok_X11_place) (ltb rfl) (all3 gw_1804 gw_1806 gw_133) (ik_306 hw hN) (by decide) (q := (RX11, TX11, 39)) rfl rfl rfl rfl (Nat.le_of_ble_eq_true rfl) dX11_meets_2 (fun v1 => ?_)
  refine jo_istore_n (pc := 5) (lv' := [(2, .int v1), (0, .ref (adr w 306)), (1, .int x0)]) dX11_meets_5 rfl (ltb rfl) rfl ?_
  refine jo_iload_n (pc := 6) 0 rfl dX11_meets_6 rfl ?_
  refine jo_aload_n (pc := 7) 1 rfl dX11_meets_7 rfl ?_
  refine jo_getf (pc := 8) ok_11_29 (ik_306 hw hN) gw_1322 dX11_meets_8 (fun v2 => ?_)
  refine jo_icmp_ge (pc := 11) dX11_meets_11 (tgt := 15) rfl ?_ ?_
  · refine jo_iconst (pc := 15) dX11_meets_15 (ic_i_0) ?_
    refine jo_istore_n (pc := 16) (lv' := [(3, .int 0), (2, .int v1), (0, .ref (adr w 306)), (1, .int x0)]) dX11_meets_16 rfl (ltb rfl) rfl ?_
    refine jo_join1 (S := Mem) (fun (z3 : Mem) => z3) (fun (z3 : Mem) => [(0, .ref (adr w 306))]) (fun (z3 : Mem) => []) 46 ?_ (fun h46_3 => ?_)
    · intro σ3
      show JO w mu_X11_meets vV σ3 [(0, .ref (adr w 306))] [] 46 (j_X11_meets_46 σ3) _
      unfold j_X11_meets_46
      refine jo_aload_n (pc := 46) 0 rfl dX11_meets_46 rfl ?_
      refine jo_aload_n (pc := 47) 0 rfl dX11_meets_47 rfl ?_
      refine jo_getf (pc := 48) ok_11_29 (ik_306 hw hN) gw_1322 dX11_meets_48 (fun v4 => ?_)
      refine jo_iconst (pc := 51) dX11_meets_51 (ic_i_1) ?_
      refine jo_iadd (pc := 52) dX11_meets_52 ?_
      refine jo_putf (pc := 53) ok_11_29 okp_11_29 (ik_306 hw hN) gw_1322 dX11_meets_53 (fun σ5 => ?_)
      exact jo_return (pc := 56) rfl rfl dX11_meets_56
    · refine jo_lv (lv' := [(2, .int v1), (0, .ref (adr w 306)), (1, .int x0), (3, .int 0)]) [1, 2, 3, 0] rfl ?_
      refine jo_loop (X := Mem) (fun (z7 : (Mem × Int32)) => z7.1) (fun (z7 : (Mem × Int32)) => [(2, .int v1), (0, .ref (adr w 306)), (1, .int x0), (3, .int z7.2)]) (body := (fun (z7 : (Mem × Int32)) => l_X11_meets_17 x0 v1 z7.1 z7.2)) (fun F17_7 hF17_7 s => ?_) (σ, 0)
      obtain ⟨σ6, i7⟩ := s
      show JO w mu_X11_meets vV σ6 [(2, .int v1), (0, .ref (adr w 306)), (1, .int x0), (3, .int i7)] [] 17 (l_X11_meets_17 x0 v1 σ6 i7) _
      unfold l_X11_meets_17
      refine jo_iload_n (pc := 17) 3 rfl dX11_meets_17 rfl ?_
      refine jo_bipush (pc := 18) dX11_meets_18 (ic_b_6) ?_
      refine jo_icmp_ge (pc := 20) dX11_meets_20 (tgt := 46) rfl ?_ ?_
      · refine jo_lv (lv' := [(0, .ref (adr w 306))]) [1] rfl ?_
        exact jo_leaf (by rfl) (h46_3 σ6)
      · refine jo_aload_n (pc := 23) 1 rfl dX11_meets_23 rfl ?_
        refine jo_getrE (pc := 24) ok_11_28 (ik_306 hw hN) rf_306_28 gw_1321 dX11_meets_24 ?_
        refine jo_bipush (pc := 27) dX11_meets_27 (ic_b_6) ?_
        refine jo_iload_n (pc := 29) 0 rfl dX11_meets_29 rfl ?_
        refine jo_imul (pc := 30) dX11_meets_30 ?_
        refine jo_iload_n (pc := 31) 3 rfl dX11_meets_31 rfl ?_
        refine jo_iadd (pc := 32) dX11_meets_32 ?_
        refine jo_aload_n (pc := 33) 1 rfl dX11_meets_33 rfl ?_
        refine jo_iload_n (pc := 34) 2 rfl dX11_meets_34 rfl ?_
        refine jo_iload_n (pc := 35) 3 rfl dX11_meets_35 rfl ?_
        refine jo_cV_J_p (pc := 36) (μ' := mu_X11_of) (fx := f_X11_of σ6 x0 i7) (As := [.int x0, .int i7]) (c_X11_of hw hN) (ok_X11_of) (ltb rfl) (all3 gw_1527 gw_1529 gw_87) (ik_306 hw hN) (by decide) (q := (RX11, TX11, 39)) rfl rfl rfl rfl (Nat.le_of_ble_eq_true rfl) dX11_meets_36 (fun v8 => ?_)
        refine jo_last (pc := 39) (ik_319 hw hN) dX11_meets_39 (fun σ9 => ?_)
        refine jo_iinc (pc := 40) (lv' := [(3, .int (i7 + 1)), (2, .int v1), (0, .ref (adr w 306)), (1, .int x0)]) 3 rfl dX11_meets_40 (congrArg (fun z => i7 + z) (ic_i_1)) (ltb rfl) rfl ?_
        refine jo_goto (pc := 43) dX11_meets_43 (tgt := 17) rfl ?_
        refine jo_lv (lv' := [(2, .int v1), (0, .ref (adr w 306)), (1, .int x0), (3, .int (i7 + 1))]) [1, 2, 3, 0] rfl ?_
        exact jo_leaf (by rfl) (hF17_7 (σ9, i7 + 1))
  · exact jo_return (pc := 14) rfl rfl dX11_meets_14
theorem c_X11_meets {w : Wd} (hw : WOK w) (hN : wn w = NT) {σ : Mem} {x0 : Int32} : ∀ σ', f_X11_meets σ x0 = some σ' → MC w mu_X11_meets none [.ref (adr w 306), .int x0] σ σ' := mc_ofV ok_X11_meets rfl (Nat.le_of_ble_eq_true rfl) (t_X11_meets hw hN)
abbrev mu_X11_laysBall : MD := (yX11_laysBall, cX11_laysBall, 8, some .int, 3)
theorem ok_X11_laysBall : MOK mu_X11_laysBall 1 := ⟨gw_1799, gw_171, (by decide +kernel : plainFor yX11_laysBall = true), ⟨(by decide +kernel : yX11_laysBall.cls ≠ "java/lang/invoke/MethodHandle"), (by decide +kernel : yX11_laysBall.cls ≠ "java/lang/invoke/VarHandle"), (by decide +kernel : (parseMethodDescriptor yX11_laysBall.desc).map (fun d => d.parameters.length) = some 1)⟩, Nat.le_of_ble_eq_true rfl⟩
noncomputable def j_X11_laysBall_174 (σ4 : Mem) : Option (Int32 × Mem) :=
  gF σ4 306 29 (fun (v5 : Int32) => some (v5, σ4))
noncomputable def j_X11_laysBall_148 (σ6 : Mem) : Option (Mem ⊕ (Int32 × Mem)) :=
  gF σ6 306 29 (fun (v7 : Int32) => some (Sum.inr (v7, σ6)))
noncomputable def j_X11_laysBall_165 (i10 : Int32) (v11 : Int32) (σ12 : Mem) : Option ((Mem × Int32 × Int32) ⊕ (Mem ⊕ (Mem ⊕ (Int32 × Mem)))) :=
  some (Sum.inl (σ12, v11, i10 + 1))
noncomputable def j_X11_laysBall_159 (i14 : Int32) (σ15 : Mem) : Option ((Mem × Int32) ⊕ (Mem ⊕ ((Mem × Int32 × Int32) ⊕ (Mem ⊕ (Mem ⊕ (Int32 × Mem)))))) :=
  some (Sum.inl (σ15, i14 + 1))
noncomputable def j_X11_laysBall_153 (i17 : Int32) (σ20 : Mem) : Option ((Mem × Int32) ⊕ (Mem ⊕ ((Mem × Int32) ⊕ (Mem ⊕ ((Mem × Int32 × Int32) ⊕ (Mem ⊕ (Mem ⊕ (Int32 × Mem)))))))) :=
  some (Sum.inl (σ20, i17 + 1))
noncomputable def j_X11_laysBall_129 (i17 : Int32) (σ21 : Mem) (l22 : Int64) : Option (Mem ⊕ ((Mem × Int32) ⊕ (Mem ⊕ ((Mem × Int32) ⊕ (Mem ⊕ ((Mem × Int32 × Int32) ⊕ (Mem ⊕ (Mem ⊕ (Int32 × Mem))))))))) :=
  (f_X11_timesLetter σ21 20 (i17 / 2) l22).bind (fun (σ23 : Mem) => (f_X11_meets σ23 20).bind (fun (σ24 : Mem) => gF σ24 306 29 (fun (v25 : Int32) => if v25 ≤ 1000 then (some (Sum.inl σ24)) else (some (Sum.inr (Sum.inr (Sum.inr (Sum.inr (Sum.inr (Sum.inr (Sum.inl σ24)))))))))))
noncomputable def j_X11_laysBall_108 (i17 : Int32) (σ21 : Mem) : Option (Mem ⊕ ((Mem × Int32) ⊕ (Mem ⊕ ((Mem × Int32) ⊕ (Mem ⊕ ((Mem × Int32 × Int32) ⊕ (Mem ⊕ (Mem ⊕ (Int32 × Mem))))))))) :=
  nzI 2 (nzI 2 ((if (i17 - i17 / 2 * 2) = 0 then (some 1) else (some (-1)) : Option Int64).bind (fun (z22 : Int64) => j_X11_laysBall_129 i17 σ21 z22)))
noncomputable def l_X11_laysBall_74 (i14 : Int32) (σ26 : Mem) (i27 : Int32) : Option ((Mem × Int32) ⊕ Mem) :=
  if 6 ≤ i27 then (some (Sum.inr σ26)) else (gL σ26 319 ((6 * i14) + i27) (fun (v28 : Int64) => (f_X11_puts σ26 20 i27 v28).bind (fun (σ29 : Mem) => some (Sum.inl (σ29, i27 + 1)))))
noncomputable def l_X11_laysBall_45 (i14 : Int32) (σ16 : Mem) (i17 : Int32) : Option ((Mem × Int32) ⊕ (Mem ⊕ ((Mem × Int32) ⊕ (Mem ⊕ ((Mem × Int32 × Int32) ⊕ (Mem ⊕ (Mem ⊕ (Int32 × Mem)))))))) :=
  (f_X11_n σ16).bind (fun (v18 : Int32) => if (2 * v18) ≤ i17 then (some (Sum.inr (Sum.inl σ16))) else (nzI 2 ((f_X11_weight σ16 (i17 / 2)).bind (fun (v19 : Int32) => (if v19 ≤ 1 then ((loopO (fun (z27 : (Mem × Int32)) => l_X11_laysBall_74 i14 z27.1 z27.2) (σ16, 0) : Option Mem).bind (fun (z21 : Mem) => j_X11_laysBall_108 i17 z21)) else (some (Sum.inl σ16)) : Option (Mem ⊕ ((Mem × Int32) ⊕ (Mem ⊕ ((Mem × Int32) ⊕ (Mem ⊕ ((Mem × Int32 × Int32) ⊕ (Mem ⊕ (Mem ⊕ (Int32 × Mem)))))))))).bind (Sum.elim (fun (z20 : Mem) => j_X11_laysBall_153 i17 z20) some)))))
noncomputable def l_X11_laysBall_35 (v11 : Int32) (σ13 : Mem) (i14 : Int32) : Option ((Mem × Int32) ⊕ (Mem ⊕ ((Mem × Int32 × Int32) ⊕ (Mem ⊕ (Mem ⊕ (Int32 × Mem)))))) :=
  if v11 ≤ i14 then (some (Sum.inr (Sum.inl σ13))) else ((loopO (fun (z17 : (Mem × Int32)) => l_X11_laysBall_45 i14 z17.1 z17.2) (σ13, 0) : Option (Mem ⊕ ((Mem × Int32) ⊕ (Mem ⊕ ((Mem × Int32 × Int32) ⊕ (Mem ⊕ (Mem ⊕ (Int32 × Mem)))))))).bind (Sum.elim (fun (z15 : Mem) => j_X11_laysBall_159 i14 z15) some))
noncomputable def l_X11_laysBall_21 (x0 : Int32) (σ8 : Mem) (i9 : Int32) (i10 : Int32) : Option ((Mem × Int32 × Int32) ⊕ (Mem ⊕ (Mem ⊕ (Int32 × Mem)))) :=
  if x0 ≤ i10 then (some (Sum.inr (Sum.inr (Sum.inl σ8)))) else (gF σ8 306 29 (fun (v11 : Int32) => (loopO (fun (z14 : (Mem × Int32)) => l_X11_laysBall_35 v11 z14.1 z14.2) (σ8, i9) : Option (Mem ⊕ ((Mem × Int32 × Int32) ⊕ (Mem ⊕ (Mem ⊕ (Int32 × Mem)))))).bind (Sum.elim (fun (z12 : Mem) => j_X11_laysBall_165 i10 v11 z12) some)))
noncomputable def f_X11_laysBall (σ : Mem) (x0 : Int32) : Option (Int32 × Mem) :=
  pF σ 306 29 0 (fun (σ1 : Mem) => (f_X11_ones σ1 20).bind (fun (σ2 : Mem) => (f_X11_meets σ2 20).bind (fun (σ3 : Mem) => ((loopO (fun (z10 : (Mem × Int32 × Int32)) => l_X11_laysBall_21 x0 z10.1 z10.2.1 z10.2.2) (σ3, 0, 0) : Option (Mem ⊕ (Mem ⊕ (Int32 × Mem)))).bind (Sum.elim (fun (z6 : Mem) => j_X11_laysBall_148 z6) some) : Option (Mem ⊕ (Int32 × Mem))).bind (Sum.elim (fun (z4 : Mem) => j_X11_laysBall_174 z4) some))))
theorem t_X11_laysBall {w : Wd} (hw : WOK w) (hN : wn w = NT) {σ : Mem} {x0 : Int32} : JO w mu_X11_laysBall vI σ [(0, .ref (adr w 306)), (1, .int x0)] [] 0 (f_X11_laysBall σ x0) some := by
  unfold f_X11_laysBall
  refine jo_aload_n (pc := 0) 0 rfl dX11_laysBall_0 rfl ?_
  refine jo_iconst (pc := 1) dX11_laysBall_1 (ic_i_0) ?_
  refine jo_putf (pc := 2) ok_11_29 okp_11_29 (ik_306 hw hN) gw_1322 dX11_laysBall_2 (fun σ1 => ?_)
  refine jo_aload_n (pc := 5) 0 rfl dX11_laysBall_5 rfl ?_
  refine jo_bipush (pc := 6) dX11_laysBall_6 (ic_b_20) ?_
  refine jo_cV_V_i (pc := 8) (μ' := mu_X11_ones) (fx := f_X11_ones σ1 20) (As := [.int 20]) (c_X11_ones hw hN) (ok_X11_ones) (ltb rfl) (all3 gw_1587 gw_1589 gw_99) (ik_306 hw hN) (by decide) (q := (RX11, TX11, 39)) rfl rfl rfl rfl (Nat.le_of_ble_eq_true rfl) dX11_laysBall_8 (fun σ2 => ?_)
  refine jo_aload_n (pc := 11) 0 rfl dX11_laysBall_11 rfl ?_
  refine jo_bipush (pc := 12) dX11_laysBall_12 (ic_b_20) ?_
  refine jo_cV_V_i (pc := 14) (μ' := mu_X11_meets) (fx := f_X11_meets σ2 20) (As := [.int 20]) (c_X11_meets hw hN) (ok_X11_meets) (ltb rfl) (all3 gw_1800 gw_1802 gw_132) (ik_306 hw hN) (by decide) (q := (RX11, TX11, 39)) rfl rfl rfl rfl (Nat.le_of_ble_eq_true rfl) dX11_laysBall_14 (fun σ3 => ?_)
  refine jo_iconst (pc := 17) dX11_laysBall_17 (ic_i_0) ?_
  refine jo_istore_n (pc := 18) (lv' := [(2, .int 0), (0, .ref (adr w 306)), (1, .int x0)]) dX11_laysBall_18 rfl (ltb rfl) rfl ?_
  refine jo_iconst (pc := 19) dX11_laysBall_19 (ic_i_0) ?_
  refine jo_istore_n (pc := 20) (lv' := [(3, .int 0), (2, .int 0), (0, .ref (adr w 306)), (1, .int x0)]) dX11_laysBall_20 rfl (ltb rfl) rfl ?_
  refine jo_joinS (S := Mem) (fun (z4 : Mem) => z4) (fun (z4 : Mem) => [(0, .ref (adr w 306))]) (fun (z4 : Mem) => []) 174 ?_ (fun h174_4 => ?_)
  · intro σ4
    show JO w mu_X11_laysBall vI σ4 [(0, .ref (adr w 306))] [] 174 (j_X11_laysBall_174 σ4) _
    unfold j_X11_laysBall_174
    refine jo_aload_n (pc := 174) 0 rfl dX11_laysBall_174 rfl ?_
    refine jo_getf (pc := 175) ok_11_29 (ik_306 hw hN) gw_1322 dX11_laysBall_175 (fun v5 => ?_)
    exact jo_ireturn (pc := 178) rfl rfl dX11_laysBall_178
  · refine jo_joinS (S := Mem) (fun (z6 : Mem) => z6) (fun (z6 : Mem) => [(0, .ref (adr w 306))]) (fun (z6 : Mem) => []) 148 ?_ (fun h148_6 => ?_)
    · intro σ6
      show JO w mu_X11_laysBall vI σ6 [(0, .ref (adr w 306))] [] 148 (j_X11_laysBall_148 σ6) _
      unfold j_X11_laysBall_148
      refine jo_aload_n (pc := 148) 0 rfl dX11_laysBall_148 rfl ?_
      refine jo_getf (pc := 149) ok_11_29 (ik_306 hw hN) gw_1322 dX11_laysBall_149 (fun v7 => ?_)
      exact jo_ireturn (pc := 152) rfl rfl dX11_laysBall_152
    · refine jo_lv (lv' := [(0, .ref (adr w 306)), (1, .int x0), (2, .int 0), (3, .int 0)]) [2, 3, 1, 0] rfl ?_
      refine jo_loop (X := Mem ⊕ (Mem ⊕ (Int32 × Mem))) (fun (z10 : (Mem × Int32 × Int32)) => z10.1) (fun (z10 : (Mem × Int32 × Int32)) => [(0, .ref (adr w 306)), (1, .int x0), (2, .int z10.2.1), (3, .int z10.2.2)]) (body := (fun (z10 : (Mem × Int32 × Int32)) => l_X11_laysBall_21 x0 z10.1 z10.2.1 z10.2.2)) (fun F21_10 hF21_10 s => ?_) (σ3, 0, 0)
      obtain ⟨σ8, i9, i10⟩ := s
      show JO w mu_X11_laysBall vI σ8 [(0, .ref (adr w 306)), (1, .int x0), (2, .int i9), (3, .int i10)] [] 21 (l_X11_laysBall_21 x0 σ8 i9 i10) _
      unfold l_X11_laysBall_21
      refine jo_iload_n (pc := 21) 3 rfl dX11_laysBall_21 rfl ?_
      refine jo_iload_n (pc := 22) 1 rfl dX11_laysBall_22 rfl ?_
      refine jo_icmp_ge (pc := 23) dX11_laysBall_23 (tgt := 174) rfl ?_ ?_
      · refine jo_lv (lv' := [(0, .ref (adr w 306))]) [0] rfl ?_
        exact jo_leaf (by rfl) (h174_4 σ8)
      · refine jo_aload_n (pc := 26) 0 rfl dX11_laysBall_26 rfl ?_
        refine jo_getf (pc := 27) ok_11_29 (ik_306 hw hN) gw_1322 dX11_laysBall_27 (fun v11 => ?_)
        refine jo_istore (pc := 30) (lv' := [(4, .int v11), (0, .ref (adr w 306)), (1, .int x0), (2, .int i9), (3, .int i10)]) dX11_laysBall_30 (ltb rfl) rfl ?_
        refine jo_iload_n (pc := 32) 3 rfl dX11_laysBall_32 rfl ?_
        refine jo_istore (pc := 33) (lv' := [(5, .int i9), (4, .int v11), (0, .ref (adr w 306)), (1, .int x0), (2, .int i9), (3, .int i10)]) dX11_laysBall_33 (ltb rfl) rfl ?_
        refine jo_joinS (S := Mem) (fun (z12 : Mem) => z12) (fun (z12 : Mem) => [(4, .int v11), (0, .ref (adr w 306)), (1, .int x0), (3, .int i10)]) (fun (z12 : Mem) => []) 165 ?_ (fun h165_12 => ?_)
        · intro σ12
          show JO w mu_X11_laysBall vI σ12 [(4, .int v11), (0, .ref (adr w 306)), (1, .int x0), (3, .int i10)] [] 165 (j_X11_laysBall_165 i10 v11 σ12) _
          unfold j_X11_laysBall_165
          refine jo_iload (pc := 165) 0 rfl dX11_laysBall_165 ?_
          refine jo_istore_n (pc := 167) (lv' := [(2, .int v11), (4, .int v11), (0, .ref (adr w 306)), (1, .int x0), (3, .int i10)]) dX11_laysBall_167 rfl (ltb rfl) rfl ?_
          refine jo_iinc (pc := 168) (lv' := [(3, .int (i10 + 1)), (2, .int v11), (4, .int v11), (0, .ref (adr w 306)), (1, .int x0)]) 4 rfl dX11_laysBall_168 (congrArg (fun z => i10 + z) (ic_i_1)) (ltb rfl) rfl ?_
          refine jo_goto (pc := 171) dX11_laysBall_171 (tgt := 21) rfl ?_
          refine jo_lv (lv' := [(0, .ref (adr w 306)), (1, .int x0), (2, .int v11), (3, .int (i10 + 1))]) [3, 4, 1, 0] rfl ?_
          exact jo_leaf (by rfl) (hF21_10 (σ12, v11, i10 + 1))
        · refine jo_lv (lv' := [(4, .int v11), (0, .ref (adr w 306)), (1, .int x0), (3, .int i10), (5, .int i9)]) [1, 2, 3, 5, 0] rfl ?_
          refine jo_loop (X := Mem ⊕ ((Mem × Int32 × Int32) ⊕ (Mem ⊕ (Mem ⊕ (Int32 × Mem))))) (fun (z14 : (Mem × Int32)) => z14.1) (fun (z14 : (Mem × Int32)) => [(4, .int v11), (0, .ref (adr w 306)), (1, .int x0), (3, .int i10), (5, .int z14.2)]) (body := (fun (z14 : (Mem × Int32)) => l_X11_laysBall_35 v11 z14.1 z14.2)) (fun F35_14 hF35_14 s => ?_) (σ8, i9)
          obtain ⟨σ13, i14⟩ := s
          show JO w mu_X11_laysBall vI σ13 [(4, .int v11), (0, .ref (adr w 306)), (1, .int x0), (3, .int i10), (5, .int i14)] [] 35 (l_X11_laysBall_35 v11 σ13 i14) _
          unfold l_X11_laysBall_35
          refine jo_iload (pc := 35) 4 rfl dX11_laysBall_35 ?_
          refine jo_iload (pc := 37) 0 rfl dX11_laysBall_37 ?_
          refine jo_icmp_ge (pc := 39) dX11_laysBall_39 (tgt := 165) rfl ?_ ?_
          · refine jo_lv (lv' := [(4, .int v11), (0, .ref (adr w 306)), (1, .int x0), (3, .int i10)]) [0, 1, 2, 3] rfl ?_
            exact jo_leaf (by rfl) (h165_12 σ13)
          · refine jo_iconst (pc := 42) dX11_laysBall_42 (ic_i_0) ?_
            refine jo_istore (pc := 43) (lv' := [(6, .int 0), (4, .int v11), (0, .ref (adr w 306)), (1, .int x0), (3, .int i10), (5, .int i14)]) dX11_laysBall_43 (ltb rfl) rfl ?_
            refine jo_joinS (S := Mem) (fun (z15 : Mem) => z15) (fun (z15 : Mem) => [(4, .int v11), (0, .ref (adr w 306)), (1, .int x0), (3, .int i10), (5, .int i14)]) (fun (z15 : Mem) => []) 159 ?_ (fun h159_15 => ?_)
            · intro σ15
              show JO w mu_X11_laysBall vI σ15 [(4, .int v11), (0, .ref (adr w 306)), (1, .int x0), (3, .int i10), (5, .int i14)] [] 159 (j_X11_laysBall_159 i14 σ15) _
              unfold j_X11_laysBall_159
              refine jo_iinc (pc := 159) (lv' := [(5, .int (i14 + 1)), (4, .int v11), (0, .ref (adr w 306)), (1, .int x0), (3, .int i10)]) 4 rfl dX11_laysBall_159 (congrArg (fun z => i14 + z) (ic_i_1)) (ltb rfl) rfl ?_
              refine jo_goto (pc := 162) dX11_laysBall_162 (tgt := 35) rfl ?_
              refine jo_lv (lv' := [(4, .int v11), (0, .ref (adr w 306)), (1, .int x0), (3, .int i10), (5, .int (i14 + 1))]) [1, 2, 3, 4, 0] rfl ?_
              exact jo_leaf (by rfl) (hF35_14 (σ15, i14 + 1))
            · refine jo_lv (lv' := [(4, .int v11), (0, .ref (adr w 306)), (1, .int x0), (3, .int i10), (5, .int i14), (6, .int 0)]) [1, 2, 3, 4, 5, 0] rfl ?_
              refine jo_loop (X := Mem ⊕ ((Mem × Int32) ⊕ (Mem ⊕ ((Mem × Int32 × Int32) ⊕ (Mem ⊕ (Mem ⊕ (Int32 × Mem))))))) (fun (z17 : (Mem × Int32)) => z17.1) (fun (z17 : (Mem × Int32)) => [(4, .int v11), (0, .ref (adr w 306)), (1, .int x0), (3, .int i10), (5, .int i14), (6, .int z17.2)]) (body := (fun (z17 : (Mem × Int32)) => l_X11_laysBall_45 i14 z17.1 z17.2)) (fun F45_17 hF45_17 s => ?_) (σ13, 0)
              obtain ⟨σ16, i17⟩ := s
              show JO w mu_X11_laysBall vI σ16 [(4, .int v11), (0, .ref (adr w 306)), (1, .int x0), (3, .int i10), (5, .int i14), (6, .int i17)] [] 45 (l_X11_laysBall_45 i14 σ16 i17) _
              unfold l_X11_laysBall_45
              refine jo_iload (pc := 45) 5 rfl dX11_laysBall_45 ?_
              refine jo_iconst (pc := 47) dX11_laysBall_47 (ic_i_2) ?_
              refine jo_aload_n (pc := 48) 1 rfl dX11_laysBall_48 rfl ?_
              refine jo_cV_I_p (pc := 49) (μ' := mu_X11_n) (fx := f_X11_n σ16) (As := []) (c_X11_n hw hN) (ok_X11_n) (ltb rfl) (all3 gw_1441 gw_1443 gw_68) (ik_306 hw hN) (by decide) (q := (RX11, TX11, 39)) rfl rfl rfl rfl (Nat.le_of_ble_eq_true rfl) dX11_laysBall_49 (fun v18 => ?_)
              refine jo_imul (pc := 52) dX11_laysBall_52 ?_
              refine jo_icmp_ge (pc := 53) dX11_laysBall_53 (tgt := 159) rfl ?_ ?_
              · refine jo_lv (lv' := [(4, .int v11), (0, .ref (adr w 306)), (1, .int x0), (3, .int i10), (5, .int i14)]) [0, 1, 2, 3, 4] rfl ?_
                exact jo_leaf (by rfl) (h159_15 σ16)
              · refine jo_aload_n (pc := 56) 1 rfl dX11_laysBall_56 rfl ?_
                refine jo_iload (pc := 57) 5 rfl dX11_laysBall_57 ?_
                refine jo_iconst (pc := 59) dX11_laysBall_59 (ic_i_2) ?_
                refine jo_idiv (pc := 60) dX11_laysBall_60 ?_
                refine jo_cV_I_p (pc := 61) (μ' := mu_X11_weight) (fx := f_X11_weight σ16 (i17 / 2)) (As := [.int (i17 / 2)]) (c_X11_weight hw hN) (ok_X11_weight) (ltb rfl) (all3 gw_1446 gw_1448 gw_69) (ik_306 hw hN) (by decide) (q := (RX11, TX11, 39)) rfl rfl rfl rfl (Nat.le_of_ble_eq_true rfl) dX11_laysBall_61 (fun v19 => ?_)
                refine jo_iconst (pc := 64) dX11_laysBall_64 (ic_i_1) ?_
                refine jo_joinS (S := Mem) (fun (z20 : Mem) => z20) (fun (z20 : Mem) => [(4, .int v11), (0, .ref (adr w 306)), (1, .int x0), (3, .int i10), (5, .int i14), (6, .int i17)]) (fun (z20 : Mem) => []) 153 ?_ (fun h153_20 => ?_)
                · intro σ20
                  show JO w mu_X11_laysBall vI σ20 [(4, .int v11), (0, .ref (adr w 306)), (1, .int x0), (3, .int i10), (5, .int i14), (6, .int i17)] [] 153 (j_X11_laysBall_153 i17 σ20) _
                  unfold j_X11_laysBall_153
                  refine jo_iinc (pc := 153) (lv' := [(6, .int (i17 + 1)), (4, .int v11), (0, .ref (adr w 306)), (1, .int x0), (3, .int i10), (5, .int i14)]) 5 rfl dX11_laysBall_153 (congrArg (fun z => i17 + z) (ic_i_1)) (ltb rfl) rfl ?_
                  refine jo_goto (pc := 156) dX11_laysBall_156 (tgt := 45) rfl ?_
                  refine jo_lv (lv' := [(4, .int v11), (0, .ref (adr w 306)), (1, .int x0), (3, .int i10), (5, .int i14), (6, .int (i17 + 1))]) [1, 2, 3, 4, 5, 0] rfl ?_
                  exact jo_leaf (by rfl) (hF45_17 (σ20, i17 + 1))
                · refine jo_icmp_le (pc := 65) dX11_laysBall_65 (tgt := 71) rfl ?_ ?_
                  · refine jo_iconst (pc := 71) dX11_laysBall_71 (ic_i_0) ?_
                    refine jo_istore (pc := 72) (lv' := [(7, .int 0), (4, .int v11), (0, .ref (adr w 306)), (1, .int x0), (3, .int i10), (5, .int i14), (6, .int i17)]) dX11_laysBall_72 (ltb rfl) rfl ?_
                    refine jo_join1 (S := Mem) (fun (z21 : Mem) => z21) (fun (z21 : Mem) => [(4, .int v11), (0, .ref (adr w 306)), (1, .int x0), (3, .int i10), (5, .int i14), (6, .int i17)]) (fun (z21 : Mem) => []) 108 ?_ (fun h108_21 => ?_)
                    · intro σ21
                      show JO w mu_X11_laysBall vI σ21 [(4, .int v11), (0, .ref (adr w 306)), (1, .int x0), (3, .int i10), (5, .int i14), (6, .int i17)] [] 108 (j_X11_laysBall_108 i17 σ21) _
                      unfold j_X11_laysBall_108
                      refine jo_aload_n (pc := 108) 1 rfl dX11_laysBall_108 rfl ?_
                      refine jo_bipush (pc := 109) dX11_laysBall_109 (ic_b_20) ?_
                      refine jo_iload (pc := 111) 5 rfl dX11_laysBall_111 ?_
                      refine jo_iconst (pc := 113) dX11_laysBall_113 (ic_i_2) ?_
                      refine jo_idiv (pc := 114) dX11_laysBall_114 ?_
                      refine jo_iload (pc := 115) 5 rfl dX11_laysBall_115 ?_
                      refine jo_iconst (pc := 117) dX11_laysBall_117 (ic_i_2) ?_
                      refine jo_irem (pc := 118) dX11_laysBall_118 ?_
                      refine jo_join1 (S := Int64) (fun (z22 : Int64) => σ21) (fun (z22 : Int64) => [(4, .int v11), (0, .ref (adr w 306)), (1, .int x0), (3, .int i10), (5, .int i14), (6, .int i17)]) (fun (z22 : Int64) => [.long z22, .int (i17 / 2), .int 20, .ref (adr w 306)]) 129 ?_ (fun h129_22 => ?_)
                      · intro l22
                        show JO w mu_X11_laysBall vI σ21 [(4, .int v11), (0, .ref (adr w 306)), (1, .int x0), (3, .int i10), (5, .int i14), (6, .int i17)] [.long l22, .int (i17 / 2), .int 20, .ref (adr w 306)] 129 (j_X11_laysBall_129 i17 σ21 l22) _
                        unfold j_X11_laysBall_129
                        refine jo_cV_V_i (pc := 129) (μ' := mu_X11_timesLetter) (fx := f_X11_timesLetter σ21 20 (i17 / 2) l22) (As := [.int 20, .int (i17 / 2), .long l22]) (c_X11_timesLetter hw hN) (ok_X11_timesLetter) (ltb rfl) (all3 gw_1531 gw_1533 gw_88) (ik_306 hw hN) (by decide) (q := (RX11, TX11, 39)) rfl rfl rfl rfl (Nat.le_of_ble_eq_true rfl) dX11_laysBall_129 (fun σ23 => ?_)
                        refine jo_aload_n (pc := 132) 1 rfl dX11_laysBall_132 rfl ?_
                        refine jo_bipush (pc := 133) dX11_laysBall_133 (ic_b_20) ?_
                        refine jo_cV_V_i (pc := 135) (μ' := mu_X11_meets) (fx := f_X11_meets σ23 20) (As := [.int 20]) (c_X11_meets hw hN) (ok_X11_meets) (ltb rfl) (all3 gw_1800 gw_1802 gw_132) (ik_306 hw hN) (by decide) (q := (RX11, TX11, 39)) rfl rfl rfl rfl (Nat.le_of_ble_eq_true rfl) dX11_laysBall_135 (fun σ24 => ?_)
                        refine jo_aload_n (pc := 138) 1 rfl dX11_laysBall_138 rfl ?_
                        refine jo_getf (pc := 139) ok_11_29 (ik_306 hw hN) gw_1322 dX11_laysBall_139 (fun v25 => ?_)
                        refine jo_sipush (pc := 142) dX11_laysBall_142 (ic_s_1000) ?_
                        refine jo_icmp_le (pc := 145) dX11_laysBall_145 (tgt := 153) rfl ?_ ?_
                        · exact jo_leaf (by rfl) (h153_20 σ24)
                        · refine jo_lv (lv' := [(0, .ref (adr w 306))]) [1] rfl ?_
                          exact jo_leaf (by rfl) (h148_6 σ24)
                      · refine jo_if_ne (pc := 119) dX11_laysBall_119 (tgt := 126) rfl ?_ ?_
                        · refine jo_ldc2 (pc := 126) dX11_laysBall_126 gw_1552 ?_
                          exact jo_leaf (by rfl) (h129_22 (-1))
                        · refine jo_lconst (pc := 122) dX11_laysBall_122 (ic_l_1) ?_
                          refine jo_goto (pc := 123) dX11_laysBall_123 (tgt := 129) rfl ?_
                          exact jo_leaf (by rfl) (h129_22 1)
                    · refine jo_lv (lv' := [(4, .int v11), (0, .ref (adr w 306)), (1, .int x0), (3, .int i10), (5, .int i14), (6, .int i17), (7, .int 0)]) [1, 2, 3, 4, 5, 6, 0] rfl ?_
                      refine jo_loop (X := Mem) (fun (z27 : (Mem × Int32)) => z27.1) (fun (z27 : (Mem × Int32)) => [(4, .int v11), (0, .ref (adr w 306)), (1, .int x0), (3, .int i10), (5, .int i14), (6, .int i17), (7, .int z27.2)]) (body := (fun (z27 : (Mem × Int32)) => l_X11_laysBall_74 i14 z27.1 z27.2)) (fun F74_27 hF74_27 s => ?_) (σ16, 0)
                      obtain ⟨σ26, i27⟩ := s
                      show JO w mu_X11_laysBall vI σ26 [(4, .int v11), (0, .ref (adr w 306)), (1, .int x0), (3, .int i10), (5, .int i14), (6, .int i17), (7, .int i27)] [] 74 (l_X11_laysBall_74 i14 σ26 i27) _
                      unfold l_X11_laysBall_74
                      refine jo_iload (pc := 74) 6 rfl dX11_laysBall_74 ?_
                      refine jo_bipush (pc := 76) dX11_laysBall_76 (ic_b_6) ?_
                      refine jo_icmp_ge (pc := 78) dX11_laysBall_78 (tgt := 108) rfl ?_ ?_
                      · refine jo_lv (lv' := [(4, .int v11), (0, .ref (adr w 306)), (1, .int x0), (3, .int i10), (5, .int i14), (6, .int i17)]) [0, 1, 2, 3, 4, 5] rfl ?_
                        exact jo_leaf (by rfl) (h108_21 σ26)
                      · refine jo_aload_n (pc := 81) 1 rfl dX11_laysBall_81 rfl ?_
                        refine jo_bipush (pc := 82) dX11_laysBall_82 (ic_b_20) ?_
                        refine jo_iload (pc := 84) 6 rfl dX11_laysBall_84 ?_
                        refine jo_aload_n (pc := 86) 1 rfl dX11_laysBall_86 rfl ?_
                        refine jo_getrE (pc := 87) ok_11_28 (ik_306 hw hN) rf_306_28 gw_1321 dX11_laysBall_87 ?_
                        refine jo_bipush (pc := 90) dX11_laysBall_90 (ic_b_6) ?_
                        refine jo_iload (pc := 92) 4 rfl dX11_laysBall_92 ?_
                        refine jo_imul (pc := 94) dX11_laysBall_94 ?_
                        refine jo_iload (pc := 95) 6 rfl dX11_laysBall_95 ?_
                        refine jo_iadd (pc := 97) dX11_laysBall_97 ?_
                        refine jo_lald (pc := 98) (ik_319 hw hN) dX11_laysBall_98 (fun v28 => ?_)
                        refine jo_cV_V_i (pc := 99) (μ' := mu_X11_puts) (fx := f_X11_puts σ26 20 i27 v28) (As := [.int 20, .int i27, .long v28]) (c_X11_puts hw hN) (ok_X11_puts) (ltb rfl) (all3 gw_1519 gw_1521 gw_85) (ik_306 hw hN) (by decide) (q := (RX11, TX11, 39)) rfl rfl rfl rfl (Nat.le_of_ble_eq_true rfl) dX11_laysBall_99 (fun σ29 => ?_)
                        refine jo_iinc (pc := 102) (lv' := [(7, .int (i27 + 1)), (4, .int v11), (0, .ref (adr w 306)), (1, .int x0), (3, .int i10), (5, .int i14), (6, .int i17)]) 6 rfl dX11_laysBall_102 (congrArg (fun z => i27 + z) (ic_i_1)) (ltb rfl) rfl ?_
                        refine jo_goto (pc := 105) dX11_laysBall_105 (tgt := 74) rfl ?_
                        refine jo_lv (lv' := [(4, .int v11), (0, .ref (adr w 306)), (1, .int x0), (3, .int i10), (5, .int i14), (6, .int i17), (7, .int (i27 + 1))]) [1, 2, 3, 4, 5, 6, 0] rfl ?_
                        exact jo_leaf (by rfl) (hF74_27 (σ29, i27 + 1))
                  · refine jo_goto (pc := 68) dX11_laysBall_68 (tgt := 153) rfl ?_
                    exact jo_leaf (by rfl) (h153_20 σ16)
theorem c_X11_laysBall {w : Wd} (hw : WOK w) (hN : wn w = NT) {σ : Mem} {x0 : Int32} : ∀ r σ', f_X11_laysBall σ x0 = some (r, σ') → MC w mu_X11_laysBall (vI r) [.ref (adr w 306), .int x0] σ σ' := mc_of ok_X11_laysBall rfl (Nat.le_of_ble_eq_true rfl) (t_X11_laysBall hw hN)
abbrev mu_X11_ball : MD := (yX11_ball, cX11_ball, 3, some .int, 37)
theorem ok_X11_ball : MOK mu_X11_ball 1 := ⟨gw_1794, gw_171, (by decide +kernel : plainFor yX11_ball = true), ⟨(by decide +kernel : yX11_ball.cls ≠ "java/lang/invoke/MethodHandle"), (by decide +kernel : yX11_ball.cls ≠ "java/lang/invoke/VarHandle"), (by decide +kernel : (parseMethodDescriptor yX11_ball.desc).map (fun d => d.parameters.length) = some 1)⟩, Nat.le_of_ble_eq_true rfl⟩
noncomputable def f_X11_ball (σ : Mem) (x0 : Int32) : Option (Int32 × Mem) :=
  pF σ 306 0 0 (fun (σ1 : Mem) => (f_X11_isIn σ1 (Int32.toInt64 x0) 0 4).bind (fun (b2 : Bool) => if b2 then bq (f_X11_isConsistent σ1) (fun (b3 : Bool) (σ4 : Mem) => if b3 then bq (f_X11_laysBall σ4 x0) (fun (v5 : Int32) (σ6 : Mem) => if v5 ≤ 1000 then (some (v5, σ6)) else (some ((-1), σ6))) else some ((-1), σ4)) else some ((-1), σ1)))
theorem t_X11_ball {w : Wd} (hw : WOK w) (hN : wn w = NT) {σ : Mem} {x0 : Int32} : JO w mu_X11_ball vI σ [(0, .ref (adr w 306)), (1, .int x0)] [] 0 (f_X11_ball σ x0) some := by
  unfold f_X11_ball
  refine jo_aload_n (pc := 0) 0 rfl dX11_ball_0 rfl ?_
  refine jo_iconst (pc := 1) dX11_ball_1 (ic_i_0) ?_
  refine jo_putf (pc := 2) ok_11_0 okp_11_0 (ik_306 hw hN) gw_1293 dX11_ball_2 (fun σ1 => ?_)
  refine jo_aload_n (pc := 5) 0 rfl dX11_ball_5 rfl ?_
  refine jo_iload_n (pc := 6) 1 rfl dX11_ball_6 rfl ?_
  refine jo_i2l (pc := 7) dX11_ball_7 ?_
  refine jo_lconst (pc := 8) dX11_ball_8 (ic_l_0) ?_
  refine jo_ldc2 (pc := 9) dX11_ball_9 gw_1795 ?_
  refine jo_cV_Z_p (pc := 12) (μ' := mu_X11_isIn) (fx := f_X11_isIn σ1 (Int32.toInt64 x0) 0 4) (As := [.long (Int32.toInt64 x0), .long 0, .long 4]) (c_X11_isIn hw hN) (ok_X11_isIn) (ltb rfl) (all3 gw_1420 gw_1422 gw_64) (ik_306 hw hN) (by decide) (q := (RX11, TX11, 39)) rfl rfl rfl rfl (Nat.le_of_ble_eq_true rfl) dX11_ball_12 (fun b2 => ?_)
  refine jo_ifz_eq (pc := 15) dX11_ball_15 (tgt := 25) rfl ?_ ?_
  · refine jo_iconst (pc := 25) dX11_ball_25 (ic_i_m1) ?_
    exact jo_ireturn (pc := 26) rfl rfl dX11_ball_26
  · refine jo_aload_n (pc := 18) 0 rfl dX11_ball_18 rfl ?_
    refine jo_cV_Z_i (pc := 19) (μ' := mu_X11_isConsistent) (fx := f_X11_isConsistent σ1) (As := []) (c_X11_isConsistent hw hN) (ok_X11_isConsistent) (ltb rfl) (all3 gw_1475 gw_1477 gw_74) (ik_306 hw hN) (by decide) (q := (RX11, TX11, 39)) rfl rfl rfl rfl (Nat.le_of_ble_eq_true rfl) dX11_ball_19 (fun b3 σ4 => ?_)
    refine jo_ifz_ne (pc := 22) dX11_ball_22 (tgt := 27) rfl ?_ ?_
    · refine jo_aload_n (pc := 27) 0 rfl dX11_ball_27 rfl ?_
      refine jo_iload_n (pc := 28) 1 rfl dX11_ball_28 rfl ?_
      refine jo_cV_I_i (pc := 29) (μ' := mu_X11_laysBall) (fx := f_X11_laysBall σ4 x0) (As := [.int x0]) (c_X11_laysBall hw hN) (ok_X11_laysBall) (ltb rfl) (all3 gw_1796 gw_1798 gw_131) (ik_306 hw hN) (by decide) (q := (RX11, TX11, 39)) rfl rfl rfl rfl (Nat.le_of_ble_eq_true rfl) dX11_ball_29 (fun v5 σ6 => ?_)
      refine jo_istore_n (pc := 32) (lv' := [(2, .int v5), (0, .ref (adr w 306)), (1, .int x0)]) dX11_ball_32 rfl (ltb rfl) rfl ?_
      refine jo_iload_n (pc := 33) 0 rfl dX11_ball_33 rfl ?_
      refine jo_sipush (pc := 34) dX11_ball_34 (ic_s_1000) ?_
      refine jo_icmp_le (pc := 37) dX11_ball_37 (tgt := 44) rfl ?_ ?_
      · refine jo_iload_n (pc := 44) 0 rfl dX11_ball_44 rfl ?_
        exact jo_ireturn (pc := 45) rfl rfl dX11_ball_45
      · refine jo_iconst (pc := 40) dX11_ball_40 (ic_i_m1) ?_
        refine jo_goto (pc := 41) dX11_ball_41 (tgt := 45) rfl ?_
        exact jo_ireturn (pc := 45) rfl rfl dX11_ball_45
    · refine jo_iconst (pc := 25) dX11_ball_25 (ic_i_m1) ?_
      exact jo_ireturn (pc := 26) rfl rfl dX11_ball_26
theorem c_X11_ball {w : Wd} (hw : WOK w) (hN : wn w = NT) {σ : Mem} {x0 : Int32} : ∀ r σ', f_X11_ball σ x0 = some (r, σ') → MC w mu_X11_ball (vI r) [.ref (adr w 306), .int x0] σ σ' := mc_of ok_X11_ball rfl (Nat.le_of_ble_eq_true rfl) (t_X11_ball hw hN)
abbrev mu_X11_shortOf : MD := (yX11_shortOf, cX11_shortOf, 3, some .int, 4)
theorem ok_X11_shortOf : MOK mu_X11_shortOf 1 := ⟨gw_1820, gw_171, (by decide +kernel : plainFor yX11_shortOf = true), ⟨(by decide +kernel : yX11_shortOf.cls ≠ "java/lang/invoke/MethodHandle"), (by decide +kernel : yX11_shortOf.cls ≠ "java/lang/invoke/VarHandle"), (by decide +kernel : (parseMethodDescriptor yX11_shortOf.desc).map (fun d => d.parameters.length) = some 1)⟩, Nat.le_of_ble_eq_true rfl⟩
noncomputable def l_X11_shortOf_2 (x0 : Int32) (σ1 : Mem) (i2 : Int32) : Option ((Mem × Int32) ⊕ (Int32 × Mem)) :=
  if 4 < i2 then (some (Sum.inr ((-1), σ1))) else (bq (f_X11_laysBall σ1 i2) (fun (v3 : Int32) (σ4 : Mem) => if v3 ≤ 1000 then ((f_X11_place σ4 x0).bind (fun (v5 : Int32) => gF σ4 306 29 (fun (v6 : Int32) => if v6 ≤ v5 then (some (Sum.inl (σ4, i2 + 1))) else (some (Sum.inr (i2, σ4)))))) else (some (Sum.inr ((-1), σ4)))))
noncomputable def f_X11_shortOf (σ : Mem) (x0 : Int32) : Option (Int32 × Mem) :=
  loopO (fun (z2 : (Mem × Int32)) => l_X11_shortOf_2 x0 z2.1 z2.2) (σ, 0)
theorem t_X11_shortOf {w : Wd} (hw : WOK w) (hN : wn w = NT) {σ : Mem} {x0 : Int32} : JO w mu_X11_shortOf vI σ [(0, .ref (adr w 306)), (1, .int x0)] [] 0 (f_X11_shortOf σ x0) some := by
  unfold f_X11_shortOf
  refine jo_iconst (pc := 0) dX11_shortOf_0 (ic_i_0) ?_
  refine jo_istore_n (pc := 1) (lv' := [(2, .int 0), (0, .ref (adr w 306)), (1, .int x0)]) dX11_shortOf_1 rfl (ltb rfl) rfl ?_
  refine jo_lv (lv' := [(0, .ref (adr w 306)), (1, .int x0), (2, .int 0)]) [1, 2, 0] rfl ?_
  refine jo_loop (X := (Int32 × Mem)) (fun (z2 : (Mem × Int32)) => z2.1) (fun (z2 : (Mem × Int32)) => [(0, .ref (adr w 306)), (1, .int x0), (2, .int z2.2)]) (body := (fun (z2 : (Mem × Int32)) => l_X11_shortOf_2 x0 z2.1 z2.2)) (fun F2_2 hF2_2 s => ?_) (σ, 0)
  obtain ⟨σ1, i2⟩ := s
  show JO w mu_X11_shortOf vI σ1 [(0, .ref (adr w 306)), (1, .int x0), (2, .int i2)] [] 2 (l_X11_shortOf_2 x0 σ1 i2) _
  unfold l_X11_shortOf_2
  refine jo_iload_n (pc := 2) 2 rfl dX11_shortOf_2 rfl ?_
  refine jo_iconst (pc := 3) dX11_shortOf_3 (ic_i_4) ?_
  refine jo_icmp_gt (pc := 4) dX11_shortOf_4 (tgt := 40) rfl ?_ ?_
  · refine jo_iconst (pc := 40) dX11_shortOf_40 (ic_i_m1) ?_
    exact jo_ireturn (pc := 41) rfl rfl dX11_shortOf_41
  · refine jo_aload_n (pc := 7) 0 rfl dX11_shortOf_7 rfl ?_
    refine jo_iload_n (pc := 8) 2 rfl dX11_shortOf_8 rfl ?_
    refine jo_cV_I_i (pc := 9) (μ' := mu_X11_laysBall) (fx := f_X11_laysBall σ1 i2) (As := [.int i2]) (c_X11_laysBall hw hN) (ok_X11_laysBall) (ltb rfl) (all3 gw_1796 gw_1798 gw_131) (ik_306 hw hN) (by decide) (q := (RX11, TX11, 39)) rfl rfl rfl rfl (Nat.le_of_ble_eq_true rfl) dX11_shortOf_9 (fun v3 σ4 => ?_)
    refine jo_sipush (pc := 12) dX11_shortOf_12 (ic_s_1000) ?_
    refine jo_icmp_le (pc := 15) dX11_shortOf_15 (tgt := 20) rfl ?_ ?_
    · refine jo_aload_n (pc := 20) 0 rfl dX11_shortOf_20 rfl ?_
      refine jo_iload_n (pc := 21) 1 rfl dX11_shortOf_21 rfl ?_
      refine jo_cV_I_p (pc := 22) (μ' := mu_X11_place) (fx := f_X11_place σ4 x0) (As := [.int x0]) (c_X11_place hw hN) (ok_X11_place) (ltb rfl) (all3 gw_1804 gw_1806 gw_133) (ik_306 hw hN) (by decide) (q := (RX11, TX11, 39)) rfl rfl rfl rfl (Nat.le_of_ble_eq_true rfl) dX11_shortOf_22 (fun v5 => ?_)
      refine jo_aload_n (pc := 25) 0 rfl dX11_shortOf_25 rfl ?_
      refine jo_getf (pc := 26) ok_11_29 (ik_306 hw hN) gw_1322 dX11_shortOf_26 (fun v6 => ?_)
      refine jo_icmp_ge (pc := 29) dX11_shortOf_29 (tgt := 34) rfl ?_ ?_
      · refine jo_iinc (pc := 34) (lv' := [(2, .int (i2 + 1)), (0, .ref (adr w 306)), (1, .int x0)]) 2 rfl dX11_shortOf_34 (congrArg (fun z => i2 + z) (ic_i_1)) (ltb rfl) rfl ?_
        refine jo_goto (pc := 37) dX11_shortOf_37 (tgt := 2) rfl ?_
        refine jo_lv (lv' := [(0, .ref (adr w 306)), (1, .int x0), (2, .int (i2 + 1))]) [1, 2, 0] rfl ?_
        exact jo_leaf (by rfl) (hF2_2 (σ4, i2 + 1))
      · refine jo_iload_n (pc := 32) 2 rfl dX11_shortOf_32 rfl ?_
        exact jo_ireturn (pc := 33) rfl rfl dX11_shortOf_33
    · refine jo_iconst (pc := 18) dX11_shortOf_18 (ic_i_m1) ?_
      exact jo_ireturn (pc := 19) rfl rfl dX11_shortOf_19
theorem c_X11_shortOf {w : Wd} (hw : WOK w) (hN : wn w = NT) {σ : Mem} {x0 : Int32} : ∀ r σ', f_X11_shortOf σ x0 = some (r, σ') → MC w mu_X11_shortOf (vI r) [.ref (adr w 306), .int x0] σ σ' := mc_of ok_X11_shortOf rfl (Nat.le_of_ble_eq_true rfl) (t_X11_shortOf hw hN)
abbrev mu_X11_greatestRoot : MD := (yX11_greatestRoot, cX11_greatestRoot, 3, some .int, 7)
theorem ok_X11_greatestRoot : MOK mu_X11_greatestRoot 1 := ⟨gw_1859, gw_171, (by decide +kernel : plainFor yX11_greatestRoot = true), ⟨(by decide +kernel : yX11_greatestRoot.cls ≠ "java/lang/invoke/MethodHandle"), (by decide +kernel : yX11_greatestRoot.cls ≠ "java/lang/invoke/VarHandle"), (by decide +kernel : (parseMethodDescriptor yX11_greatestRoot.desc).map (fun d => d.parameters.length) = some 1)⟩, Nat.le_of_ble_eq_true rfl⟩
noncomputable def j_X11_greatestRoot_28 (i2 : Int32) (σ4 : Mem) : Option ((Mem × Int32) ⊕ (Int32 × Mem)) :=
  some (Sum.inl (σ4, i2 + (-1)))
noncomputable def l_X11_greatestRoot_3 (x0 : Int32) (σ1 : Mem) (i2 : Int32) : Option ((Mem × Int32) ⊕ (Int32 × Mem)) :=
  if i2 ≤ 1 then (some (Sum.inr (1, σ1))) else (bq (f_X11_extracts σ1 x0 1 i2) (fun (b3 : Bool) (σ4 : Mem) => (if b3 then (f_X11_isElement σ4 1).bind (fun (b5 : Bool) => if b5 then some (Sum.inr (Sum.inr (i2, σ4))) else some (Sum.inl ())) else some (Sum.inl ()) : Option (Unit ⊕ ((Mem × Int32) ⊕ (Int32 × Mem)))).bind (Sum.elim (fun (z4 : Unit) => j_X11_greatestRoot_28 i2 σ4) some)))
noncomputable def f_X11_greatestRoot (σ : Mem) (x0 : Int32) : Option (Int32 × Mem) :=
  loopO (fun (z2 : (Mem × Int32)) => l_X11_greatestRoot_3 x0 z2.1 z2.2) (σ, 99)
theorem t_X11_greatestRoot {w : Wd} (hw : WOK w) (hN : wn w = NT) {σ : Mem} {x0 : Int32} : JO w mu_X11_greatestRoot vI σ [(0, .ref (adr w 306)), (1, .int x0)] [] 0 (f_X11_greatestRoot σ x0) some := by
  unfold f_X11_greatestRoot
  refine jo_bipush (pc := 0) dX11_greatestRoot_0 (ic_b_99) ?_
  refine jo_istore_n (pc := 2) (lv' := [(2, .int 99), (0, .ref (adr w 306)), (1, .int x0)]) dX11_greatestRoot_2 rfl (ltb rfl) rfl ?_
  refine jo_lv (lv' := [(0, .ref (adr w 306)), (1, .int x0), (2, .int 99)]) [1, 2, 0] rfl ?_
  refine jo_loop (X := (Int32 × Mem)) (fun (z2 : (Mem × Int32)) => z2.1) (fun (z2 : (Mem × Int32)) => [(0, .ref (adr w 306)), (1, .int x0), (2, .int z2.2)]) (body := (fun (z2 : (Mem × Int32)) => l_X11_greatestRoot_3 x0 z2.1 z2.2)) (fun F3_2 hF3_2 s => ?_) (σ, 99)
  obtain ⟨σ1, i2⟩ := s
  show JO w mu_X11_greatestRoot vI σ1 [(0, .ref (adr w 306)), (1, .int x0), (2, .int i2)] [] 3 (l_X11_greatestRoot_3 x0 σ1 i2) _
  unfold l_X11_greatestRoot_3
  refine jo_iload_n (pc := 3) 2 rfl dX11_greatestRoot_3 rfl ?_
  refine jo_iconst (pc := 4) dX11_greatestRoot_4 (ic_i_1) ?_
  refine jo_icmp_le (pc := 5) dX11_greatestRoot_5 (tgt := 34) rfl ?_ ?_
  · refine jo_iconst (pc := 34) dX11_greatestRoot_34 (ic_i_1) ?_
    exact jo_ireturn (pc := 35) rfl rfl dX11_greatestRoot_35
  · refine jo_aload_n (pc := 8) 0 rfl dX11_greatestRoot_8 rfl ?_
    refine jo_iload_n (pc := 9) 1 rfl dX11_greatestRoot_9 rfl ?_
    refine jo_iconst (pc := 10) dX11_greatestRoot_10 (ic_i_1) ?_
    refine jo_iload_n (pc := 11) 2 rfl dX11_greatestRoot_11 rfl ?_
    refine jo_cV_Z_i (pc := 12) (μ' := mu_X11_extracts) (fx := f_X11_extracts σ1 x0 1 i2) (As := [.int x0, .int 1, .int i2]) (c_X11_extracts hw hN) (ok_X11_extracts) (ltb rfl) (all3 gw_1625 gw_1627 gw_104) (ik_306 hw hN) (by decide) (q := (RX11, TX11, 39)) rfl rfl rfl rfl (Nat.le_of_ble_eq_true rfl) dX11_greatestRoot_12 (fun b3 σ4 => ?_)
    refine jo_joinS (S := Unit) (fun (z4 : Unit) => σ4) (fun (z4 : Unit) => [(0, .ref (adr w 306)), (1, .int x0), (2, .int i2)]) (fun (z4 : Unit) => []) 28 ?_ (fun h28_4 => ?_)
    · intro _
      show JO w mu_X11_greatestRoot vI σ4 [(0, .ref (adr w 306)), (1, .int x0), (2, .int i2)] [] 28 (j_X11_greatestRoot_28 i2 σ4) _
      unfold j_X11_greatestRoot_28
      refine jo_iinc (pc := 28) (lv' := [(2, .int (i2 + (-1))), (0, .ref (adr w 306)), (1, .int x0)]) 2 rfl dX11_greatestRoot_28 (congrArg (fun z => i2 + z) (ic_i_m1)) (ltb rfl) rfl ?_
      refine jo_goto (pc := 31) dX11_greatestRoot_31 (tgt := 3) rfl ?_
      refine jo_lv (lv' := [(0, .ref (adr w 306)), (1, .int x0), (2, .int (i2 + (-1)))]) [1, 2, 0] rfl ?_
      exact jo_leaf (by rfl) (hF3_2 (σ4, i2 + (-1)))
    · refine jo_ifz_eq (pc := 15) dX11_greatestRoot_15 (tgt := 28) rfl ?_ ?_
      · exact jo_leaf (by rfl) (h28_4 ())
      · refine jo_aload_n (pc := 18) 0 rfl dX11_greatestRoot_18 rfl ?_
        refine jo_iconst (pc := 19) dX11_greatestRoot_19 (ic_i_1) ?_
        refine jo_cV_Z_p (pc := 20) (μ' := mu_X11_isElement) (fx := f_X11_isElement σ4 1) (As := [.int 1]) (c_X11_isElement hw hN) (ok_X11_isElement) (ltb rfl) (all3 gw_1571 gw_1573 gw_97) (ik_306 hw hN) (by decide) (q := (RX11, TX11, 39)) rfl rfl rfl rfl (Nat.le_of_ble_eq_true rfl) dX11_greatestRoot_20 (fun b5 => ?_)
        refine jo_ifz_eq (pc := 23) dX11_greatestRoot_23 (tgt := 28) rfl ?_ ?_
        · exact jo_leaf (by rfl) (h28_4 ())
        · refine jo_iload_n (pc := 26) 2 rfl dX11_greatestRoot_26 rfl ?_
          exact jo_ireturn (pc := 27) rfl rfl dX11_greatestRoot_27
theorem c_X11_greatestRoot {w : Wd} (hw : WOK w) (hN : wn w = NT) {σ : Mem} {x0 : Int32} : ∀ r σ', f_X11_greatestRoot σ x0 = some (r, σ') → MC w mu_X11_greatestRoot (vI r) [.ref (adr w 306), .int x0] σ σ' := mc_of ok_X11_greatestRoot rfl (Nat.le_of_ble_eq_true rfl) (t_X11_greatestRoot hw hN)
abbrev mu_X11_sameAs : MD := (yX11_sameAs, cX11_sameAs, 4, some .int, 2)
theorem ok_X11_sameAs : MOK mu_X11_sameAs 1 := ⟨gw_1863, gw_171, (by decide +kernel : plainFor yX11_sameAs = true), ⟨(by decide +kernel : yX11_sameAs.cls ≠ "java/lang/invoke/MethodHandle"), (by decide +kernel : yX11_sameAs.cls ≠ "java/lang/invoke/VarHandle"), (by decide +kernel : (parseMethodDescriptor yX11_sameAs.desc).map (fun d => d.parameters.length) = some 1)⟩, Nat.le_of_ble_eq_true rfl⟩
noncomputable def j_X11_sameAs_31 (i3 : Int32) (σ4 : Mem) (i6 : Int32) : Option ((Mem × Int32 × Int32) ⊕ (Int32 × Mem)) :=
  some (Sum.inl (σ4, i6, i3 + 1))
noncomputable def l_X11_sameAs_4 (σ1 : Mem) (i2 : Int32) (i3 : Int32) : Option ((Mem × Int32 × Int32) ⊕ (Int32 × Mem)) :=
  if 10 ≤ i3 then (some (Sum.inr (i2, σ1))) else ((f_X11_laysRegister σ1 1 i3).bind (fun (σ4 : Mem) => (f_X11_areSame σ4 0 1).bind (fun (b5 : Bool) => (if b5 then bd (i2 ||| (1 <<< (i3 &&& 31))) (fun (v7 : Int32) => some v7) else some i2 : Option Int32).bind (fun (z6 : Int32) => j_X11_sameAs_31 i3 σ4 z6))))
noncomputable def f_X11_sameAs (σ : Mem) (x0 : Int32) : Option (Int32 × Mem) :=
  loopO (fun (z3 : (Mem × Int32 × Int32)) => l_X11_sameAs_4 z3.1 z3.2.1 z3.2.2) (σ, 0, 0)
theorem t_X11_sameAs {w : Wd} (hw : WOK w) (hN : wn w = NT) {σ : Mem} {x0 : Int32} : JO w mu_X11_sameAs vI σ [(0, .ref (adr w 306)), (1, .int x0)] [] 0 (f_X11_sameAs σ x0) some := by
  unfold f_X11_sameAs
  refine jo_iconst (pc := 0) dX11_sameAs_0 (ic_i_0) ?_
  refine jo_istore_n (pc := 1) (lv' := [(2, .int 0), (0, .ref (adr w 306)), (1, .int x0)]) dX11_sameAs_1 rfl (ltb rfl) rfl ?_
  refine jo_iconst (pc := 2) dX11_sameAs_2 (ic_i_0) ?_
  refine jo_istore_n (pc := 3) (lv' := [(3, .int 0), (2, .int 0), (0, .ref (adr w 306)), (1, .int x0)]) dX11_sameAs_3 rfl (ltb rfl) rfl ?_
  refine jo_lv (lv' := [(0, .ref (adr w 306)), (2, .int 0), (3, .int 0)]) [2, 1, 0] rfl ?_
  refine jo_loop (X := (Int32 × Mem)) (fun (z3 : (Mem × Int32 × Int32)) => z3.1) (fun (z3 : (Mem × Int32 × Int32)) => [(0, .ref (adr w 306)), (2, .int z3.2.1), (3, .int z3.2.2)]) (body := (fun (z3 : (Mem × Int32 × Int32)) => l_X11_sameAs_4 z3.1 z3.2.1 z3.2.2)) (fun F4_3 hF4_3 s => ?_) (σ, 0, 0)
  obtain ⟨σ1, i2, i3⟩ := s
  show JO w mu_X11_sameAs vI σ1 [(0, .ref (adr w 306)), (2, .int i2), (3, .int i3)] [] 4 (l_X11_sameAs_4 σ1 i2 i3) _
  unfold l_X11_sameAs_4
  refine jo_iload_n (pc := 4) 2 rfl dX11_sameAs_4 rfl ?_
  refine jo_bipush (pc := 5) dX11_sameAs_5 (ic_b_10) ?_
  refine jo_icmp_ge (pc := 7) dX11_sameAs_7 (tgt := 37) rfl ?_ ?_
  · refine jo_iload_n (pc := 37) 1 rfl dX11_sameAs_37 rfl ?_
    exact jo_ireturn (pc := 38) rfl rfl dX11_sameAs_38
  · refine jo_aload_n (pc := 10) 0 rfl dX11_sameAs_10 rfl ?_
    refine jo_iconst (pc := 11) dX11_sameAs_11 (ic_i_1) ?_
    refine jo_iload_n (pc := 12) 2 rfl dX11_sameAs_12 rfl ?_
    refine jo_cV_V_i (pc := 13) (μ' := mu_X11_laysRegister) (fx := f_X11_laysRegister σ1 1 i3) (As := [.int 1, .int i3]) (c_X11_laysRegister hw hN) (ok_X11_laysRegister) (ltb rfl) (all3 gw_1559 gw_1561 gw_94) (ik_306 hw hN) (by decide) (q := (RX11, TX11, 39)) rfl rfl rfl rfl (Nat.le_of_ble_eq_true rfl) dX11_sameAs_13 (fun σ4 => ?_)
    refine jo_aload_n (pc := 16) 0 rfl dX11_sameAs_16 rfl ?_
    refine jo_iconst (pc := 17) dX11_sameAs_17 (ic_i_0) ?_
    refine jo_iconst (pc := 18) dX11_sameAs_18 (ic_i_1) ?_
    refine jo_cV_Z_p (pc := 19) (μ' := mu_X11_areSame) (fx := f_X11_areSame σ4 0 1) (As := [.int 0, .int 1]) (c_X11_areSame hw hN) (ok_X11_areSame) (ltb rfl) (all3 gw_1641 gw_1643 gw_107) (ik_306 hw hN) (by decide) (q := (RX11, TX11, 39)) rfl rfl rfl rfl (Nat.le_of_ble_eq_true rfl) dX11_sameAs_19 (fun b5 => ?_)
    refine jo_join1 (S := Int32) (fun (z6 : Int32) => σ4) (fun (z6 : Int32) => [(0, .ref (adr w 306)), (3, .int i3), (2, .int z6)]) (fun (z6 : Int32) => []) 31 ?_ (fun h31_6 => ?_)
    · intro i6
      show JO w mu_X11_sameAs vI σ4 [(0, .ref (adr w 306)), (3, .int i3), (2, .int i6)] [] 31 (j_X11_sameAs_31 i3 σ4 i6) _
      unfold j_X11_sameAs_31
      refine jo_iinc (pc := 31) (lv' := [(3, .int (i3 + 1)), (0, .ref (adr w 306)), (2, .int i6)]) 1 rfl dX11_sameAs_31 (congrArg (fun z => i3 + z) (ic_i_1)) (ltb rfl) rfl ?_
      refine jo_goto (pc := 34) dX11_sameAs_34 (tgt := 4) rfl ?_
      refine jo_lv (lv' := [(0, .ref (adr w 306)), (2, .int i6), (3, .int (i3 + 1))]) [1, 2, 0] rfl ?_
      exact jo_leaf (by rfl) (hF4_3 (σ4, i6, i3 + 1))
    · refine jo_ifz_eq (pc := 22) dX11_sameAs_22 (tgt := 31) rfl ?_ ?_
      · refine jo_lv (lv' := [(0, .ref (adr w 306)), (3, .int i3), (2, .int i2)]) [0, 2, 1] rfl ?_
        exact jo_leaf (by rfl) (h31_6 i2)
      · refine jo_iload_n (pc := 25) 1 rfl dX11_sameAs_25 rfl ?_
        refine jo_iconst (pc := 26) dX11_sameAs_26 (ic_i_1) ?_
        refine jo_iload_n (pc := 27) 2 rfl dX11_sameAs_27 rfl ?_
        refine jo_ishl (pc := 28) dX11_sameAs_28 ?_
        refine jo_ior (pc := 29) dX11_sameAs_29 ?_
        refine jo_bd ?_
        refine jo_istore_n (pc := 30) (lv' := [(2, .int (i2 ||| (1 <<< (i3 &&& 31)))), (0, .ref (adr w 306)), (3, .int i3)]) dX11_sameAs_30 rfl (ltb rfl) rfl ?_
        generalize (i2 ||| (1 <<< (i3 &&& 31))) = v7
        refine jo_lv (lv' := [(0, .ref (adr w 306)), (3, .int i3), (2, .int v7)]) [1, 2, 0] rfl ?_
        exact jo_leaf (by rfl) (h31_6 v7)
theorem c_X11_sameAs {w : Wd} (hw : WOK w) (hN : wn w = NT) {σ : Mem} {x0 : Int32} : ∀ r σ', f_X11_sameAs σ x0 = some (r, σ') → MC w mu_X11_sameAs (vI r) [.ref (adr w 306), .int x0] σ σ' := mc_of ok_X11_sameAs rfl (Nat.le_of_ble_eq_true rfl) (t_X11_sameAs hw hN)
abbrev mu_X11_addsTail : MD := (yX11_addsTail, cX11_addsTail, 4, none, 1)
theorem ok_X11_addsTail : MOK mu_X11_addsTail 2 := ⟨gw_1828, gw_171, (by decide +kernel : plainFor yX11_addsTail = true), ⟨(by decide +kernel : yX11_addsTail.cls ≠ "java/lang/invoke/MethodHandle"), (by decide +kernel : yX11_addsTail.cls ≠ "java/lang/invoke/VarHandle"), (by decide +kernel : (parseMethodDescriptor yX11_addsTail.desc).map (fun d => d.parameters.length) = some 2)⟩, Nat.le_of_ble_eq_true rfl⟩
noncomputable def j_X11_addsTail_53 (σ1 : Mem) : Option Mem :=
  gF σ1 306 31 (fun (v2 : Int32) => pF σ1 306 31 (v2 + 1) (fun (σ3 : Mem) => some σ3))
noncomputable def j_X11_addsTail_46 (σ4 : Mem) (i5 : Int32) (v6 : Int32) (l7 : Int64) : Option ((Mem × Int32) ⊕ Mem) :=
  pL σ4 320 ((18 * v6) + i5) l7 (fun (σ8 : Mem) => some (Sum.inl (σ8, i5 + 1)))
noncomputable def j_X11_addsTail_45  : Option Int64 :=
  some 0
noncomputable def l_X11_addsTail_2 (x0 : Int32) (x1 : Int32) (σ4 : Mem) (i5 : Int32) : Option ((Mem × Int32) ⊕ Mem) :=
  if 18 ≤ i5 then (some (Sum.inr σ4)) else (gF σ4 306 31 (fun (v6 : Int32) => ((if i5 ≤ x0 then (some (Sum.inl ())) else ((f_X11_n σ4).bind (fun (v9 : Int32) => if v9 ≤ i5 then (some (Sum.inl ())) else ((f_X11_tail σ4 x0 x1 i5).bind (fun (v10 : Int32) => some (Sum.inr (Int32.toInt64 v10)))))) : Option (Unit ⊕ Int64)).bind (Sum.elim (fun (z8 : Unit) => j_X11_addsTail_45) some) : Option Int64).bind (fun (z7 : Int64) => j_X11_addsTail_46 σ4 i5 v6 z7)))
noncomputable def f_X11_addsTail (σ : Mem) (x0 : Int32) (x1 : Int32) : Option Mem :=
  (loopO (fun (z5 : (Mem × Int32)) => l_X11_addsTail_2 x0 x1 z5.1 z5.2) (σ, 0) : Option Mem).bind (fun (z1 : Mem) => j_X11_addsTail_53 z1)
theorem t_X11_addsTail {w : Wd} (hw : WOK w) (hN : wn w = NT) {σ : Mem} {x0 : Int32} {x1 : Int32} : JO w mu_X11_addsTail vV σ [(0, .ref (adr w 306)), (1, .int x0), (2, .int x1)] [] 0 (f_X11_addsTail σ x0 x1) (fun z => some ((), z)) := by
  unfold f_X11_addsTail
  refine jo_iconst (pc := 0) dX11_addsTail_0 (ic_i_0) ?_
  refine jo_istore_n (pc := 1) (lv' := [(3, .int 0), (0, .ref (adr w 306)), (1, .int x0), (2, .int x1)]) dX11_addsTail_1 rfl (ltb rfl) rfl ?_
  refine jo_join1 (S := Mem) (fun (z1 : Mem) => z1) (fun (z1 : Mem) => [(0, .ref (adr w 306))]) (fun (z1 : Mem) => []) 53 ?_ (fun h53_1 => ?_)
  · intro σ1
    show JO w mu_X11_addsTail vV σ1 [(0, .ref (adr w 306))] [] 53 (j_X11_addsTail_53 σ1) _
    unfold j_X11_addsTail_53
    refine jo_aload_n (pc := 53) 0 rfl dX11_addsTail_53 rfl ?_
    refine jo_aload_n (pc := 54) 0 rfl dX11_addsTail_54 rfl ?_
    refine jo_getf (pc := 55) ok_11_31 (ik_306 hw hN) gw_1324 dX11_addsTail_55 (fun v2 => ?_)
    refine jo_iconst (pc := 58) dX11_addsTail_58 (ic_i_1) ?_
    refine jo_iadd (pc := 59) dX11_addsTail_59 ?_
    refine jo_putf (pc := 60) ok_11_31 okp_11_31 (ik_306 hw hN) gw_1324 dX11_addsTail_60 (fun σ3 => ?_)
    exact jo_return (pc := 63) rfl rfl dX11_addsTail_63
  · refine jo_lv (lv' := [(0, .ref (adr w 306)), (1, .int x0), (2, .int x1), (3, .int 0)]) [1, 2, 3, 0] rfl ?_
    refine jo_loop (X := Mem) (fun (z5 : (Mem × Int32)) => z5.1) (fun (z5 : (Mem × Int32)) => [(0, .ref (adr w 306)), (1, .int x0), (2, .int x1), (3, .int z5.2)]) (body := (fun (z5 : (Mem × Int32)) => l_X11_addsTail_2 x0 x1 z5.1 z5.2)) (fun F2_5 hF2_5 s => ?_) (σ, 0)
    obtain ⟨σ4, i5⟩ := s
    show JO w mu_X11_addsTail vV σ4 [(0, .ref (adr w 306)), (1, .int x0), (2, .int x1), (3, .int i5)] [] 2 (l_X11_addsTail_2 x0 x1 σ4 i5) _
    unfold l_X11_addsTail_2
    refine jo_iload_n (pc := 2) 3 rfl dX11_addsTail_2 rfl ?_
    refine jo_bipush (pc := 3) dX11_addsTail_3 (ic_b_18) ?_
    refine jo_icmp_ge (pc := 5) dX11_addsTail_5 (tgt := 53) rfl ?_ ?_
    · refine jo_lv (lv' := [(0, .ref (adr w 306))]) [0] rfl ?_
      exact jo_leaf (by rfl) (h53_1 σ4)
    · refine jo_aload_n (pc := 8) 0 rfl dX11_addsTail_8 rfl ?_
      refine jo_getrE (pc := 9) ok_11_30 (ik_306 hw hN) rf_306_30 gw_1323 dX11_addsTail_9 ?_
      refine jo_bipush (pc := 12) dX11_addsTail_12 (ic_b_18) ?_
      refine jo_aload_n (pc := 14) 0 rfl dX11_addsTail_14 rfl ?_
      refine jo_getf (pc := 15) ok_11_31 (ik_306 hw hN) gw_1324 dX11_addsTail_15 (fun v6 => ?_)
      refine jo_imul (pc := 18) dX11_addsTail_18 ?_
      refine jo_iload_n (pc := 19) 3 rfl dX11_addsTail_19 rfl ?_
      refine jo_iadd (pc := 20) dX11_addsTail_20 ?_
      refine jo_iload_n (pc := 21) 3 rfl dX11_addsTail_21 rfl ?_
      refine jo_iload_n (pc := 22) 1 rfl dX11_addsTail_22 rfl ?_
      refine jo_join1 (S := Int64) (fun (z7 : Int64) => σ4) (fun (z7 : Int64) => [(0, .ref (adr w 306)), (1, .int x0), (2, .int x1), (3, .int i5)]) (fun (z7 : Int64) => [.long z7, .int ((18 * v6) + i5), .ref (adr w 320)]) 46 ?_ (fun h46_7 => ?_)
      · intro l7
        show JO w mu_X11_addsTail vV σ4 [(0, .ref (adr w 306)), (1, .int x0), (2, .int x1), (3, .int i5)] [.long l7, .int ((18 * v6) + i5), .ref (adr w 320)] 46 (j_X11_addsTail_46 σ4 i5 v6 l7) _
        unfold j_X11_addsTail_46
        refine jo_last (pc := 46) (ik_320 hw hN) dX11_addsTail_46 (fun σ8 => ?_)
        refine jo_iinc (pc := 47) (lv' := [(3, .int (i5 + 1)), (0, .ref (adr w 306)), (1, .int x0), (2, .int x1)]) 3 rfl dX11_addsTail_47 (congrArg (fun z => i5 + z) (ic_i_1)) (ltb rfl) rfl ?_
        refine jo_goto (pc := 50) dX11_addsTail_50 (tgt := 2) rfl ?_
        refine jo_lv (lv' := [(0, .ref (adr w 306)), (1, .int x0), (2, .int x1), (3, .int (i5 + 1))]) [1, 2, 3, 0] rfl ?_
        exact jo_leaf (by rfl) (hF2_5 (σ8, i5 + 1))
      · refine jo_joinS (S := Unit) (fun (z8 : Unit) => σ4) (fun (z8 : Unit) => [(0, .ref (adr w 306)), (1, .int x0), (2, .int x1), (3, .int i5)]) (fun (z8 : Unit) => [.int ((18 * v6) + i5), .ref (adr w 320)]) 45 ?_ (fun h45_8 => ?_)
        · intro _
          show JO w mu_X11_addsTail vV σ4 [(0, .ref (adr w 306)), (1, .int x0), (2, .int x1), (3, .int i5)] [.int ((18 * v6) + i5), .ref (adr w 320)] 45 (j_X11_addsTail_45) _
          unfold j_X11_addsTail_45
          refine jo_lconst (pc := 45) dX11_addsTail_45 (ic_l_0) ?_
          exact jo_leaf (by rfl) (h46_7 0)
        · refine jo_icmp_le (pc := 23) dX11_addsTail_23 (tgt := 45) rfl ?_ ?_
          · exact jo_leaf (by rfl) (h45_8 ())
          · refine jo_iload_n (pc := 26) 3 rfl dX11_addsTail_26 rfl ?_
            refine jo_aload_n (pc := 27) 0 rfl dX11_addsTail_27 rfl ?_
            refine jo_cV_I_p (pc := 28) (μ' := mu_X11_n) (fx := f_X11_n σ4) (As := []) (c_X11_n hw hN) (ok_X11_n) (ltb rfl) (all3 gw_1441 gw_1443 gw_68) (ik_306 hw hN) (by decide) (q := (RX11, TX11, 39)) rfl rfl rfl rfl (Nat.le_of_ble_eq_true rfl) dX11_addsTail_28 (fun v9 => ?_)
            refine jo_icmp_ge (pc := 31) dX11_addsTail_31 (tgt := 45) rfl ?_ ?_
            · exact jo_leaf (by rfl) (h45_8 ())
            · refine jo_aload_n (pc := 34) 0 rfl dX11_addsTail_34 rfl ?_
              refine jo_iload_n (pc := 35) 1 rfl dX11_addsTail_35 rfl ?_
              refine jo_iload_n (pc := 36) 2 rfl dX11_addsTail_36 rfl ?_
              refine jo_iload_n (pc := 37) 3 rfl dX11_addsTail_37 rfl ?_
              refine jo_cV_I_p (pc := 38) (μ' := mu_X11_tail) (fx := f_X11_tail σ4 x0 x1 i5) (As := [.int x0, .int x1, .int i5]) (c_X11_tail hw hN) (ok_X11_tail) (ltb rfl) (all3 gw_1495 gw_1497 gw_79) (ik_306 hw hN) (by decide) (q := (RX11, TX11, 39)) rfl rfl rfl rfl (Nat.le_of_ble_eq_true rfl) dX11_addsTail_38 (fun v10 => ?_)
              refine jo_i2l (pc := 41) dX11_addsTail_41 ?_
              refine jo_goto (pc := 42) dX11_addsTail_42 (tgt := 46) rfl ?_
              exact jo_leaf (by rfl) (h46_7 (Int32.toInt64 v10))
theorem c_X11_addsTail {w : Wd} (hw : WOK w) (hN : wn w = NT) {σ : Mem} {x0 : Int32} {x1 : Int32} : ∀ σ', f_X11_addsTail σ x0 x1 = some σ' → MC w mu_X11_addsTail none [.ref (adr w 306), .int x0, .int x1] σ σ' := mc_ofV ok_X11_addsTail rfl (Nat.le_of_ble_eq_true rfl) (t_X11_addsTail hw hN)
abbrev mu_X11_ofColumn : MD := (yX11_ofColumn, cX11_ofColumn, 3, some .long, 0)
theorem ok_X11_ofColumn : MOK mu_X11_ofColumn 2 := ⟨gw_1840, gw_171, (by decide +kernel : plainFor yX11_ofColumn = true), ⟨(by decide +kernel : yX11_ofColumn.cls ≠ "java/lang/invoke/MethodHandle"), (by decide +kernel : yX11_ofColumn.cls ≠ "java/lang/invoke/VarHandle"), (by decide +kernel : (parseMethodDescriptor yX11_ofColumn.desc).map (fun d => d.parameters.length) = some 2)⟩, Nat.le_of_ble_eq_true rfl⟩
noncomputable def f_X11_ofColumn (σ : Mem) (x0 : Int32) (x1 : Int32) : Option Int64 :=
  gL σ 320 ((18 * x0) + x1) (fun (v1 : Int64) => some v1)
theorem t_X11_ofColumn {w : Wd} (hw : WOK w) (hN : wn w = NT) {σ : Mem} {x0 : Int32} {x1 : Int32} : JO w mu_X11_ofColumn vL σ [(0, .ref (adr w 306)), (1, .int x0), (2, .int x1)] [] 0 (f_X11_ofColumn σ x0 x1) (fun z => some (z, σ)) := by
  unfold f_X11_ofColumn
  refine jo_aload_n (pc := 0) 0 rfl dX11_ofColumn_0 rfl ?_
  refine jo_getrE (pc := 1) ok_11_30 (ik_306 hw hN) rf_306_30 gw_1323 dX11_ofColumn_1 ?_
  refine jo_bipush (pc := 4) dX11_ofColumn_4 (ic_b_18) ?_
  refine jo_iload_n (pc := 6) 1 rfl dX11_ofColumn_6 rfl ?_
  refine jo_imul (pc := 7) dX11_ofColumn_7 ?_
  refine jo_iload_n (pc := 8) 2 rfl dX11_ofColumn_8 rfl ?_
  refine jo_iadd (pc := 9) dX11_ofColumn_9 ?_
  refine jo_lald (pc := 10) (ik_320 hw hN) dX11_ofColumn_10 (fun v1 => ?_)
  exact jo_lreturn (pc := 11) rfl rfl dX11_ofColumn_11
theorem c_X11_ofColumn {w : Wd} (hw : WOK w) (hN : wn w = NT) {σ : Mem} {x0 : Int32} {x1 : Int32} : ∀ r, f_X11_ofColumn σ x0 x1 = some r → MC w mu_X11_ofColumn (vL r) [.ref (adr w 306), .int x0, .int x1] σ σ := mc_ofP ok_X11_ofColumn rfl (Nat.le_of_ble_eq_true rfl) (t_X11_ofColumn hw hN)
abbrev mu_J9_abs_067f4 : MD := (yJ9_abs_067f4, cJ9_abs_067f4, 2, some .long, 0)
theorem ok_J9_abs_067f4 : MOK mu_J9_abs_067f4 1 := ⟨gw_1843, gw_172, (by decide +kernel : plainFor yJ9_abs_067f4 = true), ⟨(by decide +kernel : yJ9_abs_067f4.cls ≠ "java/lang/invoke/MethodHandle"), (by decide +kernel : yJ9_abs_067f4.cls ≠ "java/lang/invoke/VarHandle"), (by decide +kernel : (parseMethodDescriptor yJ9_abs_067f4.desc).map (fun d => d.parameters.length) = some 1)⟩, Nat.le_of_ble_eq_true rfl⟩
noncomputable def f_J9_abs_067f4 (σ : Mem) (x0 : Int64) : Option Int64 :=
  if 0 ≤ x0 then (some x0) else (some (-x0))
theorem t_J9_abs_067f4 {w : Wd} (hw : WOK w) {σ : Mem} {x0 : Int64} : JO w mu_J9_abs_067f4 vL σ [(0, .long x0)] [] 0 (f_J9_abs_067f4 σ x0) (fun z => some (z, σ)) := by
  unfold f_J9_abs_067f4
  refine jo_lload_n (pc := 0) 0 rfl dJ9_abs_067f4_0 rfl ?_
  refine jo_lconst (pc := 1) dJ9_abs_067f4_1 (ic_l_0) ?_
  refine jo_lcmp_ge (pc := 2) dJ9_abs_067f4_2 dJ9_abs_067f4_3 (tgt := 11) rfl ?_ ?_
  · refine jo_lload_n (pc := 11) 0 rfl dJ9_abs_067f4_11 rfl ?_
    exact jo_lreturn (pc := 12) rfl rfl dJ9_abs_067f4_12
  · refine jo_lload_n (pc := 6) 0 rfl dJ9_abs_067f4_6 rfl ?_
    refine jo_lneg (pc := 7) dJ9_abs_067f4_7 ?_
    refine jo_goto (pc := 8) dJ9_abs_067f4_8 (tgt := 12) rfl ?_
    exact jo_lreturn (pc := 12) rfl rfl dJ9_abs_067f4_12
theorem c_J9_abs_067f4 {w : Wd} (hw : WOK w) {σ : Mem} {x0 : Int64} : ∀ r, f_J9_abs_067f4 σ x0 = some r → MC w mu_J9_abs_067f4 (vL r) [.long x0] σ σ := mc_ofP ok_J9_abs_067f4 rfl (Nat.le_of_ble_eq_true rfl) (t_J9_abs_067f4 hw)
abbrev mu_X11_changes : MD := (yX11_changes, cX11_changes, 6, none, 0)
theorem ok_X11_changes : MOK mu_X11_changes 2 := ⟨gw_1847, gw_171, (by decide +kernel : plainFor yX11_changes = true), ⟨(by decide +kernel : yX11_changes.cls ≠ "java/lang/invoke/MethodHandle"), (by decide +kernel : yX11_changes.cls ≠ "java/lang/invoke/VarHandle"), (by decide +kernel : (parseMethodDescriptor yX11_changes.desc).map (fun d => d.parameters.length) = some 2)⟩, Nat.le_of_ble_eq_true rfl⟩
noncomputable def l_X11_changes_2 (x0 : Int32) (x1 : Int32) (σ1 : Mem) (i2 : Int32) : Option ((Mem × Int32) ⊕ Mem) :=
  if 18 ≤ i2 then (some (Sum.inr σ1)) else (gL σ1 320 ((18 * x0) + i2) (fun (v3 : Int64) => gL σ1 320 ((18 * x1) + i2) (fun (v4 : Int64) => pL σ1 320 ((18 * x0) + i2) v4 (fun (σ5 : Mem) => pL σ5 320 ((18 * x1) + i2) v3 (fun (σ6 : Mem) => some (Sum.inl (σ6, i2 + 1)))))))
noncomputable def f_X11_changes (σ : Mem) (x0 : Int32) (x1 : Int32) : Option Mem :=
  loopO (fun (z2 : (Mem × Int32)) => l_X11_changes_2 x0 x1 z2.1 z2.2) (σ, 0)
theorem t_X11_changes {w : Wd} (hw : WOK w) (hN : wn w = NT) {σ : Mem} {x0 : Int32} {x1 : Int32} : JO w mu_X11_changes vV σ [(0, .ref (adr w 306)), (1, .int x0), (2, .int x1)] [] 0 (f_X11_changes σ x0 x1) (fun z => some ((), z)) := by
  unfold f_X11_changes
  refine jo_iconst (pc := 0) dX11_changes_0 (ic_i_0) ?_
  refine jo_istore_n (pc := 1) (lv' := [(3, .int 0), (0, .ref (adr w 306)), (1, .int x0), (2, .int x1)]) dX11_changes_1 rfl (ltb rfl) rfl ?_
  refine jo_lv (lv' := [(0, .ref (adr w 306)), (1, .int x0), (2, .int x1), (3, .int 0)]) [1, 2, 3, 0] rfl ?_
  refine jo_loop (X := Mem) (fun (z2 : (Mem × Int32)) => z2.1) (fun (z2 : (Mem × Int32)) => [(0, .ref (adr w 306)), (1, .int x0), (2, .int x1), (3, .int z2.2)]) (body := (fun (z2 : (Mem × Int32)) => l_X11_changes_2 x0 x1 z2.1 z2.2)) (fun F2_2 hF2_2 s => ?_) (σ, 0)
  obtain ⟨σ1, i2⟩ := s
  show JO w mu_X11_changes vV σ1 [(0, .ref (adr w 306)), (1, .int x0), (2, .int x1), (3, .int i2)] [] 2 (l_X11_changes_2 x0 x1 σ1 i2) _
  unfold l_X11_changes_2
  refine jo_iload_n (pc := 2) 3 rfl dX11_changes_2 rfl ?_
  refine jo_bipush (pc := 3) dX11_changes_3 (ic_b_18) ?_
  refine jo_icmp_ge (pc := 5) dX11_changes_5 (tgt := 62) rfl ?_ ?_
  · exact jo_return (pc := 62) rfl rfl dX11_changes_62
  · refine jo_aload_n (pc := 8) 0 rfl dX11_changes_8 rfl ?_
    refine jo_getrE (pc := 9) ok_11_30 (ik_306 hw hN) rf_306_30 gw_1323 dX11_changes_9 ?_
    refine jo_bipush (pc := 12) dX11_changes_12 (ic_b_18) ?_
    refine jo_iload_n (pc := 14) 1 rfl dX11_changes_14 rfl ?_
    refine jo_imul (pc := 15) dX11_changes_15 ?_
    refine jo_iload_n (pc := 16) 3 rfl dX11_changes_16 rfl ?_
    refine jo_iadd (pc := 17) dX11_changes_17 ?_
    refine jo_lald (pc := 18) (ik_320 hw hN) dX11_changes_18 (fun v3 => ?_)
    refine jo_lstore (pc := 19) (lv' := [(4, .long v3), (0, .ref (adr w 306)), (1, .int x0), (2, .int x1), (3, .int i2)]) dX11_changes_19 (ltb rfl) rfl ?_
    refine jo_aload_n (pc := 21) 1 rfl dX11_changes_21 rfl ?_
    refine jo_getrE (pc := 22) ok_11_30 (ik_306 hw hN) rf_306_30 gw_1323 dX11_changes_22 ?_
    refine jo_bipush (pc := 25) dX11_changes_25 (ic_b_18) ?_
    refine jo_iload_n (pc := 27) 2 rfl dX11_changes_27 rfl ?_
    refine jo_imul (pc := 28) dX11_changes_28 ?_
    refine jo_iload_n (pc := 29) 4 rfl dX11_changes_29 rfl ?_
    refine jo_iadd (pc := 30) dX11_changes_30 ?_
    refine jo_aload_n (pc := 31) 1 rfl dX11_changes_31 rfl ?_
    refine jo_getrE (pc := 32) ok_11_30 (ik_306 hw hN) rf_306_30 gw_1323 dX11_changes_32 ?_
    refine jo_bipush (pc := 35) dX11_changes_35 (ic_b_18) ?_
    refine jo_iload_n (pc := 37) 3 rfl dX11_changes_37 rfl ?_
    refine jo_imul (pc := 38) dX11_changes_38 ?_
    refine jo_iload_n (pc := 39) 4 rfl dX11_changes_39 rfl ?_
    refine jo_iadd (pc := 40) dX11_changes_40 ?_
    refine jo_lald (pc := 41) (ik_320 hw hN) dX11_changes_41 (fun v4 => ?_)
    refine jo_last (pc := 42) (ik_320 hw hN) dX11_changes_42 (fun σ5 => ?_)
    refine jo_aload_n (pc := 43) 1 rfl dX11_changes_43 rfl ?_
    refine jo_getrE (pc := 44) ok_11_30 (ik_306 hw hN) rf_306_30 gw_1323 dX11_changes_44 ?_
    refine jo_bipush (pc := 47) dX11_changes_47 (ic_b_18) ?_
    refine jo_iload_n (pc := 49) 3 rfl dX11_changes_49 rfl ?_
    refine jo_imul (pc := 50) dX11_changes_50 ?_
    refine jo_iload_n (pc := 51) 4 rfl dX11_changes_51 rfl ?_
    refine jo_iadd (pc := 52) dX11_changes_52 ?_
    refine jo_lload (pc := 53) 0 rfl dX11_changes_53 ?_
    refine jo_last (pc := 55) (ik_320 hw hN) dX11_changes_55 (fun σ6 => ?_)
    refine jo_iinc (pc := 56) (lv' := [(3, .int (i2 + 1)), (4, .long v3), (0, .ref (adr w 306)), (1, .int x0), (2, .int x1)]) 4 rfl dX11_changes_56 (congrArg (fun z => i2 + z) (ic_i_1)) (ltb rfl) rfl ?_
    refine jo_goto (pc := 59) dX11_changes_59 (tgt := 2) rfl ?_
    refine jo_lv (lv' := [(0, .ref (adr w 306)), (1, .int x0), (2, .int x1), (3, .int (i2 + 1))]) [2, 3, 4, 0] rfl ?_
    exact jo_leaf (by rfl) (hF2_2 (σ6, i2 + 1))
theorem c_X11_changes {w : Wd} (hw : WOK w) (hN : wn w = NT) {σ : Mem} {x0 : Int32} {x1 : Int32} : ∀ σ', f_X11_changes σ x0 x1 = some σ' → MC w mu_X11_changes none [.ref (adr w 306), .int x0, .int x1] σ σ' := mc_ofV ok_X11_changes rfl (Nat.le_of_ble_eq_true rfl) (t_X11_changes hw hN)
abbrev mu_X11_lessens : MD := (yX11_lessens, cX11_lessens, 6, none, 0)
theorem ok_X11_lessens : MOK mu_X11_lessens 3 := ⟨gw_1851, gw_171, (by decide +kernel : plainFor yX11_lessens = true), ⟨(by decide +kernel : yX11_lessens.cls ≠ "java/lang/invoke/MethodHandle"), (by decide +kernel : yX11_lessens.cls ≠ "java/lang/invoke/VarHandle"), (by decide +kernel : (parseMethodDescriptor yX11_lessens.desc).map (fun d => d.parameters.length) = some 3)⟩, Nat.le_of_ble_eq_true rfl⟩
noncomputable def l_X11_lessens_3 (x0 : Int32) (x1 : Int32) (x2 : Int64) (σ1 : Mem) (i2 : Int32) : Option ((Mem × Int32) ⊕ Mem) :=
  if 18 ≤ i2 then (some (Sum.inr σ1)) else (gL σ1 320 ((18 * x0) + i2) (fun (v3 : Int64) => gL σ1 320 ((18 * x1) + i2) (fun (v4 : Int64) => pL σ1 320 ((18 * x0) + i2) (v3 - (x2 * v4)) (fun (σ5 : Mem) => some (Sum.inl (σ5, i2 + 1))))))
noncomputable def f_X11_lessens (σ : Mem) (x0 : Int32) (x1 : Int32) (x2 : Int64) : Option Mem :=
  loopO (fun (z2 : (Mem × Int32)) => l_X11_lessens_3 x0 x1 x2 z2.1 z2.2) (σ, 0)
theorem t_X11_lessens {w : Wd} (hw : WOK w) (hN : wn w = NT) {σ : Mem} {x0 : Int32} {x1 : Int32} {x2 : Int64} : JO w mu_X11_lessens vV σ [(0, .ref (adr w 306)), (1, .int x0), (2, .int x1), (3, .long x2)] [] 0 (f_X11_lessens σ x0 x1 x2) (fun z => some ((), z)) := by
  unfold f_X11_lessens
  refine jo_iconst (pc := 0) dX11_lessens_0 (ic_i_0) ?_
  refine jo_istore (pc := 1) (lv' := [(5, .int 0), (0, .ref (adr w 306)), (1, .int x0), (2, .int x1), (3, .long x2)]) dX11_lessens_1 (ltb rfl) rfl ?_
  refine jo_lv (lv' := [(0, .ref (adr w 306)), (1, .int x0), (2, .int x1), (3, .long x2), (5, .int 0)]) [1, 2, 3, 4, 0] rfl ?_
  refine jo_loop (X := Mem) (fun (z2 : (Mem × Int32)) => z2.1) (fun (z2 : (Mem × Int32)) => [(0, .ref (adr w 306)), (1, .int x0), (2, .int x1), (3, .long x2), (5, .int z2.2)]) (body := (fun (z2 : (Mem × Int32)) => l_X11_lessens_3 x0 x1 x2 z2.1 z2.2)) (fun F3_2 hF3_2 s => ?_) (σ, 0)
  obtain ⟨σ1, i2⟩ := s
  show JO w mu_X11_lessens vV σ1 [(0, .ref (adr w 306)), (1, .int x0), (2, .int x1), (3, .long x2), (5, .int i2)] [] 3 (l_X11_lessens_3 x0 x1 x2 σ1 i2) _
  unfold l_X11_lessens_3
  refine jo_iload (pc := 3) 4 rfl dX11_lessens_3 ?_
  refine jo_bipush (pc := 5) dX11_lessens_5 (ic_b_18) ?_
  refine jo_icmp_ge (pc := 7) dX11_lessens_7 (tgt := 55) rfl ?_ ?_
  · exact jo_return (pc := 55) rfl rfl dX11_lessens_55
  · refine jo_aload_n (pc := 10) 0 rfl dX11_lessens_10 rfl ?_
    refine jo_getrE (pc := 11) ok_11_30 (ik_306 hw hN) rf_306_30 gw_1323 dX11_lessens_11 ?_
    refine jo_bipush (pc := 14) dX11_lessens_14 (ic_b_18) ?_
    refine jo_iload_n (pc := 16) 1 rfl dX11_lessens_16 rfl ?_
    refine jo_imul (pc := 17) dX11_lessens_17 ?_
    refine jo_iload (pc := 18) 4 rfl dX11_lessens_18 ?_
    refine jo_iadd (pc := 20) dX11_lessens_20 ?_
    refine jo_aload_n (pc := 21) 0 rfl dX11_lessens_21 rfl ?_
    refine jo_getrE (pc := 22) ok_11_30 (ik_306 hw hN) rf_306_30 gw_1323 dX11_lessens_22 ?_
    refine jo_bipush (pc := 25) dX11_lessens_25 (ic_b_18) ?_
    refine jo_iload_n (pc := 27) 1 rfl dX11_lessens_27 rfl ?_
    refine jo_imul (pc := 28) dX11_lessens_28 ?_
    refine jo_iload (pc := 29) 4 rfl dX11_lessens_29 ?_
    refine jo_iadd (pc := 31) dX11_lessens_31 ?_
    refine jo_lald (pc := 32) (ik_320 hw hN) dX11_lessens_32 (fun v3 => ?_)
    refine jo_lload_n (pc := 33) 3 rfl dX11_lessens_33 rfl ?_
    refine jo_aload_n (pc := 34) 0 rfl dX11_lessens_34 rfl ?_
    refine jo_getrE (pc := 35) ok_11_30 (ik_306 hw hN) rf_306_30 gw_1323 dX11_lessens_35 ?_
    refine jo_bipush (pc := 38) dX11_lessens_38 (ic_b_18) ?_
    refine jo_iload_n (pc := 40) 2 rfl dX11_lessens_40 rfl ?_
    refine jo_imul (pc := 41) dX11_lessens_41 ?_
    refine jo_iload (pc := 42) 4 rfl dX11_lessens_42 ?_
    refine jo_iadd (pc := 44) dX11_lessens_44 ?_
    refine jo_lald (pc := 45) (ik_320 hw hN) dX11_lessens_45 (fun v4 => ?_)
    refine jo_lmul (pc := 46) dX11_lessens_46 ?_
    refine jo_lsub (pc := 47) dX11_lessens_47 ?_
    refine jo_last (pc := 48) (ik_320 hw hN) dX11_lessens_48 (fun σ5 => ?_)
    refine jo_iinc (pc := 49) (lv' := [(5, .int (i2 + 1)), (0, .ref (adr w 306)), (1, .int x0), (2, .int x1), (3, .long x2)]) 4 rfl dX11_lessens_49 (congrArg (fun z => i2 + z) (ic_i_1)) (ltb rfl) rfl ?_
    refine jo_goto (pc := 52) dX11_lessens_52 (tgt := 3) rfl ?_
    refine jo_lv (lv' := [(0, .ref (adr w 306)), (1, .int x0), (2, .int x1), (3, .long x2), (5, .int (i2 + 1))]) [1, 2, 3, 4, 0] rfl ?_
    exact jo_leaf (by rfl) (hF3_2 (σ5, i2 + 1))
theorem c_X11_lessens {w : Wd} (hw : WOK w) (hN : wn w = NT) {σ : Mem} {x0 : Int32} {x1 : Int32} {x2 : Int64} : ∀ σ', f_X11_lessens σ x0 x1 x2 = some σ' → MC w mu_X11_lessens none [.ref (adr w 306), .int x0, .int x1, .long x2] σ σ' := mc_ofV ok_X11_lessens rfl (Nat.le_of_ble_eq_true rfl) (t_X11_lessens hw hN)
abbrev mu_X11_clearsAt : MD := (yX11_clearsAt, cX11_clearsAt, 7, some .boolean, 1)
theorem ok_X11_clearsAt : MOK mu_X11_clearsAt 2 := ⟨gw_1836, gw_171, (by decide +kernel : plainFor yX11_clearsAt = true), ⟨(by decide +kernel : yX11_clearsAt.cls ≠ "java/lang/invoke/MethodHandle"), (by decide +kernel : yX11_clearsAt.cls ≠ "java/lang/invoke/VarHandle"), (by decide +kernel : (parseMethodDescriptor yX11_clearsAt.desc).map (fun d => d.parameters.length) = some 2)⟩, Nat.le_of_ble_eq_true rfl⟩
noncomputable def l_X11_clearsAt_219 (x0 : Int32) (v7 : Int64) (σ8 : Mem) (i9 : Int32) : Option ((Mem × Int32) ⊕ (Bool × Mem)) :=
  if 18 ≤ i9 then (some (Sum.inr (true, σ8))) else (gL σ8 321 i9 (fun (v10 : Int64) => (f_X11_ofColumn σ8 x0 i9).bind (fun (v11 : Int64) => pL σ8 321 i9 (v10 - (v7 * v11)) (fun (σ12 : Mem) => some (Sum.inl (σ12, i9 + 1))))))
noncomputable def j_X11_clearsAt_176 (x0 : Int32) (x1 : Int32) (σ1 : Mem) : Option (Bool × Mem) :=
  pF σ1 306 33 1 (fun (σ2 : Mem) => gL σ2 321 x1 (fun (v3 : Int64) => (f_X11_ofColumn σ2 x0 x1).bind (fun (v4 : Int64) => nzL v4 (if (v3 - v3 / v4 * v4) = 0 then (gL σ2 321 x1 (fun (v5 : Int64) => (f_X11_ofColumn σ2 x0 x1).bind (fun (v6 : Int64) => nzL v6 (bd (v5 / v6) (fun (v7 : Int64) => loopO (fun (z9 : (Mem × Int32)) => l_X11_clearsAt_219 x0 v7 z9.1 z9.2) (σ2, 0)))))) else (some (false, σ2))))))
noncomputable def j_X11_clearsAt_75 (x1 : Int32) (σ13 : Mem) : Option (Mem ⊕ (Bool × Mem)) :=
  gL σ13 321 x1 (fun (v14 : Int64) => if v14 = 0 then (some (Sum.inr (true, σ13))) else (some (Sum.inr (false, σ13))))
noncomputable def j_X11_clearsAt_173 (σ20 : Mem) (i22 : Int32) : Option ((Mem × Int32) ⊕ (Mem ⊕ (Mem ⊕ (Bool × Mem)))) :=
  some (Sum.inl (σ20, i22))
noncomputable def j_X11_clearsAt_166 (i17 : Int32) (σ20 : Mem) (i21 : Int32) : Option ((Mem × Int32) ⊕ (Mem ⊕ (Mem ⊕ (Bool × Mem)))) :=
  (if i21 = 0 then (some (-1)) else (some i17) : Option Int32).bind (fun (z22 : Int32) => j_X11_clearsAt_173 σ20 z22)
noncomputable def j_X11_clearsAt_158 (i25 : Int32) (σ29 : Mem) (b30 : Bool) : Option ((Mem × Int32 × Int32) ⊕ (Mem × Int32)) :=
  some (Sum.inl (σ29, b2i b30, i25 + 1))
noncomputable def j_X11_clearsAt_153  : Option Bool :=
  some true
noncomputable def l_X11_clearsAt_106 (x0 : Int32) (x1 : Int32) (σ23 : Mem) (i24 : Int32) (i25 : Int32) : Option ((Mem × Int32 × Int32) ⊕ (Mem × Int32)) :=
  gF σ23 306 31 (fun (v26 : Int32) => if v26 ≤ i25 then (some (Sum.inr (σ23, i24))) else ((f_X11_ofColumn σ23 i25 x1).bind (fun (v27 : Int64) => (f_X11_ofColumn σ23 x0 x1).bind (fun (v28 : Int64) => nzL v28 ((f_X11_lessens σ23 i25 x0 (v27 / v28)).bind (fun (σ29 : Mem) => ((if i24 = 0 then ((f_X11_ofColumn σ29 i25 x1).bind (fun (v31 : Int64) => if v31 = 0 then (some (Sum.inr false)) else (some (Sum.inl ())))) else (some (Sum.inl ())) : Option (Unit ⊕ Bool)).bind (Sum.elim (fun (z30 : Unit) => j_X11_clearsAt_153) some) : Option Bool).bind (fun (z30 : Bool) => j_X11_clearsAt_158 i25 σ29 z30)))))))
noncomputable def j_X11_clearsAt_70 (x0 : Int32) (x1 : Int32) (σ15 : Mem) (i17 : Int32) : Option ((Mem × Int32) ⊕ (Mem ⊕ (Mem ⊕ (Bool × Mem)))) :=
  if i17 = (-1) then (some (Sum.inr (Sum.inl σ15))) else ((f_X11_changes σ15 i17 x0).bind (fun (σ18 : Mem) => bd (x0 + 1) (fun (v19 : Int32) => (loopO (fun (z25 : (Mem × Int32 × Int32)) => l_X11_clearsAt_106 x0 x1 z25.1 z25.2.1 z25.2.2) (σ18, 0, v19) : Option (Mem × Int32)).bind (fun (z21 : (Mem × Int32)) => j_X11_clearsAt_166 i17 z21.1 z21.2))))
noncomputable def j_X11_clearsAt_64 (i33 : Int32) (i36 : Int32) : Option ((Int32 × Int32) ⊕ Int32) :=
  some (Sum.inl (i36, i33 + 1))
noncomputable def j_X11_clearsAt_61 (i33 : Int32) : Option Int32 :=
  some i33
noncomputable def l_X11_clearsAt_12 (x1 : Int32) (σ15 : Mem) (i32 : Int32) (i33 : Int32) : Option ((Int32 × Int32) ⊕ Int32) :=
  gF σ15 306 31 (fun (v34 : Int32) => if v34 ≤ i33 then (some (Sum.inr i32)) else ((f_X11_ofColumn σ15 i33 x1).bind (fun (v35 : Int64) => (if v35 = 0 then (some i32) else ((if i32 = (-1) then (some (Sum.inl ())) else ((f_X11_ofColumn σ15 i33 x1).bind (fun (v37 : Int64) => (f_J9_abs_067f4 σ15 v37).bind (fun (v38 : Int64) => (f_X11_ofColumn σ15 i32 x1).bind (fun (v39 : Int64) => (f_J9_abs_067f4 σ15 v39).bind (fun (v40 : Int64) => if v40 ≤ v38 then (some (Sum.inr i32)) else (some (Sum.inl ()))))))) : Option (Unit ⊕ Int32)).bind (Sum.elim (fun (z36 : Unit) => j_X11_clearsAt_61 i33) some)) : Option Int32).bind (fun (z36 : Int32) => j_X11_clearsAt_64 i33 z36))))
noncomputable def l_X11_clearsAt_2 (x0 : Int32) (x1 : Int32) (σ15 : Mem) (i16 : Int32) : Option ((Mem × Int32) ⊕ (Mem ⊕ (Mem ⊕ (Bool × Mem)))) :=
  if i16 = (-1) then (some (Sum.inr (Sum.inr (Sum.inl σ15)))) else ((loopO (fun (z33 : (Int32 × Int32)) => l_X11_clearsAt_12 x1 σ15 z33.1 z33.2) ((-1), x0) : Option Int32).bind (fun (z17 : Int32) => j_X11_clearsAt_70 x0 x1 σ15 z17))
noncomputable def f_X11_clearsAt (σ : Mem) (x0 : Int32) (x1 : Int32) : Option (Bool × Mem) :=
  ((loopO (fun (z16 : (Mem × Int32)) => l_X11_clearsAt_2 x0 x1 z16.1 z16.2) (σ, x0) : Option (Mem ⊕ (Mem ⊕ (Bool × Mem)))).bind (Sum.elim (fun (z13 : Mem) => j_X11_clearsAt_75 x1 z13) some) : Option (Mem ⊕ (Bool × Mem))).bind (Sum.elim (fun (z1 : Mem) => j_X11_clearsAt_176 x0 x1 z1) some)
theorem t_X11_clearsAt {w : Wd} (hw : WOK w) (hN : wn w = NT) {σ : Mem} {x0 : Int32} {x1 : Int32} : JO w mu_X11_clearsAt vB σ [(0, .ref (adr w 306)), (1, .int x0), (2, .int x1)] [] 0 (f_X11_clearsAt σ x0 x1) some := by
  unfold f_X11_clearsAt
  refine jo_iload_n (pc := 0) 1 rfl dX11_clearsAt_0 rfl ?_
  refine jo_istore_n (pc := 1) (lv' := [(3, .int x0), (0, .ref (adr w 306)), (1, .int x0), (2, .int x1)]) dX11_clearsAt_1 rfl (ltb rfl) rfl ?_
  refine jo_joinS (S := Mem) (fun (z1 : Mem) => z1) (fun (z1 : Mem) => [(0, .ref (adr w 306)), (1, .int x0), (2, .int x1)]) (fun (z1 : Mem) => []) 176 ?_ (fun h176_1 => ?_)
  · intro σ1
    show JO w mu_X11_clearsAt vB σ1 [(0, .ref (adr w 306)), (1, .int x0), (2, .int x1)] [] 176 (j_X11_clearsAt_176 x0 x1 σ1) _
    unfold j_X11_clearsAt_176
    refine jo_aload_n (pc := 176) 0 rfl dX11_clearsAt_176 rfl ?_
    refine jo_iconst (pc := 177) dX11_clearsAt_177 (ic_i_1) ?_
    refine jo_putz01 (pc := 178) (by decide) ok_11_33 okp_11_33 (ik_306 hw hN) gw_1326 dX11_clearsAt_178 (fun σ2 => ?_)
    refine jo_aload_n (pc := 181) 0 rfl dX11_clearsAt_181 rfl ?_
    refine jo_getrE (pc := 182) ok_11_32 (ik_306 hw hN) rf_306_32 gw_1325 dX11_clearsAt_182 ?_
    refine jo_iload_n (pc := 185) 2 rfl dX11_clearsAt_185 rfl ?_
    refine jo_lald (pc := 186) (ik_321 hw hN) dX11_clearsAt_186 (fun v3 => ?_)
    refine jo_aload_n (pc := 187) 0 rfl dX11_clearsAt_187 rfl ?_
    refine jo_iload_n (pc := 188) 1 rfl dX11_clearsAt_188 rfl ?_
    refine jo_iload_n (pc := 189) 2 rfl dX11_clearsAt_189 rfl ?_
    refine jo_cV_J_p (pc := 190) (μ' := mu_X11_ofColumn) (fx := f_X11_ofColumn σ2 x0 x1) (As := [.int x0, .int x1]) (c_X11_ofColumn hw hN) (ok_X11_ofColumn) (ltb rfl) (all3 gw_1837 gw_1839 gw_140) (ik_306 hw hN) (by decide) (q := (RX11, TX11, 39)) rfl rfl rfl rfl (Nat.le_of_ble_eq_true rfl) dX11_clearsAt_190 (fun v4 => ?_)
    refine jo_lrem (pc := 193) dX11_clearsAt_193 ?_
    refine jo_lconst (pc := 194) dX11_clearsAt_194 (ic_l_0) ?_
    refine jo_lcmp_eq (pc := 195) dX11_clearsAt_195 dX11_clearsAt_196 (tgt := 201) rfl ?_ ?_
    · refine jo_aload_n (pc := 201) 0 rfl dX11_clearsAt_201 rfl ?_
      refine jo_getrE (pc := 202) ok_11_32 (ik_306 hw hN) rf_306_32 gw_1325 dX11_clearsAt_202 ?_
      refine jo_iload_n (pc := 205) 2 rfl dX11_clearsAt_205 rfl ?_
      refine jo_lald (pc := 206) (ik_321 hw hN) dX11_clearsAt_206 (fun v5 => ?_)
      refine jo_aload_n (pc := 207) 0 rfl dX11_clearsAt_207 rfl ?_
      refine jo_iload_n (pc := 208) 1 rfl dX11_clearsAt_208 rfl ?_
      refine jo_iload_n (pc := 209) 2 rfl dX11_clearsAt_209 rfl ?_
      refine jo_cV_J_p (pc := 210) (μ' := mu_X11_ofColumn) (fx := f_X11_ofColumn σ2 x0 x1) (As := [.int x0, .int x1]) (c_X11_ofColumn hw hN) (ok_X11_ofColumn) (ltb rfl) (all3 gw_1837 gw_1839 gw_140) (ik_306 hw hN) (by decide) (q := (RX11, TX11, 39)) rfl rfl rfl rfl (Nat.le_of_ble_eq_true rfl) dX11_clearsAt_210 (fun v6 => ?_)
      refine jo_ldiv (pc := 213) dX11_clearsAt_213 ?_
      refine jo_bd ?_
      refine jo_lstore (pc := 214) (lv' := [(4, .long (v5 / v6)), (0, .ref (adr w 306)), (1, .int x0), (2, .int x1)]) dX11_clearsAt_214 (ltb rfl) rfl ?_
      generalize (v5 / v6) = v7
      refine jo_iconst (pc := 216) dX11_clearsAt_216 (ic_i_0) ?_
      refine jo_istore (pc := 217) (lv' := [(6, .int 0), (4, .long v7), (0, .ref (adr w 306)), (1, .int x0), (2, .int x1)]) dX11_clearsAt_217 (ltb rfl) rfl ?_
      refine jo_lv (lv' := [(4, .long v7), (0, .ref (adr w 306)), (1, .int x0), (6, .int 0)]) [1, 2, 3, 0] rfl ?_
      refine jo_loop (X := (Bool × Mem)) (fun (z9 : (Mem × Int32)) => z9.1) (fun (z9 : (Mem × Int32)) => [(4, .long v7), (0, .ref (adr w 306)), (1, .int x0), (6, .int z9.2)]) (body := (fun (z9 : (Mem × Int32)) => l_X11_clearsAt_219 x0 v7 z9.1 z9.2)) (fun F219_9 hF219_9 s => ?_) (σ2, 0)
      obtain ⟨σ8, i9⟩ := s
      show JO w mu_X11_clearsAt vB σ8 [(4, .long v7), (0, .ref (adr w 306)), (1, .int x0), (6, .int i9)] [] 219 (l_X11_clearsAt_219 x0 v7 σ8 i9) _
      unfold l_X11_clearsAt_219
      refine jo_iload (pc := 219) 3 rfl dX11_clearsAt_219 ?_
      refine jo_bipush (pc := 221) dX11_clearsAt_221 (ic_b_18) ?_
      refine jo_icmp_ge (pc := 223) dX11_clearsAt_223 (tgt := 257) rfl ?_ ?_
      · refine jo_iconst (pc := 257) dX11_clearsAt_257 (ic_i_1) ?_
        exact jo_breturn (pc := 258) (b := true) rfl rfl dX11_clearsAt_258
      · refine jo_aload_n (pc := 226) 1 rfl dX11_clearsAt_226 rfl ?_
        refine jo_getrE (pc := 227) ok_11_32 (ik_306 hw hN) rf_306_32 gw_1325 dX11_clearsAt_227 ?_
        refine jo_iload (pc := 230) 3 rfl dX11_clearsAt_230 ?_
        refine jo_aload_n (pc := 232) 1 rfl dX11_clearsAt_232 rfl ?_
        refine jo_getrE (pc := 233) ok_11_32 (ik_306 hw hN) rf_306_32 gw_1325 dX11_clearsAt_233 ?_
        refine jo_iload (pc := 236) 3 rfl dX11_clearsAt_236 ?_
        refine jo_lald (pc := 238) (ik_321 hw hN) dX11_clearsAt_238 (fun v10 => ?_)
        refine jo_lload (pc := 239) 0 rfl dX11_clearsAt_239 ?_
        refine jo_aload_n (pc := 241) 1 rfl dX11_clearsAt_241 rfl ?_
        refine jo_iload_n (pc := 242) 2 rfl dX11_clearsAt_242 rfl ?_
        refine jo_iload (pc := 243) 3 rfl dX11_clearsAt_243 ?_
        refine jo_cV_J_p (pc := 245) (μ' := mu_X11_ofColumn) (fx := f_X11_ofColumn σ8 x0 i9) (As := [.int x0, .int i9]) (c_X11_ofColumn hw hN) (ok_X11_ofColumn) (ltb rfl) (all3 gw_1837 gw_1839 gw_140) (ik_306 hw hN) (by decide) (q := (RX11, TX11, 39)) rfl rfl rfl rfl (Nat.le_of_ble_eq_true rfl) dX11_clearsAt_245 (fun v11 => ?_)
        refine jo_lmul (pc := 248) dX11_clearsAt_248 ?_
        refine jo_lsub (pc := 249) dX11_clearsAt_249 ?_
        refine jo_last (pc := 250) (ik_321 hw hN) dX11_clearsAt_250 (fun σ12 => ?_)
        refine jo_iinc (pc := 251) (lv' := [(6, .int (i9 + 1)), (4, .long v7), (0, .ref (adr w 306)), (1, .int x0)]) 3 rfl dX11_clearsAt_251 (congrArg (fun z => i9 + z) (ic_i_1)) (ltb rfl) rfl ?_
        refine jo_goto (pc := 254) dX11_clearsAt_254 (tgt := 219) rfl ?_
        refine jo_lv (lv' := [(4, .long v7), (0, .ref (adr w 306)), (1, .int x0), (6, .int (i9 + 1))]) [1, 2, 3, 0] rfl ?_
        exact jo_leaf (by rfl) (hF219_9 (σ12, i9 + 1))
    · refine jo_iconst (pc := 199) dX11_clearsAt_199 (ic_i_0) ?_
      exact jo_breturn (pc := 200) (b := false) rfl rfl dX11_clearsAt_200
  · refine jo_joinS (S := Mem) (fun (z13 : Mem) => z13) (fun (z13 : Mem) => [(0, .ref (adr w 306)), (2, .int x1)]) (fun (z13 : Mem) => []) 75 ?_ (fun h75_13 => ?_)
    · intro σ13
      show JO w mu_X11_clearsAt vB σ13 [(0, .ref (adr w 306)), (2, .int x1)] [] 75 (j_X11_clearsAt_75 x1 σ13) _
      unfold j_X11_clearsAt_75
      refine jo_aload_n (pc := 75) 0 rfl dX11_clearsAt_75 rfl ?_
      refine jo_getrE (pc := 76) ok_11_32 (ik_306 hw hN) rf_306_32 gw_1325 dX11_clearsAt_76 ?_
      refine jo_iload_n (pc := 79) 1 rfl dX11_clearsAt_79 rfl ?_
      refine jo_lald (pc := 80) (ik_321 hw hN) dX11_clearsAt_80 (fun v14 => ?_)
      refine jo_lconst (pc := 81) dX11_clearsAt_81 (ic_l_0) ?_
      refine jo_lcmp_ne (pc := 82) dX11_clearsAt_82 dX11_clearsAt_83 (tgt := 90) rfl ?_ ?_
      · refine jo_iconst (pc := 90) dX11_clearsAt_90 (ic_i_0) ?_
        exact jo_breturn (pc := 91) (b := false) rfl rfl dX11_clearsAt_91
      · refine jo_iconst (pc := 86) dX11_clearsAt_86 (ic_i_1) ?_
        refine jo_goto (pc := 87) dX11_clearsAt_87 (tgt := 91) rfl ?_
        exact jo_breturn (pc := 91) (b := true) rfl rfl dX11_clearsAt_91
    · refine jo_lv (lv' := [(0, .ref (adr w 306)), (1, .int x0), (2, .int x1), (3, .int x0)]) [1, 2, 3, 0] rfl ?_
      refine jo_loop (X := Mem ⊕ (Mem ⊕ (Bool × Mem))) (fun (z16 : (Mem × Int32)) => z16.1) (fun (z16 : (Mem × Int32)) => [(0, .ref (adr w 306)), (1, .int x0), (2, .int x1), (3, .int z16.2)]) (body := (fun (z16 : (Mem × Int32)) => l_X11_clearsAt_2 x0 x1 z16.1 z16.2)) (fun F2_16 hF2_16 s => ?_) (σ, x0)
      obtain ⟨σ15, i16⟩ := s
      show JO w mu_X11_clearsAt vB σ15 [(0, .ref (adr w 306)), (1, .int x0), (2, .int x1), (3, .int i16)] [] 2 (l_X11_clearsAt_2 x0 x1 σ15 i16) _
      unfold l_X11_clearsAt_2
      refine jo_iload_n (pc := 2) 3 rfl dX11_clearsAt_2 rfl ?_
      refine jo_iconst (pc := 3) dX11_clearsAt_3 (ic_i_m1) ?_
      refine jo_icmp_eq (pc := 4) dX11_clearsAt_4 (tgt := 176) rfl ?_ ?_
      · refine jo_lv (lv' := [(0, .ref (adr w 306)), (1, .int x0), (2, .int x1)]) [0, 1, 2] rfl ?_
        exact jo_leaf (by rfl) (h176_1 σ15)
      · refine jo_iconst (pc := 7) dX11_clearsAt_7 (ic_i_m1) ?_
        refine jo_istore_n (pc := 8) (lv' := [(3, .int (-1)), (0, .ref (adr w 306)), (1, .int x0), (2, .int x1)]) dX11_clearsAt_8 rfl (ltb rfl) rfl ?_
        refine jo_iload_n (pc := 9) 2 rfl dX11_clearsAt_9 rfl ?_
        refine jo_istore (pc := 10) (lv' := [(4, .int x0), (3, .int (-1)), (0, .ref (adr w 306)), (1, .int x0), (2, .int x1)]) dX11_clearsAt_10 (ltb rfl) rfl ?_
        refine jo_join1 (S := Int32) (fun (z17 : Int32) => σ15) (fun (z17 : Int32) => [(0, .ref (adr w 306)), (1, .int x0), (2, .int x1), (3, .int z17)]) (fun (z17 : Int32) => []) 70 ?_ (fun h70_17 => ?_)
        · intro i17
          show JO w mu_X11_clearsAt vB σ15 [(0, .ref (adr w 306)), (1, .int x0), (2, .int x1), (3, .int i17)] [] 70 (j_X11_clearsAt_70 x0 x1 σ15 i17) _
          unfold j_X11_clearsAt_70
          refine jo_iload_n (pc := 70) 3 rfl dX11_clearsAt_70 rfl ?_
          refine jo_iconst (pc := 71) dX11_clearsAt_71 (ic_i_m1) ?_
          refine jo_icmp_ne (pc := 72) dX11_clearsAt_72 (tgt := 92) rfl ?_ ?_
          · refine jo_aload_n (pc := 92) 0 rfl dX11_clearsAt_92 rfl ?_
            refine jo_iload_n (pc := 93) 3 rfl dX11_clearsAt_93 rfl ?_
            refine jo_iload_n (pc := 94) 1 rfl dX11_clearsAt_94 rfl ?_
            refine jo_cV_V_i (pc := 95) (μ' := mu_X11_changes) (fx := f_X11_changes σ15 i17 x0) (As := [.int i17, .int x0]) (c_X11_changes hw hN) (ok_X11_changes) (ltb rfl) (all3 gw_1844 gw_1846 gw_141) (ik_306 hw hN) (by decide) (q := (RX11, TX11, 39)) rfl rfl rfl rfl (Nat.le_of_ble_eq_true rfl) dX11_clearsAt_95 (fun σ18 => ?_)
            refine jo_iconst (pc := 98) dX11_clearsAt_98 (ic_i_0) ?_
            refine jo_istore (pc := 99) (lv' := [(4, .int 0), (0, .ref (adr w 306)), (1, .int x0), (2, .int x1), (3, .int i17)]) dX11_clearsAt_99 (ltb rfl) rfl ?_
            refine jo_iload_n (pc := 101) 2 rfl dX11_clearsAt_101 rfl ?_
            refine jo_iconst (pc := 102) dX11_clearsAt_102 (ic_i_1) ?_
            refine jo_iadd (pc := 103) dX11_clearsAt_103 ?_
            refine jo_bd ?_
            refine jo_istore (pc := 104) (lv' := [(5, .int (x0 + 1)), (4, .int 0), (0, .ref (adr w 306)), (1, .int x0), (2, .int x1), (3, .int i17)]) dX11_clearsAt_104 (ltb rfl) rfl ?_
            generalize (x0 + 1) = v19
            refine jo_join1 (S := (Mem × Int32)) (fun (z21 : (Mem × Int32)) => z21.1) (fun (z21 : (Mem × Int32)) => [(0, .ref (adr w 306)), (1, .int x0), (2, .int x1), (3, .int i17), (4, .int z21.2)]) (fun (z21 : (Mem × Int32)) => []) 166 ?_ (fun h166_21 => ?_)
            · intro s
              obtain ⟨σ20, i21⟩ := s
              show JO w mu_X11_clearsAt vB σ20 [(0, .ref (adr w 306)), (1, .int x0), (2, .int x1), (3, .int i17), (4, .int i21)] [] 166 (j_X11_clearsAt_166 i17 σ20 i21) _
              unfold j_X11_clearsAt_166
              refine jo_iload (pc := 166) 4 rfl dX11_clearsAt_166 ?_
              refine jo_join1 (S := Int32) (fun (z22 : Int32) => σ20) (fun (z22 : Int32) => [(0, .ref (adr w 306)), (1, .int x0), (2, .int x1), (3, .int z22)]) (fun (z22 : Int32) => []) 173 ?_ (fun h173_22 => ?_)
              · intro i22
                show JO w mu_X11_clearsAt vB σ20 [(0, .ref (adr w 306)), (1, .int x0), (2, .int x1), (3, .int i22)] [] 173 (j_X11_clearsAt_173 σ20 i22) _
                unfold j_X11_clearsAt_173
                refine jo_goto (pc := 173) dX11_clearsAt_173 (tgt := 2) rfl ?_
                exact jo_leaf (by rfl) (hF2_16 (σ20, i22))
              · refine jo_if_ne (pc := 168) dX11_clearsAt_168 (tgt := 173) rfl ?_ ?_
                · refine jo_lv (lv' := [(0, .ref (adr w 306)), (1, .int x0), (2, .int x1), (3, .int i17)]) [0, 1, 2, 3] rfl ?_
                  exact jo_leaf (by rfl) (h173_22 i17)
                · refine jo_iconst (pc := 171) dX11_clearsAt_171 (ic_i_m1) ?_
                  refine jo_istore_n (pc := 172) (lv' := [(3, .int (-1)), (0, .ref (adr w 306)), (1, .int x0), (2, .int x1), (4, .int i21)]) dX11_clearsAt_172 rfl (ltb rfl) rfl ?_
                  refine jo_lv (lv' := [(0, .ref (adr w 306)), (1, .int x0), (2, .int x1), (3, .int (-1))]) [1, 2, 3, 0] rfl ?_
                  exact jo_leaf (by rfl) (h173_22 (-1))
            · refine jo_lv (lv' := [(0, .ref (adr w 306)), (1, .int x0), (2, .int x1), (3, .int i17), (4, .int 0), (5, .int v19)]) [2, 3, 4, 5, 1, 0] rfl ?_
              refine jo_loop (X := (Mem × Int32)) (fun (z25 : (Mem × Int32 × Int32)) => z25.1) (fun (z25 : (Mem × Int32 × Int32)) => [(0, .ref (adr w 306)), (1, .int x0), (2, .int x1), (3, .int i17), (4, .int z25.2.1), (5, .int z25.2.2)]) (body := (fun (z25 : (Mem × Int32 × Int32)) => l_X11_clearsAt_106 x0 x1 z25.1 z25.2.1 z25.2.2)) (fun F106_25 hF106_25 s => ?_) (σ18, 0, v19)
              obtain ⟨σ23, i24, i25⟩ := s
              show JO w mu_X11_clearsAt vB σ23 [(0, .ref (adr w 306)), (1, .int x0), (2, .int x1), (3, .int i17), (4, .int i24), (5, .int i25)] [] 106 (l_X11_clearsAt_106 x0 x1 σ23 i24 i25) _
              unfold l_X11_clearsAt_106
              refine jo_iload (pc := 106) 5 rfl dX11_clearsAt_106 ?_
              refine jo_aload_n (pc := 108) 0 rfl dX11_clearsAt_108 rfl ?_
              refine jo_getf (pc := 109) ok_11_31 (ik_306 hw hN) gw_1324 dX11_clearsAt_109 (fun v26 => ?_)
              refine jo_icmp_ge (pc := 112) dX11_clearsAt_112 (tgt := 166) rfl ?_ ?_
              · refine jo_lv (lv' := [(0, .ref (adr w 306)), (1, .int x0), (2, .int x1), (3, .int i17), (4, .int i24)]) [0, 1, 2, 3, 4] rfl ?_
                exact jo_leaf (by rfl) (h166_21 (σ23, i24))
              · refine jo_aload_n (pc := 115) 0 rfl dX11_clearsAt_115 rfl ?_
                refine jo_iload (pc := 116) 5 rfl dX11_clearsAt_116 ?_
                refine jo_iload_n (pc := 118) 1 rfl dX11_clearsAt_118 rfl ?_
                refine jo_aload_n (pc := 119) 0 rfl dX11_clearsAt_119 rfl ?_
                refine jo_iload (pc := 120) 5 rfl dX11_clearsAt_120 ?_
                refine jo_iload_n (pc := 122) 2 rfl dX11_clearsAt_122 rfl ?_
                refine jo_cV_J_p (pc := 123) (μ' := mu_X11_ofColumn) (fx := f_X11_ofColumn σ23 i25 x1) (As := [.int i25, .int x1]) (c_X11_ofColumn hw hN) (ok_X11_ofColumn) (ltb rfl) (all3 gw_1837 gw_1839 gw_140) (ik_306 hw hN) (by decide) (q := (RX11, TX11, 39)) rfl rfl rfl rfl (Nat.le_of_ble_eq_true rfl) dX11_clearsAt_123 (fun v27 => ?_)
                refine jo_aload_n (pc := 126) 0 rfl dX11_clearsAt_126 rfl ?_
                refine jo_iload_n (pc := 127) 1 rfl dX11_clearsAt_127 rfl ?_
                refine jo_iload_n (pc := 128) 2 rfl dX11_clearsAt_128 rfl ?_
                refine jo_cV_J_p (pc := 129) (μ' := mu_X11_ofColumn) (fx := f_X11_ofColumn σ23 x0 x1) (As := [.int x0, .int x1]) (c_X11_ofColumn hw hN) (ok_X11_ofColumn) (ltb rfl) (all3 gw_1837 gw_1839 gw_140) (ik_306 hw hN) (by decide) (q := (RX11, TX11, 39)) rfl rfl rfl rfl (Nat.le_of_ble_eq_true rfl) dX11_clearsAt_129 (fun v28 => ?_)
                refine jo_ldiv (pc := 132) dX11_clearsAt_132 ?_
                refine jo_cV_V_i (pc := 133) (μ' := mu_X11_lessens) (fx := f_X11_lessens σ23 i25 x0 (v27 / v28)) (As := [.int i25, .int x0, .long (v27 / v28)]) (c_X11_lessens hw hN) (ok_X11_lessens) (ltb rfl) (all3 gw_1848 gw_1850 gw_142) (ik_306 hw hN) (by decide) (q := (RX11, TX11, 39)) rfl rfl rfl rfl (Nat.le_of_ble_eq_true rfl) dX11_clearsAt_133 (fun σ29 => ?_)
                refine jo_iload (pc := 136) 4 rfl dX11_clearsAt_136 ?_
                refine jo_join1 (S := Bool) (fun (z30 : Bool) => σ29) (fun (z30 : Bool) => [(0, .ref (adr w 306)), (1, .int x0), (2, .int x1), (3, .int i17), (5, .int i25)]) (fun (z30 : Bool) => [.int (b2i z30)]) 158 ?_ (fun h158_30 => ?_)
                · intro b30
                  show JO w mu_X11_clearsAt vB σ29 [(0, .ref (adr w 306)), (1, .int x0), (2, .int x1), (3, .int i17), (5, .int i25)] [.int (b2i b30)] 158 (j_X11_clearsAt_158 i25 σ29 b30) _
                  unfold j_X11_clearsAt_158
                  refine jo_istore (pc := 158) (lv' := [(4, .int (b2i b30)), (0, .ref (adr w 306)), (1, .int x0), (2, .int x1), (3, .int i17), (5, .int i25)]) dX11_clearsAt_158 (ltb rfl) rfl ?_
                  refine jo_iinc (pc := 160) (lv' := [(5, .int (i25 + 1)), (4, .int (b2i b30)), (0, .ref (adr w 306)), (1, .int x0), (2, .int x1), (3, .int i17)]) 5 rfl dX11_clearsAt_160 (congrArg (fun z => i25 + z) (ic_i_1)) (ltb rfl) rfl ?_
                  refine jo_goto (pc := 163) dX11_clearsAt_163 (tgt := 106) rfl ?_
                  refine jo_lv (lv' := [(0, .ref (adr w 306)), (1, .int x0), (2, .int x1), (3, .int i17), (4, .int (b2i b30)), (5, .int (i25 + 1))]) [2, 3, 4, 5, 1, 0] rfl ?_
                  exact jo_leaf (by rfl) (hF106_25 (σ29, b2i b30, i25 + 1))
                · refine jo_joinS (S := Unit) (fun (z30 : Unit) => σ29) (fun (z30 : Unit) => [(0, .ref (adr w 306)), (1, .int x0), (2, .int x1), (3, .int i17), (5, .int i25)]) (fun (z30 : Unit) => []) 153 ?_ (fun h153_30 => ?_)
                  · intro _
                    show JO w mu_X11_clearsAt vB σ29 [(0, .ref (adr w 306)), (1, .int x0), (2, .int x1), (3, .int i17), (5, .int i25)] [] 153 (j_X11_clearsAt_153) _
                    unfold j_X11_clearsAt_153
                    refine jo_iconst (pc := 153) dX11_clearsAt_153 (ic_i_1) ?_
                    refine jo_goto (pc := 154) dX11_clearsAt_154 (tgt := 158) rfl ?_
                    exact jo_leaf (by rfl) (h158_30 true)
                  · refine jo_if_ne (pc := 138) dX11_clearsAt_138 (tgt := 153) rfl ?_ ?_
                    · refine jo_lv (lv' := [(0, .ref (adr w 306)), (1, .int x0), (2, .int x1), (3, .int i17), (5, .int i25)]) [0, 1, 2, 3, 5] rfl ?_
                      exact jo_leaf (by rfl) (h153_30 ())
                    · refine jo_aload_n (pc := 141) 0 rfl dX11_clearsAt_141 rfl ?_
                      refine jo_iload (pc := 142) 5 rfl dX11_clearsAt_142 ?_
                      refine jo_iload_n (pc := 144) 2 rfl dX11_clearsAt_144 rfl ?_
                      refine jo_cV_J_p (pc := 145) (μ' := mu_X11_ofColumn) (fx := f_X11_ofColumn σ29 i25 x1) (As := [.int i25, .int x1]) (c_X11_ofColumn hw hN) (ok_X11_ofColumn) (ltb rfl) (all3 gw_1837 gw_1839 gw_140) (ik_306 hw hN) (by decide) (q := (RX11, TX11, 39)) rfl rfl rfl rfl (Nat.le_of_ble_eq_true rfl) dX11_clearsAt_145 (fun v31 => ?_)
                      refine jo_lconst (pc := 148) dX11_clearsAt_148 (ic_l_0) ?_
                      refine jo_lcmp_eq (pc := 149) dX11_clearsAt_149 dX11_clearsAt_150 (tgt := 157) rfl ?_ ?_
                      · refine jo_iconst (pc := 157) dX11_clearsAt_157 (ic_i_0) ?_
                        refine jo_lv (lv' := [(0, .ref (adr w 306)), (1, .int x0), (2, .int x1), (3, .int i17), (5, .int i25)]) [0, 1, 2, 3, 5] rfl ?_
                        exact jo_leaf (by rfl) (h158_30 false)
                      · refine jo_lv (lv' := [(0, .ref (adr w 306)), (1, .int x0), (2, .int x1), (3, .int i17), (5, .int i25)]) [0, 1, 2, 3, 5] rfl ?_
                        exact jo_leaf (by rfl) (h153_30 ())
          · refine jo_lv (lv' := [(0, .ref (adr w 306)), (2, .int x1)]) [0, 2] rfl ?_
            exact jo_leaf (by rfl) (h75_13 σ15)
        · refine jo_lv (lv' := [(0, .ref (adr w 306)), (1, .int x0), (2, .int x1), (3, .int (-1)), (4, .int x0)]) [2, 3, 4, 1, 0] rfl ?_
          refine jo_loop (X := Int32) (fun (z33 : (Int32 × Int32)) => σ15) (fun (z33 : (Int32 × Int32)) => [(0, .ref (adr w 306)), (1, .int x0), (2, .int x1), (3, .int z33.1), (4, .int z33.2)]) (body := (fun (z33 : (Int32 × Int32)) => l_X11_clearsAt_12 x1 σ15 z33.1 z33.2)) (fun F12_33 hF12_33 s => ?_) ((-1), x0)
          obtain ⟨i32, i33⟩ := s
          show JO w mu_X11_clearsAt vB σ15 [(0, .ref (adr w 306)), (1, .int x0), (2, .int x1), (3, .int i32), (4, .int i33)] [] 12 (l_X11_clearsAt_12 x1 σ15 i32 i33) _
          unfold l_X11_clearsAt_12
          refine jo_iload (pc := 12) 4 rfl dX11_clearsAt_12 ?_
          refine jo_aload_n (pc := 14) 0 rfl dX11_clearsAt_14 rfl ?_
          refine jo_getf (pc := 15) ok_11_31 (ik_306 hw hN) gw_1324 dX11_clearsAt_15 (fun v34 => ?_)
          refine jo_icmp_ge (pc := 18) dX11_clearsAt_18 (tgt := 70) rfl ?_ ?_
          · refine jo_lv (lv' := [(0, .ref (adr w 306)), (1, .int x0), (2, .int x1), (3, .int i32)]) [0, 1, 2, 3] rfl ?_
            exact jo_leaf (by rfl) (h70_17 i32)
          · refine jo_aload_n (pc := 21) 0 rfl dX11_clearsAt_21 rfl ?_
            refine jo_iload (pc := 22) 4 rfl dX11_clearsAt_22 ?_
            refine jo_iload_n (pc := 24) 2 rfl dX11_clearsAt_24 rfl ?_
            refine jo_cV_J_p (pc := 25) (μ' := mu_X11_ofColumn) (fx := f_X11_ofColumn σ15 i33 x1) (As := [.int i33, .int x1]) (c_X11_ofColumn hw hN) (ok_X11_ofColumn) (ltb rfl) (all3 gw_1837 gw_1839 gw_140) (ik_306 hw hN) (by decide) (q := (RX11, TX11, 39)) rfl rfl rfl rfl (Nat.le_of_ble_eq_true rfl) dX11_clearsAt_25 (fun v35 => ?_)
            refine jo_lconst (pc := 28) dX11_clearsAt_28 (ic_l_0) ?_
            refine jo_join1 (S := Int32) (fun (z36 : Int32) => σ15) (fun (z36 : Int32) => [(0, .ref (adr w 306)), (1, .int x0), (2, .int x1), (4, .int i33), (3, .int z36)]) (fun (z36 : Int32) => []) 64 ?_ (fun h64_36 => ?_)
            · intro i36
              show JO w mu_X11_clearsAt vB σ15 [(0, .ref (adr w 306)), (1, .int x0), (2, .int x1), (4, .int i33), (3, .int i36)] [] 64 (j_X11_clearsAt_64 i33 i36) _
              unfold j_X11_clearsAt_64
              refine jo_iinc (pc := 64) (lv' := [(4, .int (i33 + 1)), (0, .ref (adr w 306)), (1, .int x0), (2, .int x1), (3, .int i36)]) 3 rfl dX11_clearsAt_64 (congrArg (fun z => i33 + z) (ic_i_1)) (ltb rfl) rfl ?_
              refine jo_goto (pc := 67) dX11_clearsAt_67 (tgt := 12) rfl ?_
              refine jo_lv (lv' := [(0, .ref (adr w 306)), (1, .int x0), (2, .int x1), (3, .int i36), (4, .int (i33 + 1))]) [1, 2, 3, 4, 0] rfl ?_
              exact jo_leaf (by rfl) (hF12_33 (i36, i33 + 1))
            · refine jo_lcmp_eq (pc := 29) dX11_clearsAt_29 dX11_clearsAt_30 (tgt := 64) rfl ?_ ?_
              · refine jo_lv (lv' := [(0, .ref (adr w 306)), (1, .int x0), (2, .int x1), (4, .int i33), (3, .int i32)]) [0, 1, 2, 4, 3] rfl ?_
                exact jo_leaf (by rfl) (h64_36 i32)
              · refine jo_iload_n (pc := 33) 3 rfl dX11_clearsAt_33 rfl ?_
                refine jo_iconst (pc := 34) dX11_clearsAt_34 (ic_i_m1) ?_
                refine jo_joinS (S := Unit) (fun (z36 : Unit) => σ15) (fun (z36 : Unit) => [(0, .ref (adr w 306)), (1, .int x0), (2, .int x1), (4, .int i33)]) (fun (z36 : Unit) => []) 61 ?_ (fun h61_36 => ?_)
                · intro _
                  show JO w mu_X11_clearsAt vB σ15 [(0, .ref (adr w 306)), (1, .int x0), (2, .int x1), (4, .int i33)] [] 61 (j_X11_clearsAt_61 i33) _
                  unfold j_X11_clearsAt_61
                  refine jo_iload (pc := 61) 3 rfl dX11_clearsAt_61 ?_
                  refine jo_istore_n (pc := 63) (lv' := [(3, .int i33), (0, .ref (adr w 306)), (1, .int x0), (2, .int x1), (4, .int i33)]) dX11_clearsAt_63 rfl (ltb rfl) rfl ?_
                  refine jo_lv (lv' := [(0, .ref (adr w 306)), (1, .int x0), (2, .int x1), (4, .int i33), (3, .int i33)]) [1, 2, 3, 4, 0] rfl ?_
                  exact jo_leaf (by rfl) (h64_36 i33)
                · refine jo_icmp_eq (pc := 35) dX11_clearsAt_35 (tgt := 61) rfl ?_ ?_
                  · refine jo_lv (lv' := [(0, .ref (adr w 306)), (1, .int x0), (2, .int x1), (4, .int i33)]) [0, 1, 2, 4] rfl ?_
                    exact jo_leaf (by rfl) (h61_36 ())
                  · refine jo_aload_n (pc := 38) 0 rfl dX11_clearsAt_38 rfl ?_
                    refine jo_iload (pc := 39) 4 rfl dX11_clearsAt_39 ?_
                    refine jo_iload_n (pc := 41) 2 rfl dX11_clearsAt_41 rfl ?_
                    refine jo_cV_J_p (pc := 42) (μ' := mu_X11_ofColumn) (fx := f_X11_ofColumn σ15 i33 x1) (As := [.int i33, .int x1]) (c_X11_ofColumn hw hN) (ok_X11_ofColumn) (ltb rfl) (all3 gw_1837 gw_1839 gw_140) (ik_306 hw hN) (by decide) (q := (RX11, TX11, 39)) rfl rfl rfl rfl (Nat.le_of_ble_eq_true rfl) dX11_clearsAt_42 (fun v37 => ?_)
                    refine jo_cS_J_p (pc := 45) (μ' := mu_J9_abs_067f4) (fx := f_J9_abs_067f4 σ15 v37) (As := [.long v37]) (c_J9_abs_067f4 hw) (ok_J9_abs_067f4) (ltb rfl) (all2 gw_1841 gw_1842) rfl rfl (Nat.le_of_ble_eq_true rfl) dX11_clearsAt_45 (fun v38 => ?_)
                    refine jo_aload_n (pc := 48) 0 rfl dX11_clearsAt_48 rfl ?_
                    refine jo_iload_n (pc := 49) 3 rfl dX11_clearsAt_49 rfl ?_
                    refine jo_iload_n (pc := 50) 2 rfl dX11_clearsAt_50 rfl ?_
                    refine jo_cV_J_p (pc := 51) (μ' := mu_X11_ofColumn) (fx := f_X11_ofColumn σ15 i32 x1) (As := [.int i32, .int x1]) (c_X11_ofColumn hw hN) (ok_X11_ofColumn) (ltb rfl) (all3 gw_1837 gw_1839 gw_140) (ik_306 hw hN) (by decide) (q := (RX11, TX11, 39)) rfl rfl rfl rfl (Nat.le_of_ble_eq_true rfl) dX11_clearsAt_51 (fun v39 => ?_)
                    refine jo_cS_J_p (pc := 54) (μ' := mu_J9_abs_067f4) (fx := f_J9_abs_067f4 σ15 v39) (As := [.long v39]) (c_J9_abs_067f4 hw) (ok_J9_abs_067f4) (ltb rfl) (all2 gw_1841 gw_1842) rfl rfl (Nat.le_of_ble_eq_true rfl) dX11_clearsAt_54 (fun v40 => ?_)
                    refine jo_lcmp_ge (pc := 57) dX11_clearsAt_57 dX11_clearsAt_58 (tgt := 64) rfl ?_ ?_
                    · refine jo_lv (lv' := [(0, .ref (adr w 306)), (1, .int x0), (2, .int x1), (4, .int i33), (3, .int i32)]) [0, 1, 2, 4, 3] rfl ?_
                      exact jo_leaf (by rfl) (h64_36 i32)
                    · refine jo_lv (lv' := [(0, .ref (adr w 306)), (1, .int x0), (2, .int x1), (4, .int i33)]) [0, 1, 2, 4] rfl ?_
                      exact jo_leaf (by rfl) (h61_36 ())
theorem c_X11_clearsAt {w : Wd} (hw : WOK w) (hN : wn w = NT) {σ : Mem} {x0 : Int32} {x1 : Int32} : ∀ r σ', f_X11_clearsAt σ x0 x1 = some (r, σ') → MC w mu_X11_clearsAt (vB r) [.ref (adr w 306), .int x0, .int x1] σ σ' := mc_of ok_X11_clearsAt rfl (Nat.le_of_ble_eq_true rfl) (t_X11_clearsAt hw hN)
end
