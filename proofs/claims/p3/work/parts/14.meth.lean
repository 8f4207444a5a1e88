abbrev mu_X5_read : MD := (yX5_read, cX5_read, 3, some .boolean, 36)
theorem ok_X5_read : MOK mu_X5_read 2 := ⟨gw_967, gw_168, (by decide +kernel : plainFor yX5_read = true), ⟨(by decide +kernel : yX5_read.cls ≠ "java/lang/invoke/MethodHandle"), (by decide +kernel : yX5_read.cls ≠ "java/lang/invoke/VarHandle"), (by decide +kernel : (parseMethodDescriptor yX5_read.desc).map (fun d => d.parameters.length) = some 2)⟩, Nat.le_of_ble_eq_true rfl⟩
noncomputable def j_X5_read_77 (σ13 : Mem) : Option (Bool × Mem) :=
  some (true, σ13)
noncomputable def f_X5_read (σ : Mem) (x0 : Nat) (x1 : Int32) : Option (Bool × Mem) :=
  (f_J9_min_7cf53 σ (Int32.ofNat (ln x0)) 200).bind (fun (v1 : Int32) => (f_J9_min_7cf53 σ x1 v1).bind (fun (v2 : Int32) => (f_J9_max_7cf53 σ 0 v2).bind (fun (v3 : Int32) => pF σ 144 8 v3 (fun (σ4 : Mem) => gF σ4 144 8 (fun (v5 : Int32) => cI σ4 x0 0 175 0 v5 (fun (σ6 : Mem) => pF σ6 144 9 0 (fun (σ7 : Mem) => pF σ7 144 10 0 (fun (σ8 : Mem) => bq (f_X5_readWord 10 σ8 0) (fun (b9 : Bool) (σ10 : Mem) => if b9 then gF σ10 144 9 (fun (v11 : Int32) => gF σ10 144 8 (fun (v12 : Int32) => (if v12 ≤ v11 then (some (Sum.inl σ10)) else (gF σ10 144 9 (fun (v14 : Int32) => bq (f_X5_fail σ10 1 v14) (fun (b15 : Bool) (σ16 : Mem) => if b15 then some (Sum.inl σ16) else some (Sum.inr (false, σ16))))) : Option (Mem ⊕ (Bool × Mem))).bind (Sum.elim (fun (z13 : Mem) => j_X5_read_77 z13) some))) else some (false, σ10))))))))))
theorem t_X5_read {w : Wd} (hw : WOK w) {σ : Mem} {x0 : Nat} {x1 : Int32} (hx0 : isk w x0 12) : JO w mu_X5_read vB σ [(0, .ref (adr w 144)), (1, .ref (adr w x0)), (2, .int x1)] [] 0 (f_X5_read σ x0 x1) some := by
  unfold f_X5_read
  refine jo_aload_n (pc := 0) 0 rfl dX5_read_0 rfl ?_
  refine jo_iconst (pc := 1) dX5_read_1 (ic_i_0) ?_
  refine jo_iload_n (pc := 2) 2 rfl dX5_read_2 rfl ?_
  refine jo_aload_n (pc := 3) 1 rfl dX5_read_3 rfl ?_
  refine jo_alenI (pc := 4) (hx0) (by decide) (t := 0) rfl dX5_read_4 ?_
  refine jo_sipush (pc := 5) dX5_read_5 (ic_s_200) ?_
  refine jo_cS_I_p (pc := 8) (μ' := mu_J9_min_7cf53) (fx := f_J9_min_7cf53 σ (Int32.ofNat (ln x0)) 200) (As := [.int (Int32.ofNat (ln x0)), .int 200]) (c_J9_min_7cf53 hw) (ok_J9_min_7cf53) (ltb rfl) (all2 gw_968 gw_708) rfl rfl (Nat.le_of_ble_eq_true rfl) dX5_read_8 (fun v1 => ?_)
  refine jo_cS_I_p (pc := 11) (μ' := mu_J9_min_7cf53) (fx := f_J9_min_7cf53 σ x1 v1) (As := [.int x1, .int v1]) (c_J9_min_7cf53 hw) (ok_J9_min_7cf53) (ltb rfl) (all2 gw_968 gw_708) rfl rfl (Nat.le_of_ble_eq_true rfl) dX5_read_11 (fun v2 => ?_)
  refine jo_cS_I_p (pc := 14) (μ' := mu_J9_max_7cf53) (fx := f_J9_max_7cf53 σ 0 v2) (As := [.int 0, .int v2]) (c_J9_max_7cf53 hw) (ok_J9_max_7cf53) (ltb rfl) (all2 gw_969 gw_752) rfl rfl (Nat.le_of_ble_eq_true rfl) dX5_read_14 (fun v3 => ?_)
  refine jo_putf (pc := 17) ok_5_8 okp_5_8 (ik_144 hw) gw_482 dX5_read_17 (fun σ4 => ?_)
  refine jo_aload_n (pc := 20) 1 rfl dX5_read_20 rfl ?_
  refine jo_iconst (pc := 21) dX5_read_21 (ic_i_0) ?_
  refine jo_aload_n (pc := 22) 0 rfl dX5_read_22 rfl ?_
  refine jo_getrE (pc := 23) ok_5_7 (ik_144 hw) rf_144_7 gw_481 dX5_read_23 ?_
  refine jo_iconst (pc := 26) dX5_read_26 (ic_i_0) ?_
  refine jo_aload_n (pc := 27) 0 rfl dX5_read_27 rfl ?_
  refine jo_getf (pc := 28) ok_5_8 (ik_144 hw) gw_482 dX5_read_28 (fun v5 => ?_)
  refine jo_acI (pc := 31) (hx0) (ik_175 hw) (all4 gw_970 gw_547 gw_546 gw_170) (ltb rfl) (Nat.le_of_ble_eq_true rfl) dX5_read_31 (fun σ6 => ?_)
  refine jo_aload_n (pc := 34) 0 rfl dX5_read_34 rfl ?_
  refine jo_iconst (pc := 35) dX5_read_35 (ic_i_0) ?_
  refine jo_putf (pc := 36) ok_5_9 okp_5_9 (ik_144 hw) gw_483 dX5_read_36 (fun σ7 => ?_)
  refine jo_aload_n (pc := 39) 0 rfl dX5_read_39 rfl ?_
  refine jo_iconst (pc := 40) dX5_read_40 (ic_i_0) ?_
  refine jo_putf (pc := 41) ok_5_10 okp_5_10 (ik_144 hw) gw_484 dX5_read_41 (fun σ8 => ?_)
  refine jo_aload_n (pc := 44) 0 rfl dX5_read_44 rfl ?_
  refine jo_iconst (pc := 45) dX5_read_45 (ic_i_0) ?_
  refine jo_cV_Z_i (pc := 46) (μ' := (mu_X5_readWord 30)) (fx := f_X5_readWord 10 σ8 0) (As := [.int 0]) (c_X5_readWord 10 hw) (ok_X5_readWord _) (ltb rfl) (all3 gw_971 gw_973 gw_25) (ik_144 hw) (by decide) (q := (RX5, TX5, 11)) rfl rfl rfl rfl (Nat.le_of_ble_eq_true rfl) dX5_read_46 (fun b9 σ10 => ?_)
  refine jo_ifz_ne (pc := 49) dX5_read_49 (tgt := 54) rfl ?_ ?_
  · refine jo_aload_n (pc := 54) 0 rfl dX5_read_54 rfl ?_
    refine jo_getf (pc := 55) ok_5_9 (ik_144 hw) gw_483 dX5_read_55 (fun v11 => ?_)
    refine jo_aload_n (pc := 58) 0 rfl dX5_read_58 rfl ?_
    refine jo_getf (pc := 59) ok_5_8 (ik_144 hw) gw_482 dX5_read_59 (fun v12 => ?_)
    refine jo_joinS (S := Mem) (fun (z13 : Mem) => z13) (fun (z13 : Mem) => []) (fun (z13 : Mem) => []) 77 ?_ (fun h77_13 => ?_)
    · intro σ13
      show JO w mu_X5_read vB σ13 [] [] 77 (j_X5_read_77 σ13) _
      unfold j_X5_read_77
      refine jo_iconst (pc := 77) dX5_read_77 (ic_i_1) ?_
      refine jo_goto (pc := 78) dX5_read_78 (tgt := 82) rfl ?_
      exact jo_breturn (pc := 82) (b := true) rfl rfl dX5_read_82
    · refine jo_icmp_ge (pc := 62) dX5_read_62 (tgt := 77) rfl ?_ ?_
      · refine jo_lv (lv' := []) [] rfl ?_
        exact jo_leaf (by rfl) (h77_13 σ10)
      · refine jo_aload_n (pc := 65) 0 rfl dX5_read_65 rfl ?_
        refine jo_iconst (pc := 66) dX5_read_66 (ic_i_1) ?_
        refine jo_aload_n (pc := 67) 0 rfl dX5_read_67 rfl ?_
        refine jo_getf (pc := 68) ok_5_9 (ik_144 hw) gw_483 dX5_read_68 (fun v14 => ?_)
        refine jo_cV_Z_i (pc := 71) (μ' := mu_X5_fail) (fx := f_X5_fail σ10 1 v14) (As := [.int 1, .int v14]) (c_X5_fail hw) (ok_X5_fail) (ltb rfl) (all3 gw_996 gw_998 gw_30) (ik_144 hw) (by decide) (q := (RX5, TX5, 11)) rfl rfl rfl rfl (Nat.le_of_ble_eq_true rfl) dX5_read_71 (fun b15 σ16 => ?_)
        refine jo_ifz_eq (pc := 74) dX5_read_74 (tgt := 81) rfl ?_ ?_
        · refine jo_iconst (pc := 81) dX5_read_81 (ic_i_0) ?_
          exact jo_breturn (pc := 82) (b := false) rfl rfl dX5_read_82
        · refine jo_lv (lv' := []) [] rfl ?_
          exact jo_leaf (by rfl) (h77_13 σ16)
  · refine jo_iconst (pc := 52) dX5_read_52 (ic_i_0) ?_
    exact jo_breturn (pc := 53) (b := false) rfl rfl dX5_read_53
theorem c_X5_read {w : Wd} (hw : WOK w) {σ : Mem} {x0 : Nat} {x1 : Int32} (hx0 : isk w x0 12) : ∀ r σ', f_X5_read σ x0 x1 = some (r, σ') → MC w mu_X5_read (vB r) [.ref (adr w 144), .ref (adr w x0), .int x1] σ σ' := mc_of ok_X5_read rfl (Nat.le_of_ble_eq_true rfl) (t_X5_read hw hx0)
abbrev mu_X6_areWeights : MD := (yX6_areWeights, cX6_areWeights, 5, some .boolean, 0)
theorem ok_X6_areWeights : MOK mu_X6_areWeights 2 := ⟨gw_689, gw_160, (by decide +kernel : plainFor yX6_areWeights = true), ⟨(by decide +kernel : yX6_areWeights.cls ≠ "java/lang/invoke/MethodHandle"), (by decide +kernel : yX6_areWeights.cls ≠ "java/lang/invoke/VarHandle"), (by decide +kernel : (parseMethodDescriptor yX6_areWeights.desc).map (fun d => d.parameters.length) = some 2)⟩, Nat.le_of_ble_eq_true rfl⟩
noncomputable def l_X6_areWeights_30 (x0 : Int32) (x1 : Int32) (i1 : Int32) (i2 : Int32) : Option ((Int32 × Int32) ⊕ Bool) :=
  if x0 ≤ i2 then (some (Sum.inr true)) else (bd ((x1 >>> ((2 * i2) &&& 31)) &&& 3) (fun (v3 : Int32) => if i1 ≤ v3 then (some (Sum.inl (v3, i2 + 1))) else (some (Sum.inr false))))
noncomputable def f_X6_areWeights (σ : Mem) (x0 : Int32) (x1 : Int32) : Option Bool :=
  if x0 < 1 then (some false) else (if 6 < x0 then (some false) else (if x1 < 0 then (some false) else (if x1 < (1 <<< ((2 * x0) &&& 31)) then (loopO (fun (z2 : (Int32 × Int32)) => l_X6_areWeights_30 x0 x1 z2.1 z2.2) (1, 0)) else (some false))))
theorem t_X6_areWeights {w : Wd} (hw : WOK w) {σ : Mem} {x0 : Int32} {x1 : Int32} : JO w mu_X6_areWeights vB σ [(0, .int x0), (1, .int x1)] [] 0 (f_X6_areWeights σ x0 x1) (fun z => some (z, σ)) := by
  unfold f_X6_areWeights
  refine jo_iload_n (pc := 0) 0 rfl dX6_areWeights_0 rfl ?_
  refine jo_iconst (pc := 1) dX6_areWeights_1 (ic_i_1) ?_
  refine jo_icmp_lt (pc := 2) dX6_areWeights_2 (tgt := 24) rfl ?_ ?_
  · refine jo_iconst (pc := 24) dX6_areWeights_24 (ic_i_0) ?_
    exact jo_breturn (pc := 25) (b := false) rfl rfl dX6_areWeights_25
  · refine jo_iload_n (pc := 5) 0 rfl dX6_areWeights_5 rfl ?_
    refine jo_bipush (pc := 6) dX6_areWeights_6 (ic_b_6) ?_
    refine jo_icmp_gt (pc := 8) dX6_areWeights_8 (tgt := 24) rfl ?_ ?_
    · refine jo_iconst (pc := 24) dX6_areWeights_24 (ic_i_0) ?_
      exact jo_breturn (pc := 25) (b := false) rfl rfl dX6_areWeights_25
    · refine jo_iload_n (pc := 11) 1 rfl dX6_areWeights_11 rfl ?_
      refine jo_if_lt (pc := 12) dX6_areWeights_12 (tgt := 24) rfl ?_ ?_
      · refine jo_iconst (pc := 24) dX6_areWeights_24 (ic_i_0) ?_
        exact jo_breturn (pc := 25) (b := false) rfl rfl dX6_areWeights_25
      · refine jo_iload_n (pc := 15) 1 rfl dX6_areWeights_15 rfl ?_
        refine jo_iconst (pc := 16) dX6_areWeights_16 (ic_i_1) ?_
        refine jo_iconst (pc := 17) dX6_areWeights_17 (ic_i_2) ?_
        refine jo_iload_n (pc := 18) 0 rfl dX6_areWeights_18 rfl ?_
        refine jo_imul (pc := 19) dX6_areWeights_19 ?_
        refine jo_ishl (pc := 20) dX6_areWeights_20 ?_
        refine jo_icmp_lt (pc := 21) dX6_areWeights_21 (tgt := 26) rfl ?_ ?_
        · refine jo_iconst (pc := 26) dX6_areWeights_26 (ic_i_1) ?_
          refine jo_istore_n (pc := 27) (lv' := [(2, .int 1), (0, .int x0), (1, .int x1)]) dX6_areWeights_27 rfl (ltb rfl) rfl ?_
          refine jo_iconst (pc := 28) dX6_areWeights_28 (ic_i_0) ?_
          refine jo_istore_n (pc := 29) (lv' := [(3, .int 0), (2, .int 1), (0, .int x0), (1, .int x1)]) dX6_areWeights_29 rfl (ltb rfl) rfl ?_
          refine jo_lv (lv' := [(0, .int x0), (1, .int x1), (2, .int 1), (3, .int 0)]) [2, 3, 1, 0] rfl ?_
          refine jo_loop (X := Bool) (fun (z2 : (Int32 × Int32)) => σ) (fun (z2 : (Int32 × Int32)) => [(0, .int x0), (1, .int x1), (2, .int z2.1), (3, .int z2.2)]) (body := (fun (z2 : (Int32 × Int32)) => l_X6_areWeights_30 x0 x1 z2.1 z2.2)) (fun F30_2 hF30_2 s => ?_) (1, 0)
          obtain ⟨i1, i2⟩ := s
          show JO w mu_X6_areWeights vB σ [(0, .int x0), (1, .int x1), (2, .int i1), (3, .int i2)] [] 30 (l_X6_areWeights_30 x0 x1 i1 i2) _
          unfold l_X6_areWeights_30
          refine jo_iload_n (pc := 30) 3 rfl dX6_areWeights_30 rfl ?_
          refine jo_iload_n (pc := 31) 0 rfl dX6_areWeights_31 rfl ?_
          refine jo_icmp_ge (pc := 32) dX6_areWeights_32 (tgt := 61) rfl ?_ ?_
          · refine jo_iconst (pc := 61) dX6_areWeights_61 (ic_i_1) ?_
            exact jo_breturn (pc := 62) (b := true) rfl rfl dX6_areWeights_62
          · refine jo_iload_n (pc := 35) 1 rfl dX6_areWeights_35 rfl ?_
            refine jo_iconst (pc := 36) dX6_areWeights_36 (ic_i_2) ?_
            refine jo_iload_n (pc := 37) 3 rfl dX6_areWeights_37 rfl ?_
            refine jo_imul (pc := 38) dX6_areWeights_38 ?_
            refine jo_ishr (pc := 39) dX6_areWeights_39 ?_
            refine jo_iconst (pc := 40) dX6_areWeights_40 (ic_i_3) ?_
            refine jo_iand (pc := 41) dX6_areWeights_41 ?_
            refine jo_bd ?_
            refine jo_istore (pc := 42) (lv' := [(4, .int ((x1 >>> ((2 * i2) &&& 31)) &&& 3)), (0, .int x0), (1, .int x1), (2, .int i1), (3, .int i2)]) dX6_areWeights_42 (ltb rfl) rfl ?_
            generalize ((x1 >>> ((2 * i2) &&& 31)) &&& 3) = v3
            refine jo_iload (pc := 44) 0 rfl dX6_areWeights_44 ?_
            refine jo_iload_n (pc := 46) 3 rfl dX6_areWeights_46 rfl ?_
            refine jo_icmp_ge (pc := 47) dX6_areWeights_47 (tgt := 52) rfl ?_ ?_
            · refine jo_iload (pc := 52) 0 rfl dX6_areWeights_52 ?_
              refine jo_istore_n (pc := 54) (lv' := [(2, .int v3), (4, .int v3), (0, .int x0), (1, .int x1), (3, .int i2)]) dX6_areWeights_54 rfl (ltb rfl) rfl ?_
              refine jo_iinc (pc := 55) (lv' := [(3, .int (i2 + 1)), (2, .int v3), (4, .int v3), (0, .int x0), (1, .int x1)]) 4 rfl dX6_areWeights_55 (congrArg (fun z => i2 + z) (ic_i_1)) (ltb rfl) rfl ?_
              refine jo_goto (pc := 58) dX6_areWeights_58 (tgt := 30) rfl ?_
              refine jo_lv (lv' := [(0, .int x0), (1, .int x1), (2, .int v3), (3, .int (i2 + 1))]) [3, 4, 1, 0] rfl ?_
              exact jo_leaf (by rfl) (hF30_2 (v3, i2 + 1))
            · refine jo_iconst (pc := 50) dX6_areWeights_50 (ic_i_0) ?_
              exact jo_breturn (pc := 51) (b := false) rfl rfl dX6_areWeights_51
        · refine jo_iconst (pc := 24) dX6_areWeights_24 (ic_i_0) ?_
          exact jo_breturn (pc := 25) (b := false) rfl rfl dX6_areWeights_25
theorem c_X6_areWeights {w : Wd} (hw : WOK w) {σ : Mem} {x0 : Int32} {x1 : Int32} : ∀ r, f_X6_areWeights σ x0 x1 = some r → MC w mu_X6_areWeights (vB r) [.int x0, .int x1] σ σ := mc_ofP ok_X6_areWeights rfl (Nat.le_of_ble_eq_true rfl) (t_X6_areWeights hw)
abbrev mu_X6_reset : MD := (yX6_reset, cX6_reset, 4, none, 1)
theorem ok_X6_reset : MOK mu_X6_reset 2 := ⟨gw_519, gw_160, (by decide +kernel : plainFor yX6_reset = true), ⟨(by decide +kernel : yX6_reset.cls ≠ "java/lang/invoke/MethodHandle"), (by decide +kernel : yX6_reset.cls ≠ "java/lang/invoke/VarHandle"), (by decide +kernel : (parseMethodDescriptor yX6_reset.desc).map (fun d => d.parameters.length) = some 2)⟩, Nat.le_of_ble_eq_true rfl⟩
noncomputable def j_X6_reset_32 (a : Nat) (σ2 : Mem) : Option Mem :=
  (f_J7_fill_53178 σ2 (rf a 2) 0).bind (fun (σ3 : Mem) => some σ3)
noncomputable def l_X6_reset_7 (a : Nat) (x1 : Int32) (σ4 : Mem) (i5 : Int32) : Option ((Mem × Int32) ⊕ Mem) :=
  if 6 ≤ i5 then (some (Sum.inr σ4)) else (pI σ4 (rf a 1) i5 ((x1 >>> ((2 * i5) &&& 31)) &&& 3) (fun (σ6 : Mem) => some (Sum.inl (σ6, i5 + 1))))
noncomputable def f_X6_reset (σ : Mem) (a : Nat) (x0 : Int32) (x1 : Int32) : Option Mem :=
  pF σ a 0 x0 (fun (σ1 : Mem) => (loopO (fun (z5 : (Mem × Int32)) => l_X6_reset_7 a x1 z5.1 z5.2) (σ1, 0) : Option Mem).bind (fun (z2 : Mem) => j_X6_reset_32 a z2))
theorem t_X6_reset {w : Wd} (hw : WOK w) {σ : Mem} {a : Nat} {x0 : Int32} {x1 : Int32} (ha : isk w a 6) : JO w mu_X6_reset vV σ [(0, .ref (adr w a)), (1, .int x0), (2, .int x1)] [] 0 (f_X6_reset σ a x0 x1) (fun z => some ((), z)) := by
  unfold f_X6_reset
  refine jo_aload_n (pc := 0) 0 rfl dX6_reset_0 rfl ?_
  refine jo_iload_n (pc := 1) 1 rfl dX6_reset_1 rfl ?_
  refine jo_putf (pc := 2) ok_6_0 okp_6_0 (ha) gw_193 dX6_reset_2 (fun σ1 => ?_)
  refine jo_iconst (pc := 5) dX6_reset_5 (ic_i_0) ?_
  refine jo_istore_n (pc := 6) (lv' := [(3, .int 0), (0, .ref (adr w a)), (1, .int x0), (2, .int x1)]) dX6_reset_6 rfl (ltb rfl) rfl ?_
  refine jo_join1 (S := Mem) (fun (z2 : Mem) => z2) (fun (z2 : Mem) => [(0, .ref (adr w a))]) (fun (z2 : Mem) => []) 32 ?_ (fun h32_2 => ?_)
  · intro σ2
    show JO w mu_X6_reset vV σ2 [(0, .ref (adr w a))] [] 32 (j_X6_reset_32 a σ2) _
    unfold j_X6_reset_32
    refine jo_aload_n (pc := 32) 0 rfl dX6_reset_32 rfl ?_
    refine jo_getr (pc := 33) ok_6_2 (ha) gw_206 dX6_reset_33 ?_
    refine jo_iconst (pc := 36) dX6_reset_36 (ic_i_0) ?_
    refine jo_cS_V_i (pc := 37) (μ' := mu_J7_fill_53178) (fx := f_J7_fill_53178 σ2 (rf a 2) 0) (As := [.ref (adr w (rf a 2)), .int 0]) (c_J7_fill_53178 hw (wf_6_2 hw (ha))) (ok_J7_fill_53178) (ltb rfl) (all2 gw_520 gw_521) rfl rfl (Nat.le_of_ble_eq_true rfl) dX6_reset_37 (fun σ3 => ?_)
    exact jo_return (pc := 40) rfl rfl dX6_reset_40
  · refine jo_lv (lv' := [(0, .ref (adr w a)), (2, .int x1), (3, .int 0)]) [1, 3, 0] rfl ?_
    refine jo_loop (X := Mem) (fun (z5 : (Mem × Int32)) => z5.1) (fun (z5 : (Mem × Int32)) => [(0, .ref (adr w a)), (2, .int x1), (3, .int z5.2)]) (body := (fun (z5 : (Mem × Int32)) => l_X6_reset_7 a x1 z5.1 z5.2)) (fun F7_5 hF7_5 s => ?_) (σ1, 0)
    obtain ⟨σ4, i5⟩ := s
    show JO w mu_X6_reset vV σ4 [(0, .ref (adr w a)), (2, .int x1), (3, .int i5)] [] 7 (l_X6_reset_7 a x1 σ4 i5) _
    unfold l_X6_reset_7
    refine jo_iload_n (pc := 7) 2 rfl dX6_reset_7 rfl ?_
    refine jo_bipush (pc := 8) dX6_reset_8 (ic_b_6) ?_
    refine jo_icmp_ge (pc := 10) dX6_reset_10 (tgt := 32) rfl ?_ ?_
    · refine jo_lv (lv' := [(0, .ref (adr w a))]) [0] rfl ?_
      exact jo_leaf (by rfl) (h32_2 σ4)
    · refine jo_aload_n (pc := 13) 0 rfl dX6_reset_13 rfl ?_
      refine jo_getr (pc := 14) ok_6_1 (ha) gw_200 dX6_reset_14 ?_
      refine jo_iload_n (pc := 17) 2 rfl dX6_reset_17 rfl ?_
      refine jo_iload_n (pc := 18) 1 rfl dX6_reset_18 rfl ?_
      refine jo_iconst (pc := 19) dX6_reset_19 (ic_i_2) ?_
      refine jo_iload_n (pc := 20) 2 rfl dX6_reset_20 rfl ?_
      refine jo_imul (pc := 21) dX6_reset_21 ?_
      refine jo_ishr (pc := 22) dX6_reset_22 ?_
      refine jo_iconst (pc := 23) dX6_reset_23 (ic_i_3) ?_
      refine jo_iand (pc := 24) dX6_reset_24 ?_
      refine jo_iast (pc := 25) (wf_6_1 hw (ha)) dX6_reset_25 (fun σ6 => ?_)
      refine jo_iinc (pc := 26) (lv' := [(3, .int (i5 + 1)), (0, .ref (adr w a)), (2, .int x1)]) 2 rfl dX6_reset_26 (congrArg (fun z => i5 + z) (ic_i_1)) (ltb rfl) rfl ?_
      refine jo_goto (pc := 29) dX6_reset_29 (tgt := 7) rfl ?_
      refine jo_lv (lv' := [(0, .ref (adr w a)), (2, .int x1), (3, .int (i5 + 1))]) [1, 2, 0] rfl ?_
      exact jo_leaf (by rfl) (hF7_5 (σ6, i5 + 1))
theorem c_X6_reset {w : Wd} (hw : WOK w) {σ : Mem} {a : Nat} {x0 : Int32} {x1 : Int32} (ha : isk w a 6) : ∀ σ', f_X6_reset σ a x0 x1 = some σ' → MC w mu_X6_reset none [.ref (adr w a), .int x0, .int x1] σ σ' := mc_ofV ok_X6_reset rfl (Nat.le_of_ble_eq_true rfl) (t_X6_reset hw ha)
abbrev mu_X6_write : MD := (yX6_write, cX6_write, 5, none, 1)
theorem ok_X6_write : MOK mu_X6_write 4 := ⟨gw_528, gw_160, (by decide +kernel : plainFor yX6_write = true), ⟨(by decide +kernel : yX6_write.cls ≠ "java/lang/invoke/MethodHandle"), (by decide +kernel : yX6_write.cls ≠ "java/lang/invoke/VarHandle"), (by decide +kernel : (parseMethodDescriptor yX6_write.desc).map (fun d => d.parameters.length) = some 4)⟩, Nat.le_of_ble_eq_true rfl⟩
noncomputable def f_X6_write (σ : Mem) (a : Nat) (x0 : Int32) (x1 : Int32) (x2 : Int32) (x3 : Int32) : Option Mem :=
  (f_X6_isTail σ a x0 x1 x2).bind (fun (b1 : Bool) => if b1 then pI σ (rf a 2) ((((x0 * 6) + x1) * 6) + x2) x3 (fun (σ2 : Mem) => some σ2) else some σ)
theorem t_X6_write {w : Wd} (hw : WOK w) {σ : Mem} {a : Nat} {x0 : Int32} {x1 : Int32} {x2 : Int32} {x3 : Int32} (ha : isk w a 6) : JO w mu_X6_write vV σ [(0, .ref (adr w a)), (1, .int x0), (2, .int x1), (3, .int x2), (4, .int x3)] [] 0 (f_X6_write σ a x0 x1 x2 x3) (fun z => some ((), z)) := by
  unfold f_X6_write
  refine jo_aload_n (pc := 0) 0 rfl dX6_write_0 rfl ?_
  refine jo_iload_n (pc := 1) 1 rfl dX6_write_1 rfl ?_
  refine jo_iload_n (pc := 2) 2 rfl dX6_write_2 rfl ?_
  refine jo_iload_n (pc := 3) 3 rfl dX6_write_3 rfl ?_
  refine jo_cV_Z_p (pc := 4) (μ' := mu_X6_isTail) (fx := f_X6_isTail σ a x0 x1 x2) (As := [.int x0, .int x1, .int x2]) (c_X6_isTail hw (ha)) (ok_X6_isTail) (ltb rfl) (all3 gw_529 gw_530 gw_531) (ha) (by decide) (q := (RX6, TX6, 3)) rfl rfl rfl rfl (Nat.le_of_ble_eq_true rfl) dX6_write_4 (fun b1 => ?_)
  refine jo_ifz_eq (pc := 7) dX6_write_7 (tgt := 28) rfl ?_ ?_
  · exact jo_return (pc := 28) rfl rfl dX6_write_28
  · refine jo_aload_n (pc := 10) 0 rfl dX6_write_10 rfl ?_
    refine jo_getr (pc := 11) ok_6_2 (ha) gw_206 dX6_write_11 ?_
    refine jo_iload_n (pc := 14) 1 rfl dX6_write_14 rfl ?_
    refine jo_bipush (pc := 15) dX6_write_15 (ic_b_6) ?_
    refine jo_imul (pc := 17) dX6_write_17 ?_
    refine jo_iload_n (pc := 18) 2 rfl dX6_write_18 rfl ?_
    refine jo_iadd (pc := 19) dX6_write_19 ?_
    refine jo_bipush (pc := 20) dX6_write_20 (ic_b_6) ?_
    refine jo_imul (pc := 22) dX6_write_22 ?_
    refine jo_iload_n (pc := 23) 3 rfl dX6_write_23 rfl ?_
    refine jo_iadd (pc := 24) dX6_write_24 ?_
    refine jo_iload (pc := 25) 4 rfl dX6_write_25 ?_
    refine jo_iast (pc := 27) (wf_6_2 hw (ha)) dX6_write_27 (fun σ2 => ?_)
    exact jo_return (pc := 28) rfl rfl dX6_write_28
theorem c_X6_write {w : Wd} (hw : WOK w) {σ : Mem} {a : Nat} {x0 : Int32} {x1 : Int32} {x2 : Int32} {x3 : Int32} (ha : isk w a 6) : ∀ σ', f_X6_write σ a x0 x1 x2 x3 = some σ' → MC w mu_X6_write none [.ref (adr w a), .int x0, .int x1, .int x2, .int x3] σ σ' := mc_ofV ok_X6_write rfl (Nat.le_of_ble_eq_true rfl) (t_X6_write hw ha)
abbrev mu_X6_takeKind : MD := (yX6_takeKind, cX6_takeKind, 3, none, 2)
theorem ok_X6_takeKind : MOK mu_X6_takeKind 1 := ⟨gw_511, gw_160, (by decide +kernel : plainFor yX6_takeKind = true), ⟨(by decide +kernel : yX6_takeKind.cls ≠ "java/lang/invoke/MethodHandle"), (by decide +kernel : yX6_takeKind.cls ≠ "java/lang/invoke/VarHandle"), (by decide +kernel : (parseMethodDescriptor yX6_takeKind.desc).map (fun d => d.parameters.length) = some 1)⟩, Nat.le_of_ble_eq_true rfl⟩
noncomputable def j_X6_takeKind_88 (i5 : Int32) (σ7 : Mem) : Option ((Mem × Int32) ⊕ Mem) :=
  some (Sum.inl (σ7, i5 + 4))
noncomputable def l_X6_takeKind_37 (a : Nat) (x0 : Int32) (σ4 : Mem) (i5 : Int32) : Option ((Mem × Int32) ⊕ Mem) :=
  if (Int32.ofNat (tabL 2)) ≤ (i5 + 3) then (some (Sum.inr σ4)) else (gT 2 i5 (fun (v6 : Int32) => (if v6 = x0 then (gT 2 (i5 + 1) (fun (v8 : Int32) => gT 2 (i5 + 2) (fun (v9 : Int32) => gT 2 (i5 + 3) (fun (v10 : Int32) => (f_X6_write σ4 a (v8 - 1) (v9 - 1) (v10 - 1) 1).bind (fun (σ11 : Mem) => some σ11))))) else (some σ4) : Option Mem).bind (fun (z7 : Mem) => j_X6_takeKind_88 i5 z7)))
noncomputable def f_X6_takeKind (σ : Mem) (a : Nat) (x0 : Int32) : Option Mem :=
  if x0 < 0 then (some σ) else (if (Int32.ofNat (tabL 0)) ≤ x0 then (some σ) else (if x0 < (Int32.ofNat (tabL 1)) then (gT 0 x0 (fun (v1 : Int32) => gT 1 x0 (fun (v2 : Int32) => (f_X6_reset σ a v1 v2).bind (fun (σ3 : Mem) => loopO (fun (z5 : (Mem × Int32)) => l_X6_takeKind_37 a x0 z5.1 z5.2) (σ3, 0))))) else (some σ)))
theorem t_X6_takeKind {w : Wd} (hw : WOK w) {σ : Mem} {a : Nat} {x0 : Int32} (ha : isk w a 6) : JO w mu_X6_takeKind vV σ [(0, .ref (adr w a)), (1, .int x0)] [] 0 (f_X6_takeKind σ a x0) (fun z => some ((), z)) := by
  unfold f_X6_takeKind
  refine jo_iload_n (pc := 0) 1 rfl dX6_takeKind_0 rfl ?_
  refine jo_if_lt (pc := 1) dX6_takeKind_1 (tgt := 20) rfl ?_ ?_
  · exact jo_return (pc := 20) rfl rfl dX6_takeKind_20
  · refine jo_iload_n (pc := 4) 1 rfl dX6_takeKind_4 rfl ?_
    refine jo_getsN (pc := 5) (k := 0) (by decide) (by decide +kernel) dX6_takeKind_5 ?_
    refine jo_tablen (pc := 8) (by decide) dX6_takeKind_8 ?_
    refine jo_icmp_ge (pc := 9) dX6_takeKind_9 (tgt := 20) rfl ?_ ?_
    · exact jo_return (pc := 20) rfl rfl dX6_takeKind_20
    · refine jo_iload_n (pc := 12) 1 rfl dX6_takeKind_12 rfl ?_
      refine jo_getsN (pc := 13) (k := 1) (by decide) (by decide +kernel) dX6_takeKind_13 ?_
      refine jo_tablen (pc := 16) (by decide) dX6_takeKind_16 ?_
      refine jo_icmp_lt (pc := 17) dX6_takeKind_17 (tgt := 21) rfl ?_ ?_
      · refine jo_aload_n (pc := 21) 0 rfl dX6_takeKind_21 rfl ?_
        refine jo_getsN (pc := 22) (k := 0) (by decide) (by decide +kernel) dX6_takeKind_22 ?_
        refine jo_iload_n (pc := 25) 1 rfl dX6_takeKind_25 rfl ?_
        refine jo_tabld (pc := 26) (by decide) dX6_takeKind_26 (fun v1 => ?_)
        refine jo_getsN (pc := 27) (k := 1) (by decide) (by decide +kernel) dX6_takeKind_27 ?_
        refine jo_iload_n (pc := 30) 1 rfl dX6_takeKind_30 rfl ?_
        refine jo_tabld (pc := 31) (by decide) dX6_takeKind_31 (fun v2 => ?_)
        refine jo_cV_V_i (pc := 32) (μ' := mu_X6_reset) (fx := f_X6_reset σ a v1 v2) (As := [.int v1, .int v2]) (c_X6_reset hw (ha)) (ok_X6_reset) (ltb rfl) (all3 gw_516 gw_517 gw_518) (ha) (by decide) (q := (RX6, TX6, 3)) rfl rfl rfl rfl (Nat.le_of_ble_eq_true rfl) dX6_takeKind_32 (fun σ3 => ?_)
        refine jo_iconst (pc := 35) dX6_takeKind_35 (ic_i_0) ?_
        refine jo_istore_n (pc := 36) (lv' := [(2, .int 0), (0, .ref (adr w a)), (1, .int x0)]) dX6_takeKind_36 rfl (ltb rfl) rfl ?_
        refine jo_lv (lv' := [(0, .ref (adr w a)), (1, .int x0), (2, .int 0)]) [1, 2, 0] rfl ?_
        refine jo_loop (X := Mem) (fun (z5 : (Mem × Int32)) => z5.1) (fun (z5 : (Mem × Int32)) => [(0, .ref (adr w a)), (1, .int x0), (2, .int z5.2)]) (body := (fun (z5 : (Mem × Int32)) => l_X6_takeKind_37 a x0 z5.1 z5.2)) (fun F37_5 hF37_5 s => ?_) (σ3, 0)
        obtain ⟨σ4, i5⟩ := s
        show JO w mu_X6_takeKind vV σ4 [(0, .ref (adr w a)), (1, .int x0), (2, .int i5)] [] 37 (l_X6_takeKind_37 a x0 σ4 i5) _
        unfold l_X6_takeKind_37
        refine jo_iload_n (pc := 37) 2 rfl dX6_takeKind_37 rfl ?_
        refine jo_iconst (pc := 38) dX6_takeKind_38 (ic_i_3) ?_
        refine jo_iadd (pc := 39) dX6_takeKind_39 ?_
        refine jo_getsN (pc := 40) (k := 2) (by decide) (by decide +kernel) dX6_takeKind_40 ?_
        refine jo_tablen (pc := 43) (by decide) dX6_takeKind_43 ?_
        refine jo_icmp_ge (pc := 44) dX6_takeKind_44 (tgt := 94) rfl ?_ ?_
        · exact jo_return (pc := 94) rfl rfl dX6_takeKind_94
        · refine jo_getsN (pc := 47) (k := 2) (by decide) (by decide +kernel) dX6_takeKind_47 ?_
          refine jo_iload_n (pc := 50) 2 rfl dX6_takeKind_50 rfl ?_
          refine jo_tabld (pc := 51) (by decide) dX6_takeKind_51 (fun v6 => ?_)
          refine jo_iload_n (pc := 52) 1 rfl dX6_takeKind_52 rfl ?_
          refine jo_join1 (S := Mem) (fun (z7 : Mem) => z7) (fun (z7 : Mem) => [(0, .ref (adr w a)), (1, .int x0), (2, .int i5)]) (fun (z7 : Mem) => []) 88 ?_ (fun h88_7 => ?_)
          · intro σ7
            show JO w mu_X6_takeKind vV σ7 [(0, .ref (adr w a)), (1, .int x0), (2, .int i5)] [] 88 (j_X6_takeKind_88 i5 σ7) _
            unfold j_X6_takeKind_88
            refine jo_iinc (pc := 88) (lv' := [(2, .int (i5 + 4)), (0, .ref (adr w a)), (1, .int x0)]) 2 rfl dX6_takeKind_88 (congrArg (fun z => i5 + z) (ic_i_4)) (ltb rfl) rfl ?_
            refine jo_goto (pc := 91) dX6_takeKind_91 (tgt := 37) rfl ?_
            refine jo_lv (lv' := [(0, .ref (adr w a)), (1, .int x0), (2, .int (i5 + 4))]) [1, 2, 0] rfl ?_
            exact jo_leaf (by rfl) (hF37_5 (σ7, i5 + 4))
          · refine jo_icmp_ne (pc := 53) dX6_takeKind_53 (tgt := 88) rfl ?_ ?_
            · exact jo_leaf (by rfl) (h88_7 σ4)
            · refine jo_aload_n (pc := 56) 0 rfl dX6_takeKind_56 rfl ?_
              refine jo_getsN (pc := 57) (k := 2) (by decide) (by decide +kernel) dX6_takeKind_57 ?_
              refine jo_iload_n (pc := 60) 2 rfl dX6_takeKind_60 rfl ?_
              refine jo_iconst (pc := 61) dX6_takeKind_61 (ic_i_1) ?_
              refine jo_iadd (pc := 62) dX6_takeKind_62 ?_
              refine jo_tabld (pc := 63) (by decide) dX6_takeKind_63 (fun v8 => ?_)
              refine jo_iconst (pc := 64) dX6_takeKind_64 (ic_i_1) ?_
              refine jo_isub (pc := 65) dX6_takeKind_65 ?_
              refine jo_getsN (pc := 66) (k := 2) (by decide) (by decide +kernel) dX6_takeKind_66 ?_
              refine jo_iload_n (pc := 69) 2 rfl dX6_takeKind_69 rfl ?_
              refine jo_iconst (pc := 70) dX6_takeKind_70 (ic_i_2) ?_
              refine jo_iadd (pc := 71) dX6_takeKind_71 ?_
              refine jo_tabld (pc := 72) (by decide) dX6_takeKind_72 (fun v9 => ?_)
              refine jo_iconst (pc := 73) dX6_takeKind_73 (ic_i_1) ?_
              refine jo_isub (pc := 74) dX6_takeKind_74 ?_
              refine jo_getsN (pc := 75) (k := 2) (by decide) (by decide +kernel) dX6_takeKind_75 ?_
              refine jo_iload_n (pc := 78) 2 rfl dX6_takeKind_78 rfl ?_
              refine jo_iconst (pc := 79) dX6_takeKind_79 (ic_i_3) ?_
              refine jo_iadd (pc := 80) dX6_takeKind_80 ?_
              refine jo_tabld (pc := 81) (by decide) dX6_takeKind_81 (fun v10 => ?_)
              refine jo_iconst (pc := 82) dX6_takeKind_82 (ic_i_1) ?_
              refine jo_isub (pc := 83) dX6_takeKind_83 ?_
              refine jo_iconst (pc := 84) dX6_takeKind_84 (ic_i_1) ?_
              refine jo_cV_V_i (pc := 85) (μ' := mu_X6_write) (fx := f_X6_write σ4 a (v8 - 1) (v9 - 1) (v10 - 1) 1) (As := [.int (v8 - 1), .int (v9 - 1), .int (v10 - 1), .int 1]) (c_X6_write hw (ha)) (ok_X6_write) (ltb rfl) (all3 gw_525 gw_526 gw_527) (ha) (by decide) (q := (RX6, TX6, 3)) rfl rfl rfl rfl (Nat.le_of_ble_eq_true rfl) dX6_takeKind_85 (fun σ11 => ?_)
              exact jo_leaf (by rfl) (h88_7 σ11)
      · exact jo_return (pc := 20) rfl rfl dX6_takeKind_20
theorem c_X6_takeKind {w : Wd} (hw : WOK w) {σ : Mem} {a : Nat} {x0 : Int32} (ha : isk w a 6) : ∀ σ', f_X6_takeKind σ a x0 = some σ' → MC w mu_X6_takeKind none [.ref (adr w a), .int x0] σ σ' := mc_ofV ok_X6_takeKind rfl (Nat.le_of_ble_eq_true rfl) (t_X6_takeKind hw ha)
abbrev mu_X6_mayBe : MD := (yX6_mayBe, cX6_mayBe, 5, some .boolean, 1)
theorem ok_X6_mayBe : MOK mu_X6_mayBe 4 := ⟨gw_725, gw_160, (by decide +kernel : plainFor yX6_mayBe = true), ⟨(by decide +kernel : yX6_mayBe.cls ≠ "java/lang/invoke/MethodHandle"), (by decide +kernel : yX6_mayBe.cls ≠ "java/lang/invoke/VarHandle"), (by decide +kernel : (parseMethodDescriptor yX6_mayBe.desc).map (fun d => d.parameters.length) = some 4)⟩, Nat.le_of_ble_eq_true rfl⟩
noncomputable def j_X6_mayBe_50  : Option Bool :=
  some true
noncomputable def f_X6_mayBe (σ : Mem) (a : Nat) (x0 : Int32) (x1 : Int32) (x2 : Int32) (x3 : Int32) : Option Bool :=
  (f_X6_isTail σ a x0 x1 x2).bind (fun (b1 : Bool) => if b1 then if x3 < 0 then (some false) else (if x3 ≤ 3 then ((if x3 = 0 then (some (Sum.inl ())) else (gI σ (rf a 1) x2 (fun (v2 : Int32) => gI σ (rf a 1) x1 (fun (v3 : Int32) => gI σ (rf a 1) x0 (fun (v4 : Int32) => if v2 < (v3 + v4) then (some (Sum.inr false)) else (some (Sum.inl ())))))) : Option (Unit ⊕ Bool)).bind (Sum.elim (fun (z1 : Unit) => j_X6_mayBe_50) some)) else (some false)) else some false)
theorem t_X6_mayBe {w : Wd} (hw : WOK w) {σ : Mem} {a : Nat} {x0 : Int32} {x1 : Int32} {x2 : Int32} {x3 : Int32} (ha : isk w a 6) : JO w mu_X6_mayBe vB σ [(0, .ref (adr w a)), (1, .int x0), (2, .int x1), (3, .int x2), (4, .int x3)] [] 0 (f_X6_mayBe σ a x0 x1 x2 x3) (fun z => some (z, σ)) := by
  unfold f_X6_mayBe
  refine jo_aload_n (pc := 0) 0 rfl dX6_mayBe_0 rfl ?_
  refine jo_iload_n (pc := 1) 1 rfl dX6_mayBe_1 rfl ?_
  refine jo_iload_n (pc := 2) 2 rfl dX6_mayBe_2 rfl ?_
  refine jo_iload_n (pc := 3) 3 rfl dX6_mayBe_3 rfl ?_
  refine jo_cV_Z_p (pc := 4) (μ' := mu_X6_isTail) (fx := f_X6_isTail σ a x0 x1 x2) (As := [.int x0, .int x1, .int x2]) (c_X6_isTail hw (ha)) (ok_X6_isTail) (ltb rfl) (all3 gw_529 gw_530 gw_531) (ha) (by decide) (q := (RX6, TX6, 3)) rfl rfl rfl rfl (Nat.le_of_ble_eq_true rfl) dX6_mayBe_4 (fun b1 => ?_)
  refine jo_ifz_eq (pc := 7) dX6_mayBe_7 (tgt := 21) rfl ?_ ?_
  · refine jo_iconst (pc := 21) dX6_mayBe_21 (ic_i_0) ?_
    exact jo_breturn (pc := 22) (b := false) rfl rfl dX6_mayBe_22
  · refine jo_iload (pc := 10) 4 rfl dX6_mayBe_10 ?_
    refine jo_if_lt (pc := 12) dX6_mayBe_12 (tgt := 21) rfl ?_ ?_
    · refine jo_iconst (pc := 21) dX6_mayBe_21 (ic_i_0) ?_
      exact jo_breturn (pc := 22) (b := false) rfl rfl dX6_mayBe_22
    · refine jo_iload (pc := 15) 4 rfl dX6_mayBe_15 ?_
      refine jo_iconst (pc := 17) dX6_mayBe_17 (ic_i_3) ?_
      refine jo_icmp_le (pc := 18) dX6_mayBe_18 (tgt := 23) rfl ?_ ?_
      · refine jo_iload (pc := 23) 4 rfl dX6_mayBe_23 ?_
        refine jo_joinS (S := Unit) (fun (z1 : Unit) => σ) (fun (z1 : Unit) => []) (fun (z1 : Unit) => []) 50 ?_ (fun h50_1 => ?_)
        · intro _
          show JO w mu_X6_mayBe vB σ [] [] 50 (j_X6_mayBe_50) _
          unfold j_X6_mayBe_50
          refine jo_iconst (pc := 50) dX6_mayBe_50 (ic_i_1) ?_
          refine jo_goto (pc := 51) dX6_mayBe_51 (tgt := 55) rfl ?_
          exact jo_breturn (pc := 55) (b := true) rfl rfl dX6_mayBe_55
        · refine jo_if_eq (pc := 25) dX6_mayBe_25 (tgt := 50) rfl ?_ ?_
          · refine jo_lv (lv' := []) [] rfl ?_
            exact jo_leaf (by rfl) (h50_1 ())
          · refine jo_aload_n (pc := 28) 0 rfl dX6_mayBe_28 rfl ?_
            refine jo_getr (pc := 29) ok_6_1 (ha) gw_200 dX6_mayBe_29 ?_
            refine jo_iload_n (pc := 32) 3 rfl dX6_mayBe_32 rfl ?_
            refine jo_iald (pc := 33) (wf_6_1 hw (ha)) dX6_mayBe_33 (fun v2 => ?_)
            refine jo_aload_n (pc := 34) 0 rfl dX6_mayBe_34 rfl ?_
            refine jo_getr (pc := 35) ok_6_1 (ha) gw_200 dX6_mayBe_35 ?_
            refine jo_iload_n (pc := 38) 2 rfl dX6_mayBe_38 rfl ?_
            refine jo_iald (pc := 39) (wf_6_1 hw (ha)) dX6_mayBe_39 (fun v3 => ?_)
            refine jo_aload_n (pc := 40) 0 rfl dX6_mayBe_40 rfl ?_
            refine jo_getr (pc := 41) ok_6_1 (ha) gw_200 dX6_mayBe_41 ?_
            refine jo_iload_n (pc := 44) 1 rfl dX6_mayBe_44 rfl ?_
            refine jo_iald (pc := 45) (wf_6_1 hw (ha)) dX6_mayBe_45 (fun v4 => ?_)
            refine jo_iadd (pc := 46) dX6_mayBe_46 ?_
            refine jo_icmp_lt (pc := 47) dX6_mayBe_47 (tgt := 54) rfl ?_ ?_
            · refine jo_iconst (pc := 54) dX6_mayBe_54 (ic_i_0) ?_
              exact jo_breturn (pc := 55) (b := false) rfl rfl dX6_mayBe_55
            · refine jo_lv (lv' := []) [] rfl ?_
              exact jo_leaf (by rfl) (h50_1 ())
      · refine jo_iconst (pc := 21) dX6_mayBe_21 (ic_i_0) ?_
        exact jo_breturn (pc := 22) (b := false) rfl rfl dX6_mayBe_22
theorem c_X6_mayBe {w : Wd} (hw : WOK w) {σ : Mem} {a : Nat} {x0 : Int32} {x1 : Int32} {x2 : Int32} {x3 : Int32} (ha : isk w a 6) : ∀ r, f_X6_mayBe σ a x0 x1 x2 x3 = some r → MC w mu_X6_mayBe (vB r) [.ref (adr w a), .int x0, .int x1, .int x2, .int x3] σ σ := mc_ofP ok_X6_mayBe rfl (Nat.le_of_ble_eq_true rfl) (t_X6_mayBe hw ha)
abbrev mu_X6_copyTails : MD := (yX6_copyTails, cX6_copyTails, 5, none, 2)
theorem ok_X6_copyTails : MOK mu_X6_copyTails 3 := ⟨gw_1135, gw_160, (by decide +kernel : plainFor yX6_copyTails = true), ⟨(by decide +kernel : yX6_copyTails.cls ≠ "java/lang/invoke/MethodHandle"), (by decide +kernel : yX6_copyTails.cls ≠ "java/lang/invoke/VarHandle"), (by decide +kernel : (parseMethodDescriptor yX6_copyTails.desc).map (fun d => d.parameters.length) = some 3)⟩, Nat.le_of_ble_eq_true rfl⟩
noncomputable def l_X6_copyTails_3 (a : Nat) (x0 : Int32) (x1 : Int32) (x2 : Nat) (σ1 : Mem) (i2 : Int32) : Option ((Mem × Int32) ⊕ Mem) :=
  if 6 ≤ i2 then (some (Sum.inr σ1)) else ((f_X6_read σ1 a x0 x1 i2).bind (fun (v3 : Int32) => pL σ1 x2 i2 (Int32.toInt64 v3) (fun (σ4 : Mem) => some (Sum.inl (σ4, i2 + 1)))))
noncomputable def f_X6_copyTails (σ : Mem) (a : Nat) (x0 : Int32) (x1 : Int32) (x2 : Nat) : Option Mem :=
  loopO (fun (z2 : (Mem × Int32)) => l_X6_copyTails_3 a x0 x1 x2 z2.1 z2.2) (σ, 0)
theorem t_X6_copyTails {w : Wd} (hw : WOK w) {σ : Mem} {a : Nat} {x0 : Int32} {x1 : Int32} {x2 : Nat} (ha : isk w a 6) (hx2 : isk w x2 13) : JO w mu_X6_copyTails vV σ [(0, .ref (adr w a)), (1, .int x0), (2, .int x1), (3, .ref (adr w x2))] [] 0 (f_X6_copyTails σ a x0 x1 x2) (fun z => some ((), z)) := by
  unfold f_X6_copyTails
  refine jo_iconst (pc := 0) dX6_copyTails_0 (ic_i_0) ?_
  refine jo_istore (pc := 1) (lv' := [(4, .int 0), (0, .ref (adr w a)), (1, .int x0), (2, .int x1), (3, .ref (adr w x2))]) dX6_copyTails_1 (ltb rfl) rfl ?_
  refine jo_lv (lv' := [(0, .ref (adr w a)), (1, .int x0), (2, .int x1), (3, .ref (adr w x2)), (4, .int 0)]) [1, 2, 3, 4, 0] rfl ?_
  refine jo_loop (X := Mem) (fun (z2 : (Mem × Int32)) => z2.1) (fun (z2 : (Mem × Int32)) => [(0, .ref (adr w a)), (1, .int x0), (2, .int x1), (3, .ref (adr w x2)), (4, .int z2.2)]) (body := (fun (z2 : (Mem × Int32)) => l_X6_copyTails_3 a x0 x1 x2 z2.1 z2.2)) (fun F3_2 hF3_2 s => ?_) (σ, 0)
  obtain ⟨σ1, i2⟩ := s
  show JO w mu_X6_copyTails vV σ1 [(0, .ref (adr w a)), (1, .int x0), (2, .int x1), (3, .ref (adr w x2)), (4, .int i2)] [] 3 (l_X6_copyTails_3 a x0 x1 x2 σ1 i2) _
  unfold l_X6_copyTails_3
  refine jo_iload (pc := 3) 4 rfl dX6_copyTails_3 ?_
  refine jo_bipush (pc := 5) dX6_copyTails_5 (ic_b_6) ?_
  refine jo_icmp_ge (pc := 7) dX6_copyTails_7 (tgt := 29) rfl ?_ ?_
  · exact jo_return (pc := 29) rfl rfl dX6_copyTails_29
  · refine jo_aload_n (pc := 10) 3 rfl dX6_copyTails_10 rfl ?_
    refine jo_iload (pc := 11) 4 rfl dX6_copyTails_11 ?_
    refine jo_aload_n (pc := 13) 0 rfl dX6_copyTails_13 rfl ?_
    refine jo_iload_n (pc := 14) 1 rfl dX6_copyTails_14 rfl ?_
    refine jo_iload_n (pc := 15) 2 rfl dX6_copyTails_15 rfl ?_
    refine jo_iload (pc := 16) 4 rfl dX6_copyTails_16 ?_
    refine jo_cV_I_p (pc := 18) (μ' := mu_X6_read) (fx := f_X6_read σ1 a x0 x1 i2) (As := [.int x0, .int x1, .int i2]) (c_X6_read hw (ha)) (ok_X6_read) (ltb rfl) (all3 gw_755 gw_569 gw_570) (ha) (by decide) (q := (RX6, TX6, 3)) rfl rfl rfl rfl (Nat.le_of_ble_eq_true rfl) dX6_copyTails_18 (fun v3 => ?_)
    refine jo_i2l (pc := 21) dX6_copyTails_21 ?_
    refine jo_last (pc := 22) (hx2) dX6_copyTails_22 (fun σ4 => ?_)
    refine jo_iinc (pc := 23) (lv' := [(4, .int (i2 + 1)), (0, .ref (adr w a)), (1, .int x0), (2, .int x1), (3, .ref (adr w x2))]) 4 rfl dX6_copyTails_23 (congrArg (fun z => i2 + z) (ic_i_1)) (ltb rfl) rfl ?_
    refine jo_goto (pc := 26) dX6_copyTails_26 (tgt := 3) rfl ?_
    refine jo_lv (lv' := [(0, .ref (adr w a)), (1, .int x0), (2, .int x1), (3, .ref (adr w x2)), (4, .int (i2 + 1))]) [1, 2, 3, 4, 0] rfl ?_
    exact jo_leaf (by rfl) (hF3_2 (σ4, i2 + 1))
theorem c_X6_copyTails {w : Wd} (hw : WOK w) {σ : Mem} {a : Nat} {x0 : Int32} {x1 : Int32} {x2 : Nat} (ha : isk w a 6) (hx2 : isk w x2 13) : ∀ σ', f_X6_copyTails σ a x0 x1 x2 = some σ' → MC w mu_X6_copyTails none [.ref (adr w a), .int x0, .int x1, .ref (adr w x2)] σ σ' := mc_ofV ok_X6_copyTails rfl (Nat.le_of_ble_eq_true rfl) (t_X6_copyTails hw ha hx2)
abbrev mu_X6_tailsAboveZero : MD := (yX6_tailsAboveZero, cX6_tailsAboveZero, 3, some .int, 0)
theorem ok_X6_tailsAboveZero : MOK mu_X6_tailsAboveZero 0 := ⟨gw_1261, gw_160, (by decide +kernel : plainFor yX6_tailsAboveZero = true), ⟨(by decide +kernel : yX6_tailsAboveZero.cls ≠ "java/lang/invoke/MethodHandle"), (by decide +kernel : yX6_tailsAboveZero.cls ≠ "java/lang/invoke/VarHandle"), (by decide +kernel : (parseMethodDescriptor yX6_tailsAboveZero.desc).map (fun d => d.parameters.length) = some 0)⟩, Nat.le_of_ble_eq_true rfl⟩
noncomputable def j_X6_tailsAboveZero_28 (i1 : Int32) (i2 : Int32) (b4 : Bool) : Option ((Int32 × Int32) ⊕ Int32) :=
  bd (i1 + (b2i b4)) (fun (v5 : Int32) => some (Sum.inl (v5, i2 + 1)))
noncomputable def l_X6_tailsAboveZero_4 (σ : Mem) (a : Nat) (i1 : Int32) (i2 : Int32) : Option ((Int32 × Int32) ⊕ Int32) :=
  if (Int32.ofNat (ln (rf a 2))) ≤ i2 then (some (Sum.inr i1)) else (gI σ (rf a 2) i2 (fun (v3 : Int32) => (if v3 ≤ 0 then (some false) else (some true) : Option Bool).bind (fun (z4 : Bool) => j_X6_tailsAboveZero_28 i1 i2 z4)))
noncomputable def f_X6_tailsAboveZero (σ : Mem) (a : Nat) : Option Int32 :=
  loopO (fun (z2 : (Int32 × Int32)) => l_X6_tailsAboveZero_4 σ a z2.1 z2.2) (0, 0)
theorem t_X6_tailsAboveZero {w : Wd} (hw : WOK w) {σ : Mem} {a : Nat} (ha : isk w a 6) : JO w mu_X6_tailsAboveZero vI σ [(0, .ref (adr w a))] [] 0 (f_X6_tailsAboveZero σ a) (fun z => some (z, σ)) := by
  unfold f_X6_tailsAboveZero
  refine jo_iconst (pc := 0) dX6_tailsAboveZero_0 (ic_i_0) ?_
  refine jo_istore_n (pc := 1) (lv' := [(1, .int 0), (0, .ref (adr w a))]) dX6_tailsAboveZero_1 rfl (ltb rfl) rfl ?_
  refine jo_iconst (pc := 2) dX6_tailsAboveZero_2 (ic_i_0) ?_
  refine jo_istore_n (pc := 3) (lv' := [(2, .int 0), (1, .int 0), (0, .ref (adr w a))]) dX6_tailsAboveZero_3 rfl (ltb rfl) rfl ?_
  refine jo_lv (lv' := [(0, .ref (adr w a)), (1, .int 0), (2, .int 0)]) [2, 1, 0] rfl ?_
  refine jo_loop (X := Int32) (fun (z2 : (Int32 × Int32)) => σ) (fun (z2 : (Int32 × Int32)) => [(0, .ref (adr w a)), (1, .int z2.1), (2, .int z2.2)]) (body := (fun (z2 : (Int32 × Int32)) => l_X6_tailsAboveZero_4 σ a z2.1 z2.2)) (fun F4_2 hF4_2 s => ?_) (0, 0)
  obtain ⟨i1, i2⟩ := s
  show JO w mu_X6_tailsAboveZero vI σ [(0, .ref (adr w a)), (1, .int i1), (2, .int i2)] [] 4 (l_X6_tailsAboveZero_4 σ a i1 i2) _
  unfold l_X6_tailsAboveZero_4
  refine jo_iload_n (pc := 4) 2 rfl dX6_tailsAboveZero_4 rfl ?_
  refine jo_aload_n (pc := 5) 0 rfl dX6_tailsAboveZero_5 rfl ?_
  refine jo_getr (pc := 6) ok_6_2 (ha) gw_206 dX6_tailsAboveZero_6 ?_
  refine jo_alenI (pc := 9) (wf_6_2 hw (ha)) (by decide) (t := 0) rfl dX6_tailsAboveZero_9 ?_
  refine jo_icmp_ge (pc := 10) dX6_tailsAboveZero_10 (tgt := 36) rfl ?_ ?_
  · refine jo_iload_n (pc := 36) 1 rfl dX6_tailsAboveZero_36 rfl ?_
    exact jo_ireturn (pc := 37) rfl rfl dX6_tailsAboveZero_37
  · refine jo_iload_n (pc := 13) 1 rfl dX6_tailsAboveZero_13 rfl ?_
    refine jo_aload_n (pc := 14) 0 rfl dX6_tailsAboveZero_14 rfl ?_
    refine jo_getr (pc := 15) ok_6_2 (ha) gw_206 dX6_tailsAboveZero_15 ?_
    refine jo_iload_n (pc := 18) 2 rfl dX6_tailsAboveZero_18 rfl ?_
    refine jo_iald (pc := 19) (wf_6_2 hw (ha)) dX6_tailsAboveZero_19 (fun v3 => ?_)
    refine jo_join1 (S := Bool) (fun (z4 : Bool) => σ) (fun (z4 : Bool) => [(0, .ref (adr w a)), (2, .int i2)]) (fun (z4 : Bool) => [.int (b2i z4), .int i1]) 28 ?_ (fun h28_4 => ?_)
    · intro b4
      show JO w mu_X6_tailsAboveZero vI σ [(0, .ref (adr w a)), (2, .int i2)] [.int (b2i b4), .int i1] 28 (j_X6_tailsAboveZero_28 i1 i2 b4) _
      unfold j_X6_tailsAboveZero_28
      refine jo_iadd (pc := 28) dX6_tailsAboveZero_28 ?_
      refine jo_bd ?_
      refine jo_istore_n (pc := 29) (lv' := [(1, .int (i1 + (b2i b4))), (0, .ref (adr w a)), (2, .int i2)]) dX6_tailsAboveZero_29 rfl (ltb rfl) rfl ?_
      generalize (i1 + (b2i b4)) = v5
      refine jo_iinc (pc := 30) (lv' := [(2, .int (i2 + 1)), (1, .int v5), (0, .ref (adr w a))]) 2 rfl dX6_tailsAboveZero_30 (congrArg (fun z => i2 + z) (ic_i_1)) (ltb rfl) rfl ?_
      refine jo_goto (pc := 33) dX6_tailsAboveZero_33 (tgt := 4) rfl ?_
      refine jo_lv (lv' := [(0, .ref (adr w a)), (1, .int v5), (2, .int (i2 + 1))]) [2, 1, 0] rfl ?_
      exact jo_leaf (by rfl) (hF4_2 (v5, i2 + 1))
    · refine jo_if_le (pc := 20) dX6_tailsAboveZero_20 (tgt := 27) rfl ?_ ?_
      · refine jo_iconst (pc := 27) dX6_tailsAboveZero_27 (ic_i_0) ?_
        refine jo_lv (lv' := [(0, .ref (adr w a)), (2, .int i2)]) [0, 2] rfl ?_
        exact jo_leaf (by rfl) (h28_4 false)
      · refine jo_iconst (pc := 23) dX6_tailsAboveZero_23 (ic_i_1) ?_
        refine jo_goto (pc := 24) dX6_tailsAboveZero_24 (tgt := 28) rfl ?_
        refine jo_lv (lv' := [(0, .ref (adr w a)), (2, .int i2)]) [0, 2] rfl ?_
        exact jo_leaf (by rfl) (h28_4 true)
theorem c_X6_tailsAboveZero {w : Wd} (hw : WOK w) {σ : Mem} {a : Nat} (ha : isk w a 6) : ∀ r, f_X6_tailsAboveZero σ a = some r → MC w mu_X6_tailsAboveZero (vI r) [.ref (adr w a)] σ σ := mc_ofP ok_X6_tailsAboveZero rfl (Nat.le_of_ble_eq_true rfl) (t_X6_tailsAboveZero hw ha)
abbrev mu_X6_isCentral : MD := (yX6_isCentral, cX6_isCentral, 4, some .boolean, 2)
theorem ok_X6_isCentral : MOK mu_X6_isCentral 1 := ⟨gw_750, gw_160, (by decide +kernel : plainFor yX6_isCentral = true), ⟨(by decide +kernel : yX6_isCentral.cls ≠ "java/lang/invoke/MethodHandle"), (by decide +kernel : yX6_isCentral.cls ≠ "java/lang/invoke/VarHandle"), (by decide +kernel : (parseMethodDescriptor yX6_isCentral.desc).map (fun d => d.parameters.length) = some 1)⟩, Nat.le_of_ble_eq_true rfl⟩
noncomputable def j_X6_isCentral_46 (i1 : Int32) : Option (Int32 ⊕ Bool) :=
  some (Sum.inl (i1 + 1))
noncomputable def l_X6_isCentral_12 (σ : Mem) (a : Nat) (x0 : Int32) (i1 : Int32) (i3 : Int32) : Option (Int32 ⊕ (Unit ⊕ (Int32 ⊕ Bool))) :=
  gF σ a 0 (fun (v4 : Int32) => if v4 ≤ i3 then (some (Sum.inr (Sum.inl ()))) else ((f_J9_max_7cf53 σ i1 x0).bind (fun (v5 : Int32) => (f_J9_min_7cf53 σ i1 x0).bind (fun (v6 : Int32) => (f_X6_read σ a v5 v6 i3).bind (fun (v7 : Int32) => if v7 = 0 then (some (Sum.inl (i3 + 1))) else (some (Sum.inr (Sum.inr (Sum.inr false)))))))))
noncomputable def l_X6_isCentral_2 (σ : Mem) (a : Nat) (x0 : Int32) (i1 : Int32) : Option (Int32 ⊕ Bool) :=
  gF σ a 0 (fun (v2 : Int32) => if v2 ≤ i1 then (some (Sum.inr true)) else ((loopO (fun (z3 : Int32) => l_X6_isCentral_12 σ a x0 i1 z3) 0 : Option (Unit ⊕ (Int32 ⊕ Bool))).bind (Sum.elim (fun (z2 : Unit) => j_X6_isCentral_46 i1) some)))
noncomputable def f_X6_isCentral (σ : Mem) (a : Nat) (x0 : Int32) : Option Bool :=
  loopO (fun (z1 : Int32) => l_X6_isCentral_2 σ a x0 z1) 0
theorem t_X6_isCentral {w : Wd} (hw : WOK w) {σ : Mem} {a : Nat} {x0 : Int32} (ha : isk w a 6) : JO w mu_X6_isCentral vB σ [(0, .ref (adr w a)), (1, .int x0)] [] 0 (f_X6_isCentral σ a x0) (fun z => some (z, σ)) := by
  unfold f_X6_isCentral
  refine jo_iconst (pc := 0) dX6_isCentral_0 (ic_i_0) ?_
  refine jo_istore_n (pc := 1) (lv' := [(2, .int 0), (0, .ref (adr w a)), (1, .int x0)]) dX6_isCentral_1 rfl (ltb rfl) rfl ?_
  refine jo_lv (lv' := [(0, .ref (adr w a)), (1, .int x0), (2, .int 0)]) [1, 2, 0] rfl ?_
  refine jo_loop (X := Bool) (fun (z1 : Int32) => σ) (fun (z1 : Int32) => [(0, .ref (adr w a)), (1, .int x0), (2, .int z1)]) (body := (fun (z1 : Int32) => l_X6_isCentral_2 σ a x0 z1)) (fun F2_1 hF2_1 s => ?_) 0
  revert s; intro i1
  show JO w mu_X6_isCentral vB σ [(0, .ref (adr w a)), (1, .int x0), (2, .int i1)] [] 2 (l_X6_isCentral_2 σ a x0 i1) _
  unfold l_X6_isCentral_2
  refine jo_iload_n (pc := 2) 2 rfl dX6_isCentral_2 rfl ?_
  refine jo_aload_n (pc := 3) 0 rfl dX6_isCentral_3 rfl ?_
  refine jo_getf (pc := 4) ok_6_0 (ha) gw_193 dX6_isCentral_4 (fun v2 => ?_)
  refine jo_icmp_ge (pc := 7) dX6_isCentral_7 (tgt := 52) rfl ?_ ?_
  · refine jo_iconst (pc := 52) dX6_isCentral_52 (ic_i_1) ?_
    exact jo_breturn (pc := 53) (b := true) rfl rfl dX6_isCentral_53
  · refine jo_iconst (pc := 10) dX6_isCentral_10 (ic_i_0) ?_
    refine jo_istore_n (pc := 11) (lv' := [(3, .int 0), (0, .ref (adr w a)), (1, .int x0), (2, .int i1)]) dX6_isCentral_11 rfl (ltb rfl) rfl ?_
    refine jo_joinS (S := Unit) (fun (z2 : Unit) => σ) (fun (z2 : Unit) => [(0, .ref (adr w a)), (1, .int x0), (2, .int i1)]) (fun (z2 : Unit) => []) 46 ?_ (fun h46_2 => ?_)
    · intro _
      show JO w mu_X6_isCentral vB σ [(0, .ref (adr w a)), (1, .int x0), (2, .int i1)] [] 46 (j_X6_isCentral_46 i1) _
      unfold j_X6_isCentral_46
      refine jo_iinc (pc := 46) (lv' := [(2, .int (i1 + 1)), (0, .ref (adr w a)), (1, .int x0)]) 2 rfl dX6_isCentral_46 (congrArg (fun z => i1 + z) (ic_i_1)) (ltb rfl) rfl ?_
      refine jo_goto (pc := 49) dX6_isCentral_49 (tgt := 2) rfl ?_
      refine jo_lv (lv' := [(0, .ref (adr w a)), (1, .int x0), (2, .int (i1 + 1))]) [1, 2, 0] rfl ?_
      exact jo_leaf (by rfl) (hF2_1 (i1 + 1))
    · refine jo_lv (lv' := [(0, .ref (adr w a)), (1, .int x0), (2, .int i1), (3, .int 0)]) [1, 2, 3, 0] rfl ?_
      refine jo_loop (X := Unit ⊕ (Int32 ⊕ Bool)) (fun (z3 : Int32) => σ) (fun (z3 : Int32) => [(0, .ref (adr w a)), (1, .int x0), (2, .int i1), (3, .int z3)]) (body := (fun (z3 : Int32) => l_X6_isCentral_12 σ a x0 i1 z3)) (fun F12_3 hF12_3 s => ?_) 0
      revert s; intro i3
      show JO w mu_X6_isCentral vB σ [(0, .ref (adr w a)), (1, .int x0), (2, .int i1), (3, .int i3)] [] 12 (l_X6_isCentral_12 σ a x0 i1 i3) _
      unfold l_X6_isCentral_12
      refine jo_iload_n (pc := 12) 3 rfl dX6_isCentral_12 rfl ?_
      refine jo_aload_n (pc := 13) 0 rfl dX6_isCentral_13 rfl ?_
      refine jo_getf (pc := 14) ok_6_0 (ha) gw_193 dX6_isCentral_14 (fun v4 => ?_)
      refine jo_icmp_ge (pc := 17) dX6_isCentral_17 (tgt := 46) rfl ?_ ?_
      · refine jo_lv (lv' := [(0, .ref (adr w a)), (1, .int x0), (2, .int i1)]) [0, 1, 2] rfl ?_
        exact jo_leaf (by rfl) (h46_2 ())
      · refine jo_aload_n (pc := 20) 0 rfl dX6_isCentral_20 rfl ?_
        refine jo_iload_n (pc := 21) 2 rfl dX6_isCentral_21 rfl ?_
        refine jo_iload_n (pc := 22) 1 rfl dX6_isCentral_22 rfl ?_
        refine jo_cS_I_p (pc := 23) (μ' := mu_J9_max_7cf53) (fx := f_J9_max_7cf53 σ i1 x0) (As := [.int i1, .int x0]) (c_J9_max_7cf53 hw) (ok_J9_max_7cf53) (ltb rfl) (all2 gw_751 gw_752) rfl rfl (Nat.le_of_ble_eq_true rfl) dX6_isCentral_23 (fun v5 => ?_)
        refine jo_iload_n (pc := 26) 2 rfl dX6_isCentral_26 rfl ?_
        refine jo_iload_n (pc := 27) 1 rfl dX6_isCentral_27 rfl ?_
        refine jo_cS_I_p (pc := 28) (μ' := mu_J9_min_7cf53) (fx := f_J9_min_7cf53 σ i1 x0) (As := [.int i1, .int x0]) (c_J9_min_7cf53 hw) (ok_J9_min_7cf53) (ltb rfl) (all2 gw_754 gw_708) rfl rfl (Nat.le_of_ble_eq_true rfl) dX6_isCentral_28 (fun v6 => ?_)
        refine jo_iload_n (pc := 31) 3 rfl dX6_isCentral_31 rfl ?_
        refine jo_cV_I_p (pc := 32) (μ' := mu_X6_read) (fx := f_X6_read σ a v5 v6 i3) (As := [.int v5, .int v6, .int i3]) (c_X6_read hw (ha)) (ok_X6_read) (ltb rfl) (all3 gw_755 gw_569 gw_570) (ha) (by decide) (q := (RX6, TX6, 3)) rfl rfl rfl rfl (Nat.le_of_ble_eq_true rfl) dX6_isCentral_32 (fun v7 => ?_)
        refine jo_if_eq (pc := 35) dX6_isCentral_35 (tgt := 40) rfl ?_ ?_
        · refine jo_iinc (pc := 40) (lv' := [(3, .int (i3 + 1)), (0, .ref (adr w a)), (1, .int x0), (2, .int i1)]) 3 rfl dX6_isCentral_40 (congrArg (fun z => i3 + z) (ic_i_1)) (ltb rfl) rfl ?_
          refine jo_goto (pc := 43) dX6_isCentral_43 (tgt := 12) rfl ?_
          refine jo_lv (lv' := [(0, .ref (adr w a)), (1, .int x0), (2, .int i1), (3, .int (i3 + 1))]) [1, 2, 3, 0] rfl ?_
          exact jo_leaf (by rfl) (hF12_3 (i3 + 1))
        · refine jo_iconst (pc := 38) dX6_isCentral_38 (ic_i_0) ?_
          exact jo_breturn (pc := 39) (b := false) rfl rfl dX6_isCentral_39
theorem c_X6_isCentral {w : Wd} (hw : WOK w) {σ : Mem} {a : Nat} {x0 : Int32} (ha : isk w a 6) : ∀ r, f_X6_isCentral σ a x0 = some r → MC w mu_X6_isCentral (vB r) [.ref (adr w a), .int x0] σ σ := mc_ofP ok_X6_isCentral rfl (Nat.le_of_ble_eq_true rfl) (t_X6_isCentral hw ha)
abbrev mu_X6_countOf : MD := (yX6_countOf, cX6_countOf, 4, some .int, 0)
theorem ok_X6_countOf : MOK mu_X6_countOf 1 := ⟨gw_1192, gw_160, (by decide +kernel : plainFor yX6_countOf = true), ⟨(by decide +kernel : yX6_countOf.cls ≠ "java/lang/invoke/MethodHandle"), (by decide +kernel : yX6_countOf.cls ≠ "java/lang/invoke/VarHandle"), (by decide +kernel : (parseMethodDescriptor yX6_countOf.desc).map (fun d => d.parameters.length) = some 1)⟩, Nat.le_of_ble_eq_true rfl⟩
noncomputable def j_X6_countOf_28 (i1 : Int32) (i2 : Int32) (b5 : Bool) : Option ((Int32 × Int32) ⊕ Int32) :=
  bd (i1 + (b2i b5)) (fun (v6 : Int32) => some (Sum.inl (v6, i2 + 1)))
noncomputable def l_X6_countOf_4 (σ : Mem) (a : Nat) (x0 : Int32) (i1 : Int32) (i2 : Int32) : Option ((Int32 × Int32) ⊕ Int32) :=
  gF σ a 0 (fun (v3 : Int32) => if v3 ≤ i2 then (some (Sum.inr i1)) else (gI σ (rf a 1) i2 (fun (v4 : Int32) => (if v4 = x0 then (some true) else (some false) : Option Bool).bind (fun (z5 : Bool) => j_X6_countOf_28 i1 i2 z5))))
noncomputable def f_X6_countOf (σ : Mem) (a : Nat) (x0 : Int32) : Option Int32 :=
  loopO (fun (z2 : (Int32 × Int32)) => l_X6_countOf_4 σ a x0 z2.1 z2.2) (0, 0)
theorem t_X6_countOf {w : Wd} (hw : WOK w) {σ : Mem} {a : Nat} {x0 : Int32} (ha : isk w a 6) : JO w mu_X6_countOf vI σ [(0, .ref (adr w a)), (1, .int x0)] [] 0 (f_X6_countOf σ a x0) (fun z => some (z, σ)) := by
  unfold f_X6_countOf
  refine jo_iconst (pc := 0) dX6_countOf_0 (ic_i_0) ?_
  refine jo_istore_n (pc := 1) (lv' := [(2, .int 0), (0, .ref (adr w a)), (1, .int x0)]) dX6_countOf_1 rfl (ltb rfl) rfl ?_
  refine jo_iconst (pc := 2) dX6_countOf_2 (ic_i_0) ?_
  refine jo_istore_n (pc := 3) (lv' := [(3, .int 0), (2, .int 0), (0, .ref (adr w a)), (1, .int x0)]) dX6_countOf_3 rfl (ltb rfl) rfl ?_
  refine jo_lv (lv' := [(0, .ref (adr w a)), (1, .int x0), (2, .int 0), (3, .int 0)]) [2, 3, 1, 0] rfl ?_
  refine jo_loop (X := Int32) (fun (z2 : (Int32 × Int32)) => σ) (fun (z2 : (Int32 × Int32)) => [(0, .ref (adr w a)), (1, .int x0), (2, .int z2.1), (3, .int z2.2)]) (body := (fun (z2 : (Int32 × Int32)) => l_X6_countOf_4 σ a x0 z2.1 z2.2)) (fun F4_2 hF4_2 s => ?_) (0, 0)
  obtain ⟨i1, i2⟩ := s
  show JO w mu_X6_countOf vI σ [(0, .ref (adr w a)), (1, .int x0), (2, .int i1), (3, .int i2)] [] 4 (l_X6_countOf_4 σ a x0 i1 i2) _
  unfold l_X6_countOf_4
  refine jo_iload_n (pc := 4) 3 rfl dX6_countOf_4 rfl ?_
  refine jo_aload_n (pc := 5) 0 rfl dX6_countOf_5 rfl ?_
  refine jo_getf (pc := 6) ok_6_0 (ha) gw_193 dX6_countOf_6 (fun v3 => ?_)
  refine jo_icmp_ge (pc := 9) dX6_countOf_9 (tgt := 36) rfl ?_ ?_
  · refine jo_iload_n (pc := 36) 2 rfl dX6_countOf_36 rfl ?_
    exact jo_ireturn (pc := 37) rfl rfl dX6_countOf_37
  · refine jo_iload_n (pc := 12) 2 rfl dX6_countOf_12 rfl ?_
    refine jo_aload_n (pc := 13) 0 rfl dX6_countOf_13 rfl ?_
    refine jo_getr (pc := 14) ok_6_1 (ha) gw_200 dX6_countOf_14 ?_
    refine jo_iload_n (pc := 17) 3 rfl dX6_countOf_17 rfl ?_
    refine jo_iald (pc := 18) (wf_6_1 hw (ha)) dX6_countOf_18 (fun v4 => ?_)
    refine jo_iload_n (pc := 19) 1 rfl dX6_countOf_19 rfl ?_
    refine jo_join1 (S := Bool) (fun (z5 : Bool) => σ) (fun (z5 : Bool) => [(0, .ref (adr w a)), (1, .int x0), (3, .int i2)]) (fun (z5 : Bool) => [.int (b2i z5), .int i1]) 28 ?_ (fun h28_5 => ?_)
    · intro b5
      show JO w mu_X6_countOf vI σ [(0, .ref (adr w a)), (1, .int x0), (3, .int i2)] [.int (b2i b5), .int i1] 28 (j_X6_countOf_28 i1 i2 b5) _
      unfold j_X6_countOf_28
      refine jo_iadd (pc := 28) dX6_countOf_28 ?_
      refine jo_bd ?_
      refine jo_istore_n (pc := 29) (lv' := [(2, .int (i1 + (b2i b5))), (0, .ref (adr w a)), (1, .int x0), (3, .int i2)]) dX6_countOf_29 rfl (ltb rfl) rfl ?_
      generalize (i1 + (b2i b5)) = v6
      refine jo_iinc (pc := 30) (lv' := [(3, .int (i2 + 1)), (2, .int v6), (0, .ref (adr w a)), (1, .int x0)]) 3 rfl dX6_countOf_30 (congrArg (fun z => i2 + z) (ic_i_1)) (ltb rfl) rfl ?_
      refine jo_goto (pc := 33) dX6_countOf_33 (tgt := 4) rfl ?_
      refine jo_lv (lv' := [(0, .ref (adr w a)), (1, .int x0), (2, .int v6), (3, .int (i2 + 1))]) [2, 3, 1, 0] rfl ?_
      exact jo_leaf (by rfl) (hF4_2 (v6, i2 + 1))
    · refine jo_icmp_ne (pc := 20) dX6_countOf_20 (tgt := 27) rfl ?_ ?_
      · refine jo_iconst (pc := 27) dX6_countOf_27 (ic_i_0) ?_
        refine jo_lv (lv' := [(0, .ref (adr w a)), (1, .int x0), (3, .int i2)]) [0, 1, 3] rfl ?_
        exact jo_leaf (by rfl) (h28_5 false)
      · refine jo_iconst (pc := 23) dX6_countOf_23 (ic_i_1) ?_
        refine jo_goto (pc := 24) dX6_countOf_24 (tgt := 28) rfl ?_
        refine jo_lv (lv' := [(0, .ref (adr w a)), (1, .int x0), (3, .int i2)]) [0, 1, 3] rfl ?_
        exact jo_leaf (by rfl) (h28_5 true)
theorem c_X6_countOf {w : Wd} (hw : WOK w) {σ : Mem} {a : Nat} {x0 : Int32} (ha : isk w a 6) : ∀ r, f_X6_countOf σ a x0 = some r → MC w mu_X6_countOf (vI r) [.ref (adr w a), .int x0] σ σ := mc_ofP ok_X6_countOf rfl (Nat.le_of_ble_eq_true rfl) (t_X6_countOf hw ha)
abbrev mu_X9_factors : MD := (yX9_factors, cX9_factors, 2, some .long, 0)
theorem ok_X9_factors : MOK mu_X9_factors 2 := ⟨gw_918, gw_163, (by decide +kernel : plainFor yX9_factors = true), ⟨(by decide +kernel : yX9_factors.cls ≠ "java/lang/invoke/MethodHandle"), (by decide +kernel : yX9_factors.cls ≠ "java/lang/invoke/VarHandle"), (by decide +kernel : (parseMethodDescriptor yX9_factors.desc).map (fun d => d.parameters.length) = some 2)⟩, Nat.le_of_ble_eq_true rfl⟩
noncomputable def f_X9_factors (σ : Mem) (x0 : Int32) (x1 : Nat) : Option Int64 :=
  gL σ x1 (x0 &&& 63) (fun (v1 : Int64) => gL σ x1 ((x0 >>> (6 &&& 31)) &&& 63) (fun (v2 : Int64) => gL σ x1 ((x0 >>> (12 &&& 31)) &&& 63) (fun (v3 : Int64) => some ((v1 * v2) * v3))))
theorem t_X9_factors {w : Wd} (hw : WOK w) {σ : Mem} {x0 : Int32} {x1 : Nat} (hx1 : isk w x1 13) : JO w mu_X9_factors vL σ [(0, .int x0), (1, .ref (adr w x1))] [] 0 (f_X9_factors σ x0 x1) (fun z => some (z, σ)) := by
  unfold f_X9_factors
  refine jo_aload_n (pc := 0) 1 rfl dX9_factors_0 rfl ?_
  refine jo_iload_n (pc := 1) 0 rfl dX9_factors_1 rfl ?_
  refine jo_bipush (pc := 2) dX9_factors_2 (ic_b_63) ?_
  refine jo_iand (pc := 4) dX9_factors_4 ?_
  refine jo_lald (pc := 5) (hx1) dX9_factors_5 (fun v1 => ?_)
  refine jo_aload_n (pc := 6) 1 rfl dX9_factors_6 rfl ?_
  refine jo_iload_n (pc := 7) 0 rfl dX9_factors_7 rfl ?_
  refine jo_bipush (pc := 8) dX9_factors_8 (ic_b_6) ?_
  refine jo_ishr (pc := 10) dX9_factors_10 ?_
  refine jo_bipush (pc := 11) dX9_factors_11 (ic_b_63) ?_
  refine jo_iand (pc := 13) dX9_factors_13 ?_
  refine jo_lald (pc := 14) (hx1) dX9_factors_14 (fun v2 => ?_)
  refine jo_lmul (pc := 15) dX9_factors_15 ?_
  refine jo_aload_n (pc := 16) 1 rfl dX9_factors_16 rfl ?_
  refine jo_iload_n (pc := 17) 0 rfl dX9_factors_17 rfl ?_
  refine jo_bipush (pc := 18) dX9_factors_18 (ic_b_12) ?_
  refine jo_ishr (pc := 20) dX9_factors_20 ?_
  refine jo_bipush (pc := 21) dX9_factors_21 (ic_b_63) ?_
  refine jo_iand (pc := 23) dX9_factors_23 ?_
  refine jo_lald (pc := 24) (hx1) dX9_factors_24 (fun v3 => ?_)
  refine jo_lmul (pc := 25) dX9_factors_25 ?_
  exact jo_lreturn (pc := 26) rfl rfl dX9_factors_26
theorem c_X9_factors {w : Wd} (hw : WOK w) {σ : Mem} {x0 : Int32} {x1 : Nat} (hx1 : isk w x1 13) : ∀ r, f_X9_factors σ x0 x1 = some r → MC w mu_X9_factors (vL r) [.int x0, .ref (adr w x1)] σ σ := mc_ofP ok_X9_factors rfl (Nat.le_of_ble_eq_true rfl) (t_X9_factors hw hx1)
abbrev mu_X9_merge : MD := (yX9_merge, cX9_merge, 5, none, 3)
theorem ok_X9_merge : MOK mu_X9_merge 2 := ⟨gw_922, gw_163, (by decide +kernel : plainFor yX9_merge = true), ⟨(by decide +kernel : yX9_merge.cls ≠ "java/lang/invoke/MethodHandle"), (by decide +kernel : yX9_merge.cls ≠ "java/lang/invoke/VarHandle"), (by decide +kernel : (parseMethodDescriptor yX9_merge.desc).map (fun d => d.parameters.length) = some 2)⟩, Nat.le_of_ble_eq_true rfl⟩
noncomputable def j_X9_merge_48 (σ : Mem) (a : Nat) (x0 : Int32) (x1 : Int64) : Option Mem :=
  (f_X9_append σ a x0 x1).bind (fun (σ1 : Mem) => some σ1)
noncomputable def j_X9_merge_30 (σ : Mem) (a : Nat) (x1 : Int64) (i2 : Int32) : Option (Unit ⊕ Mem) :=
  gL σ (rf a 2) i2 (fun (v3 : Int64) => pL σ (rf a 2) i2 (v3 + x1) (fun (σ4 : Mem) => some (Sum.inr σ4)))
noncomputable def l_X9_merge_10 (σ : Mem) (a : Nat) (x0 : Int32) (i5 : Int32) : Option (Int32 ⊕ (Int32 ⊕ (Unit ⊕ Mem))) :=
  gF σ a 0 (fun (v6 : Int32) => if v6 ≤ i5 then (some (Sum.inr (Sum.inr (Sum.inl ())))) else (gI σ (rf a 1) i5 (fun (v7 : Int32) => if v7 = x0 then (some (Sum.inr (Sum.inl i5))) else (some (Sum.inl (i5 + 1))))))
noncomputable def f_X9_merge (σ : Mem) (a : Nat) (x0 : Int32) (x1 : Int64) : Option Mem :=
  if x1 = 0 then (some σ) else (((loopO (fun (z5 : Int32) => l_X9_merge_10 σ a x0 z5) 0 : Option (Int32 ⊕ (Unit ⊕ Mem))).bind (Sum.elim (fun (z2 : Int32) => j_X9_merge_30 σ a x1 z2) some) : Option (Unit ⊕ Mem)).bind (Sum.elim (fun (z0 : Unit) => j_X9_merge_48 σ a x0 x1) some))
theorem t_X9_merge {w : Wd} (hw : WOK w) {σ : Mem} {a : Nat} {x0 : Int32} {x1 : Int64} (ha : isk w a 9) : JO w mu_X9_merge vV σ [(0, .ref (adr w a)), (1, .int x0), (2, .long x1)] [] 0 (f_X9_merge σ a x0 x1) (fun z => some ((), z)) := by
  unfold f_X9_merge
  refine jo_lload_n (pc := 0) 2 rfl dX9_merge_0 rfl ?_
  refine jo_lconst (pc := 1) dX9_merge_1 (ic_l_0) ?_
  refine jo_lcmp_ne (pc := 2) dX9_merge_2 dX9_merge_3 (tgt := 7) rfl ?_ ?_
  · refine jo_iconst (pc := 7) dX9_merge_7 (ic_i_0) ?_
    refine jo_istore (pc := 8) (lv' := [(4, .int 0), (0, .ref (adr w a)), (1, .int x0), (2, .long x1)]) dX9_merge_8 (ltb rfl) rfl ?_
    refine jo_joinS (S := Unit) (fun (z0 : Unit) => σ) (fun (z0 : Unit) => [(0, .ref (adr w a)), (1, .int x0), (2, .long x1)]) (fun (z0 : Unit) => []) 48 ?_ (fun h48_0 => ?_)
    · intro _
      show JO w mu_X9_merge vV σ [(0, .ref (adr w a)), (1, .int x0), (2, .long x1)] [] 48 (j_X9_merge_48 σ a x0 x1) _
      unfold j_X9_merge_48
      refine jo_aload_n (pc := 48) 0 rfl dX9_merge_48 rfl ?_
      refine jo_iload_n (pc := 49) 1 rfl dX9_merge_49 rfl ?_
      refine jo_lload_n (pc := 50) 2 rfl dX9_merge_50 rfl ?_
      refine jo_cV_V_i (pc := 51) (μ' := mu_X9_append) (fx := f_X9_append σ a x0 x1) (As := [.int x0, .long x1]) (c_X9_append hw (ha)) (ok_X9_append) (ltb rfl) (all3 gw_923 gw_622 gw_623) (ha) (by decide) (q := (RX9, TX9, 4)) rfl rfl rfl rfl (Nat.le_of_ble_eq_true rfl) dX9_merge_51 (fun σ1 => ?_)
      exact jo_return (pc := 54) rfl rfl dX9_merge_54
    · refine jo_joinS (S := Int32) (fun (z2 : Int32) => σ) (fun (z2 : Int32) => [(0, .ref (adr w a)), (2, .long x1), (4, .int z2)]) (fun (z2 : Int32) => []) 30 ?_ (fun h30_2 => ?_)
      · intro i2
        show JO w mu_X9_merge vV σ [(0, .ref (adr w a)), (2, .long x1), (4, .int i2)] [] 30 (j_X9_merge_30 σ a x1 i2) _
        unfold j_X9_merge_30
        refine jo_aload_n (pc := 30) 0 rfl dX9_merge_30 rfl ?_
        refine jo_getr (pc := 31) ok_9_2 (ha) gw_286 dX9_merge_31 ?_
        refine jo_iload (pc := 34) 2 rfl dX9_merge_34 ?_
        refine jo_dup2 (pc := 36) dX9_merge_36 rfl rfl ?_
        refine jo_lald (pc := 37) (wf_9_2 hw (ha)) dX9_merge_37 (fun v3 => ?_)
        refine jo_lload_n (pc := 38) 1 rfl dX9_merge_38 rfl ?_
        refine jo_ladd (pc := 39) dX9_merge_39 ?_
        refine jo_last (pc := 40) (wf_9_2 hw (ha)) dX9_merge_40 (fun σ4 => ?_)
        exact jo_return (pc := 41) rfl rfl dX9_merge_41
      · refine jo_lv (lv' := [(0, .ref (adr w a)), (1, .int x0), (2, .long x1), (4, .int 0)]) [1, 2, 3, 0] rfl ?_
        refine jo_loop (X := Int32 ⊕ (Unit ⊕ Mem)) (fun (z5 : Int32) => σ) (fun (z5 : Int32) => [(0, .ref (adr w a)), (1, .int x0), (2, .long x1), (4, .int z5)]) (body := (fun (z5 : Int32) => l_X9_merge_10 σ a x0 z5)) (fun F10_5 hF10_5 s => ?_) 0
        revert s; intro i5
        show JO w mu_X9_merge vV σ [(0, .ref (adr w a)), (1, .int x0), (2, .long x1), (4, .int i5)] [] 10 (l_X9_merge_10 σ a x0 i5) _
        unfold l_X9_merge_10
        refine jo_iload (pc := 10) 3 rfl dX9_merge_10 ?_
        refine jo_aload_n (pc := 12) 0 rfl dX9_merge_12 rfl ?_
        refine jo_getf (pc := 13) ok_9_0 (ha) gw_279 dX9_merge_13 (fun v6 => ?_)
        refine jo_icmp_ge (pc := 16) dX9_merge_16 (tgt := 48) rfl ?_ ?_
        · refine jo_lv (lv' := [(0, .ref (adr w a)), (1, .int x0), (2, .long x1)]) [0, 1, 2] rfl ?_
          exact jo_leaf (by rfl) (h48_0 ())
        · refine jo_aload_n (pc := 19) 0 rfl dX9_merge_19 rfl ?_
          refine jo_getr (pc := 20) ok_9_1 (ha) gw_283 dX9_merge_20 ?_
          refine jo_iload (pc := 23) 3 rfl dX9_merge_23 ?_
          refine jo_iald (pc := 25) (wf_9_1 hw (ha)) dX9_merge_25 (fun v7 => ?_)
          refine jo_iload_n (pc := 26) 1 rfl dX9_merge_26 rfl ?_
          refine jo_icmp_ne (pc := 27) dX9_merge_27 (tgt := 42) rfl ?_ ?_
          · refine jo_iinc (pc := 42) (lv' := [(4, .int (i5 + 1)), (0, .ref (adr w a)), (1, .int x0), (2, .long x1)]) 3 rfl dX9_merge_42 (congrArg (fun z => i5 + z) (ic_i_1)) (ltb rfl) rfl ?_
            refine jo_goto (pc := 45) dX9_merge_45 (tgt := 10) rfl ?_
            refine jo_lv (lv' := [(0, .ref (adr w a)), (1, .int x0), (2, .long x1), (4, .int (i5 + 1))]) [1, 2, 3, 0] rfl ?_
            exact jo_leaf (by rfl) (hF10_5 (i5 + 1))
          · refine jo_lv (lv' := [(0, .ref (adr w a)), (2, .long x1), (4, .int i5)]) [0, 2, 3] rfl ?_
            exact jo_leaf (by rfl) (h30_2 i5)
  · exact jo_return (pc := 6) rfl rfl dX9_merge_6
theorem c_X9_merge {w : Wd} (hw : WOK w) {σ : Mem} {a : Nat} {x0 : Int32} {x1 : Int64} (ha : isk w a 9) : ∀ σ', f_X9_merge σ a x0 x1 = some σ' → MC w mu_X9_merge none [.ref (adr w a), .int x0, .long x1] σ σ' := mc_ofV ok_X9_merge rfl (Nat.le_of_ble_eq_true rfl) (t_X9_merge hw ha)
abbrev mu_X7_findGap : MD := (yX7_findGap, cX7_findGap, 6, none, 4)
theorem ok_X7_findGap : MOK mu_X7_findGap 2 := ⟨gw_913, gw_165, (by decide +kernel : plainFor yX7_findGap = true), ⟨(by decide +kernel : yX7_findGap.cls ≠ "java/lang/invoke/MethodHandle"), (by decide +kernel : yX7_findGap.cls ≠ "java/lang/invoke/VarHandle"), (by decide +kernel : (parseMethodDescriptor yX7_findGap.desc).map (fun d => d.parameters.length) = some 2)⟩, Nat.le_of_ble_eq_true rfl⟩
noncomputable def l_X7_findGap_2 (x0 : Nat) (x1 : Nat) (σ1 : Mem) (i2 : Int32) : Option ((Mem × Int32) ⊕ Mem) :=
  gF σ1 x0 0 (fun (v3 : Int32) => if v3 ≤ i2 then (some (Sum.inr σ1)) else (gI σ1 (rf x0 1) i2 (fun (v4 : Int32) => bd (v4 &&& 16773120) (fun (v5 : Int32) => gI σ1 (rf x0 1) i2 (fun (v6 : Int32) => bd (v6 &&& 4095) (fun (v7 : Int32) => gL σ1 (rf x0 2) i2 (fun (v8 : Int64) => (f_X9_placesOf σ1 v5).bind (fun (v9 : Int32) => (f_X9_factors σ1 v9 100).bind (fun (v10 : Int64) => (f_X9_merge σ1 x1 (v7 <<< (12 &&& 31)) (v8 * v10)).bind (fun (σ11 : Mem) => gL σ11 (rf x0 2) i2 (fun (v12 : Int64) => (f_X9_placesOf σ11 v7).bind (fun (v13 : Int32) => (f_X9_factors σ11 v13 100).bind (fun (v14 : Int64) => (f_X9_merge σ11 x1 v5 ((-v12) * v14)).bind (fun (σ15 : Mem) => some (Sum.inl (σ15, i2 + 1))))))))))))))))
noncomputable def f_X7_findGap (σ : Mem) (x0 : Nat) (x1 : Nat) : Option Mem :=
  loopO (fun (z2 : (Mem × Int32)) => l_X7_findGap_2 x0 x1 z2.1 z2.2) (σ, 0)
theorem t_X7_findGap {w : Wd} (hw : WOK w) {σ : Mem} {x0 : Nat} {x1 : Nat} (hx0 : isk w x0 9) (hx1 : isk w x1 9) : JO w mu_X7_findGap vV σ [(0, .ref (adr w 80)), (1, .ref (adr w x0)), (2, .ref (adr w x1))] [] 0 (f_X7_findGap σ x0 x1) (fun z => some ((), z)) := by
  unfold f_X7_findGap
  refine jo_iconst (pc := 0) dX7_findGap_0 (ic_i_0) ?_
  refine jo_istore_n (pc := 1) (lv' := [(3, .int 0), (0, .ref (adr w 80)), (1, .ref (adr w x0)), (2, .ref (adr w x1))]) dX7_findGap_1 rfl (ltb rfl) rfl ?_
  refine jo_lv (lv' := [(0, .ref (adr w 80)), (1, .ref (adr w x0)), (2, .ref (adr w x1)), (3, .int 0)]) [1, 2, 3, 0] rfl ?_
  refine jo_loop (X := Mem) (fun (z2 : (Mem × Int32)) => z2.1) (fun (z2 : (Mem × Int32)) => [(0, .ref (adr w 80)), (1, .ref (adr w x0)), (2, .ref (adr w x1)), (3, .int z2.2)]) (body := (fun (z2 : (Mem × Int32)) => l_X7_findGap_2 x0 x1 z2.1 z2.2)) (fun F2_2 hF2_2 s => ?_) (σ, 0)
  obtain ⟨σ1, i2⟩ := s
  show JO w mu_X7_findGap vV σ1 [(0, .ref (adr w 80)), (1, .ref (adr w x0)), (2, .ref (adr w x1)), (3, .int i2)] [] 2 (l_X7_findGap_2 x0 x1 σ1 i2) _
  unfold l_X7_findGap_2
  refine jo_iload_n (pc := 2) 3 rfl dX7_findGap_2 rfl ?_
  refine jo_aload_n (pc := 3) 1 rfl dX7_findGap_3 rfl ?_
  refine jo_getf (pc := 4) ok_9_0 (hx0) gw_281 dX7_findGap_4 (fun v3 => ?_)
  refine jo_icmp_ge (pc := 7) dX7_findGap_7 (tgt := 93) rfl ?_ ?_
  · exact jo_return (pc := 93) rfl rfl dX7_findGap_93
  · refine jo_aload_n (pc := 10) 1 rfl dX7_findGap_10 rfl ?_
    refine jo_getr (pc := 11) ok_9_1 (hx0) gw_284 dX7_findGap_11 ?_
    refine jo_iload_n (pc := 14) 3 rfl dX7_findGap_14 rfl ?_
    refine jo_iald (pc := 15) (wf_9_1 hw (hx0)) dX7_findGap_15 (fun v4 => ?_)
    refine jo_ldc (pc := 16) dX7_findGap_16 gw_914 ?_
    refine jo_iand (pc := 18) dX7_findGap_18 ?_
    refine jo_bd ?_
    refine jo_istore (pc := 19) (lv' := [(4, .int (v4 &&& 16773120)), (0, .ref (adr w 80)), (1, .ref (adr w x0)), (2, .ref (adr w x1)), (3, .int i2)]) dX7_findGap_19 (ltb rfl) rfl ?_
    generalize (v4 &&& 16773120) = v5
    refine jo_aload_n (pc := 21) 2 rfl dX7_findGap_21 rfl ?_
    refine jo_getr (pc := 22) ok_9_1 (hx0) gw_284 dX7_findGap_22 ?_
    refine jo_iload_n (pc := 25) 4 rfl dX7_findGap_25 rfl ?_
    refine jo_iald (pc := 26) (wf_9_1 hw (hx0)) dX7_findGap_26 (fun v6 => ?_)
    refine jo_sipush (pc := 27) dX7_findGap_27 (ic_s_4095) ?_
    refine jo_iand (pc := 30) dX7_findGap_30 ?_
    refine jo_bd ?_
    refine jo_istore (pc := 31) (lv' := [(5, .int (v6 &&& 4095)), (4, .int v5), (0, .ref (adr w 80)), (1, .ref (adr w x0)), (2, .ref (adr w x1)), (3, .int i2)]) dX7_findGap_31 (ltb rfl) rfl ?_
    generalize (v6 &&& 4095) = v7
    refine jo_aload_n (pc := 33) 4 rfl dX7_findGap_33 rfl ?_
    refine jo_iload (pc := 34) 0 rfl dX7_findGap_34 ?_
    refine jo_bipush (pc := 36) dX7_findGap_36 (ic_b_12) ?_
    refine jo_ishl (pc := 38) dX7_findGap_38 ?_
    refine jo_aload_n (pc := 39) 3 rfl dX7_findGap_39 rfl ?_
    refine jo_getr (pc := 40) ok_9_2 (hx0) gw_287 dX7_findGap_40 ?_
    refine jo_iload_n (pc := 43) 5 rfl dX7_findGap_43 rfl ?_
    refine jo_lald (pc := 44) (wf_9_2 hw (hx0)) dX7_findGap_44 (fun v8 => ?_)
    refine jo_iload (pc := 45) 1 rfl dX7_findGap_45 ?_
    refine jo_cS_I_p (pc := 47) (μ' := mu_X9_placesOf) (fx := f_X9_placesOf σ1 v5) (As := [.int v5]) (c_X9_placesOf hw) (ok_X9_placesOf) (ltb rfl) (all2 gw_915 gw_626) rfl rfl (Nat.le_of_ble_eq_true rfl) dX7_findGap_47 (fun v9 => ?_)
    refine jo_aload_n (pc := 50) 2 rfl dX7_findGap_50 rfl ?_
    refine jo_getrE (pc := 51) ok_7_4 (ik_80 hw) rf_80_4 gw_395 dX7_findGap_51 ?_
    refine jo_cS_J_p (pc := 54) (μ' := mu_X9_factors) (fx := f_X9_factors σ1 v9 100) (As := [.int v9, .ref (adr w 100)]) (c_X9_factors hw (ik_100 hw)) (ok_X9_factors) (ltb rfl) (all2 gw_916 gw_917) rfl rfl (Nat.le_of_ble_eq_true rfl) dX7_findGap_54 (fun v10 => ?_)
    refine jo_lmul (pc := 57) dX7_findGap_57 ?_
    refine jo_cV_V_i (pc := 58) (μ' := mu_X9_merge) (fx := f_X9_merge σ1 x1 (v7 <<< (12 &&& 31)) (v8 * v10)) (As := [.int (v7 <<< (12 &&& 31)), .long (v8 * v10)]) (c_X9_merge hw (hx1)) (ok_X9_merge) (ltb rfl) (all3 gw_919 gw_920 gw_921) (hx1) (by decide) (q := (RX9, TX9, 4)) rfl rfl rfl rfl (Nat.le_of_ble_eq_true rfl) dX7_findGap_58 (fun σ11 => ?_)
    refine jo_aload_n (pc := 61) 4 rfl dX7_findGap_61 rfl ?_
    refine jo_iload (pc := 62) 1 rfl dX7_findGap_62 ?_
    refine jo_aload_n (pc := 64) 3 rfl dX7_findGap_64 rfl ?_
    refine jo_getr (pc := 65) ok_9_2 (hx0) gw_287 dX7_findGap_65 ?_
    refine jo_iload_n (pc := 68) 5 rfl dX7_findGap_68 rfl ?_
    refine jo_lald (pc := 69) (wf_9_2 hw (hx0)) dX7_findGap_69 (fun v12 => ?_)
    refine jo_lneg (pc := 70) dX7_findGap_70 ?_
    refine jo_iload (pc := 71) 0 rfl dX7_findGap_71 ?_
    refine jo_cS_I_p (pc := 73) (μ' := mu_X9_placesOf) (fx := f_X9_placesOf σ11 v7) (As := [.int v7]) (c_X9_placesOf hw) (ok_X9_placesOf) (ltb rfl) (all2 gw_915 gw_626) rfl rfl (Nat.le_of_ble_eq_true rfl) dX7_findGap_73 (fun v13 => ?_)
    refine jo_aload_n (pc := 76) 2 rfl dX7_findGap_76 rfl ?_
    refine jo_getrE (pc := 77) ok_7_4 (ik_80 hw) rf_80_4 gw_395 dX7_findGap_77 ?_
    refine jo_cS_J_p (pc := 80) (μ' := mu_X9_factors) (fx := f_X9_factors σ11 v13 100) (As := [.int v13, .ref (adr w 100)]) (c_X9_factors hw (ik_100 hw)) (ok_X9_factors) (ltb rfl) (all2 gw_916 gw_917) rfl rfl (Nat.le_of_ble_eq_true rfl) dX7_findGap_80 (fun v14 => ?_)
    refine jo_lmul (pc := 83) dX7_findGap_83 ?_
    refine jo_cV_V_i (pc := 84) (μ' := mu_X9_merge) (fx := f_X9_merge σ11 x1 v5 ((-v12) * v14)) (As := [.int v5, .long ((-v12) * v14)]) (c_X9_merge hw (hx1)) (ok_X9_merge) (ltb rfl) (all3 gw_919 gw_920 gw_921) (hx1) (by decide) (q := (RX9, TX9, 4)) rfl rfl rfl rfl (Nat.le_of_ble_eq_true rfl) dX7_findGap_84 (fun σ15 => ?_)
    refine jo_iinc (pc := 87) (lv' := [(3, .int (i2 + 1)), (5, .int v7), (4, .int v5), (0, .ref (adr w 80)), (1, .ref (adr w x0)), (2, .ref (adr w x1))]) 5 rfl dX7_findGap_87 (congrArg (fun z => i2 + z) (ic_i_1)) (ltb rfl) rfl ?_
    refine jo_goto (pc := 90) dX7_findGap_90 (tgt := 2) rfl ?_
    refine jo_lv (lv' := [(0, .ref (adr w 80)), (1, .ref (adr w x0)), (2, .ref (adr w x1)), (3, .int (i2 + 1))]) [3, 4, 5, 0] rfl ?_
    exact jo_leaf (by rfl) (hF2_2 (σ15, i2 + 1))
theorem c_X7_findGap {w : Wd} (hw : WOK w) {σ : Mem} {x0 : Nat} {x1 : Nat} (hx0 : isk w x0 9) (hx1 : isk w x1 9) : ∀ σ', f_X7_findGap σ x0 x1 = some σ' → MC w mu_X7_findGap none [.ref (adr w 80), .ref (adr w x0), .ref (adr w x1)] σ σ' := mc_ofV ok_X7_findGap rfl (Nat.le_of_ble_eq_true rfl) (t_X7_findGap hw hx0 hx1)
abbrev mu_X7_findGaps : MD := (yX7_findGaps, cX7_findGaps, 4, none, 5)
theorem ok_X7_findGaps : MOK mu_X7_findGaps 2 := ⟨gw_908, gw_165, (by decide +kernel : plainFor yX7_findGaps = true), ⟨(by decide +kernel : yX7_findGaps.cls ≠ "java/lang/invoke/MethodHandle"), (by decide +kernel : yX7_findGaps.cls ≠ "java/lang/invoke/VarHandle"), (by decide +kernel : (parseMethodDescriptor yX7_findGaps.desc).map (fun d => d.parameters.length) = some 2)⟩, Nat.le_of_ble_eq_true rfl⟩
noncomputable def l_X7_findGaps_41 (σ2 : Mem) (i3 : Int32) : Option ((Mem × Int32) ⊕ Mem) :=
  if 6 ≤ i3 then (some (Sum.inr σ2)) else (gR 99 i3 (fun (p4 : Nat) => pF σ2 p4 0 0 (fun (σ5 : Mem) => gR 44 i3 (fun (p6 : Nat) => gR 99 i3 (fun (p7 : Nat) => (f_X7_findGap σ5 p6 p7).bind (fun (σ8 : Mem) => some (Sum.inl (σ8, i3 + 1))))))))
noncomputable def j_X7_findGaps_39 (σ1 : Mem) : Option Mem :=
  loopO (fun (z3 : (Mem × Int32)) => l_X7_findGaps_41 z3.1 z3.2) (σ1, 0)
noncomputable def l_X7_findGaps_2 (x0 : Nat) (x1 : Nat) (σ9 : Mem) (i10 : Int32) : Option ((Mem × Int32) ⊕ Mem) :=
  if 6 ≤ i10 then (some (Sum.inr σ9)) else (gL σ9 x0 i10 (fun (v11 : Int64) => (f_X4_put σ9 100 i10 v11).bind (fun (σ12 : Mem) => gL σ12 x1 i10 (fun (v13 : Int64) => (f_X4_put σ12 100 (6 + i10) v13).bind (fun (σ14 : Mem) => some (Sum.inl (σ14, i10 + 1)))))))
noncomputable def f_X7_findGaps (σ : Mem) (x0 : Nat) (x1 : Nat) : Option Mem :=
  (loopO (fun (z10 : (Mem × Int32)) => l_X7_findGaps_2 x0 x1 z10.1 z10.2) (σ, 0) : Option Mem).bind (fun (z1 : Mem) => j_X7_findGaps_39 z1)
theorem t_X7_findGaps {w : Wd} (hw : WOK w) {σ : Mem} {x0 : Nat} {x1 : Nat} (hx0 : isk w x0 13) (hx1 : isk w x1 13) : JO w mu_X7_findGaps vV σ [(0, .ref (adr w 80)), (1, .ref (adr w x0)), (2, .ref (adr w x1))] [] 0 (f_X7_findGaps σ x0 x1) (fun z => some ((), z)) := by
  unfold f_X7_findGaps
  refine jo_iconst (pc := 0) dX7_findGaps_0 (ic_i_0) ?_
  refine jo_istore_n (pc := 1) (lv' := [(3, .int 0), (0, .ref (adr w 80)), (1, .ref (adr w x0)), (2, .ref (adr w x1))]) dX7_findGaps_1 rfl (ltb rfl) rfl ?_
  refine jo_join1 (S := Mem) (fun (z1 : Mem) => z1) (fun (z1 : Mem) => [(0, .ref (adr w 80))]) (fun (z1 : Mem) => []) 39 ?_ (fun h39_1 => ?_)
  · intro σ1
    show JO w mu_X7_findGaps vV σ1 [(0, .ref (adr w 80))] [] 39 (j_X7_findGaps_39 σ1) _
    unfold j_X7_findGaps_39
    refine jo_iconst (pc := 39) dX7_findGaps_39 (ic_i_0) ?_
    refine jo_istore_n (pc := 40) (lv' := [(3, .int 0), (0, .ref (adr w 80))]) dX7_findGaps_40 rfl (ltb rfl) rfl ?_
    refine jo_lv (lv' := [(0, .ref (adr w 80)), (3, .int 0)]) [1, 0] rfl ?_
    refine jo_loop (X := Mem) (fun (z3 : (Mem × Int32)) => z3.1) (fun (z3 : (Mem × Int32)) => [(0, .ref (adr w 80)), (3, .int z3.2)]) (body := (fun (z3 : (Mem × Int32)) => l_X7_findGaps_41 z3.1 z3.2)) (fun F41_3 hF41_3 s => ?_) (σ1, 0)
    obtain ⟨σ2, i3⟩ := s
    show JO w mu_X7_findGaps vV σ2 [(0, .ref (adr w 80)), (3, .int i3)] [] 41 (l_X7_findGaps_41 σ2 i3) _
    unfold l_X7_findGaps_41
    refine jo_iload_n (pc := 41) 1 rfl dX7_findGaps_41 rfl ?_
    refine jo_bipush (pc := 42) dX7_findGaps_42 (ic_b_6) ?_
    refine jo_icmp_ge (pc := 44) dX7_findGaps_44 (tgt := 82) rfl ?_ ?_
    · exact jo_return (pc := 82) rfl rfl dX7_findGaps_82
    · refine jo_aload_n (pc := 47) 0 rfl dX7_findGaps_47 rfl ?_
      refine jo_getrE (pc := 48) ok_7_3 (ik_80 hw) rf_80_3 gw_394 dX7_findGaps_48 ?_
      refine jo_iload_n (pc := 51) 1 rfl dX7_findGaps_51 rfl ?_
      refine jo_aaldG (pc := 52) (z := 9) hw (ik_99 hw) (by decide) (t := 3) rfl rfl (by decide) dX7_findGaps_52 (fun p4 hp4 => ?_)
      refine jo_iconst (pc := 53) dX7_findGaps_53 (ic_i_0) ?_
      refine jo_putf (pc := 54) ok_9_0 okp_9_0 (hp4) gw_281 dX7_findGaps_54 (fun σ5 => ?_)
      refine jo_aload_n (pc := 57) 0 rfl dX7_findGaps_57 rfl ?_
      refine jo_aload_n (pc := 58) 0 rfl dX7_findGaps_58 rfl ?_
      refine jo_getrE (pc := 59) ok_7_0 (ik_80 hw) rf_80_0 gw_391 dX7_findGaps_59 ?_
      refine jo_getrE (pc := 62) ok_4_2 (ik_40 hw) rf_40_2 gw_304 dX7_findGaps_62 ?_
      refine jo_iload_n (pc := 65) 1 rfl dX7_findGaps_65 rfl ?_
      refine jo_aaldG (pc := 66) (z := 9) hw (ik_44 hw) (by decide) (t := 3) rfl rfl (by decide) dX7_findGaps_66 (fun p6 hp6 => ?_)
      refine jo_aload_n (pc := 67) 0 rfl dX7_findGaps_67 rfl ?_
      refine jo_getrE (pc := 68) ok_7_3 (ik_80 hw) rf_80_3 gw_394 dX7_findGaps_68 ?_
      refine jo_iload_n (pc := 71) 1 rfl dX7_findGaps_71 rfl ?_
      refine jo_aaldG (pc := 72) (z := 9) hw (ik_99 hw) (by decide) (t := 3) rfl rfl (by decide) dX7_findGaps_72 (fun p7 hp7 => ?_)
      refine jo_cV_V_i (pc := 73) (μ' := mu_X7_findGap) (fx := f_X7_findGap σ5 p6 p7) (As := [.ref (adr w p6), .ref (adr w p7)]) (c_X7_findGap hw (hp6) (hp7)) (ok_X7_findGap) (ltb rfl) (all3 gw_910 gw_912 gw_19) (ik_80 hw) (by decide) (q := (RX7, TX7, 11)) rfl rfl rfl rfl (Nat.le_of_ble_eq_true rfl) dX7_findGaps_73 (fun σ8 => ?_)
      refine jo_iinc (pc := 76) (lv' := [(3, .int (i3 + 1)), (0, .ref (adr w 80))]) 1 rfl dX7_findGaps_76 (congrArg (fun z => i3 + z) (ic_i_1)) (ltb rfl) rfl ?_
      refine jo_goto (pc := 79) dX7_findGaps_79 (tgt := 41) rfl ?_
      refine jo_lv (lv' := [(0, .ref (adr w 80)), (3, .int (i3 + 1))]) [1, 0] rfl ?_
      exact jo_leaf (by rfl) (hF41_3 (σ8, i3 + 1))
  · refine jo_lv (lv' := [(0, .ref (adr w 80)), (1, .ref (adr w x0)), (2, .ref (adr w x1)), (3, .int 0)]) [1, 2, 3, 0] rfl ?_
    refine jo_loop (X := Mem) (fun (z10 : (Mem × Int32)) => z10.1) (fun (z10 : (Mem × Int32)) => [(0, .ref (adr w 80)), (1, .ref (adr w x0)), (2, .ref (adr w x1)), (3, .int z10.2)]) (body := (fun (z10 : (Mem × Int32)) => l_X7_findGaps_2 x0 x1 z10.1 z10.2)) (fun F2_10 hF2_10 s => ?_) (σ, 0)
    obtain ⟨σ9, i10⟩ := s
    show JO w mu_X7_findGaps vV σ9 [(0, .ref (adr w 80)), (1, .ref (adr w x0)), (2, .ref (adr w x1)), (3, .int i10)] [] 2 (l_X7_findGaps_2 x0 x1 σ9 i10) _
    unfold l_X7_findGaps_2
    refine jo_iload_n (pc := 2) 3 rfl dX7_findGaps_2 rfl ?_
    refine jo_bipush (pc := 3) dX7_findGaps_3 (ic_b_6) ?_
    refine jo_icmp_ge (pc := 5) dX7_findGaps_5 (tgt := 39) rfl ?_ ?_
    · refine jo_lv (lv' := [(0, .ref (adr w 80))]) [0] rfl ?_
      exact jo_leaf (by rfl) (h39_1 σ9)
    · refine jo_aload_n (pc := 8) 0 rfl dX7_findGaps_8 rfl ?_
      refine jo_getrE (pc := 9) ok_7_4 (ik_80 hw) rf_80_4 gw_395 dX7_findGaps_9 ?_
      refine jo_iload_n (pc := 12) 3 rfl dX7_findGaps_12 rfl ?_
      refine jo_aload_n (pc := 13) 1 rfl dX7_findGaps_13 rfl ?_
      refine jo_iload_n (pc := 14) 3 rfl dX7_findGaps_14 rfl ?_
      refine jo_lald (pc := 15) (hx0) dX7_findGaps_15 (fun v11 => ?_)
      refine jo_cS_V_i (pc := 16) (μ' := mu_X4_put) (fx := f_X4_put σ9 100 i10 v11) (As := [.ref (adr w 100), .int i10, .long v11]) (c_X4_put hw (ik_100 hw)) (ok_X4_put) (ltb rfl) (all2 gw_909 gw_614) rfl rfl (Nat.le_of_ble_eq_true rfl) dX7_findGaps_16 (fun σ12 => ?_)
      refine jo_aload_n (pc := 19) 0 rfl dX7_findGaps_19 rfl ?_
      refine jo_getrE (pc := 20) ok_7_4 (ik_80 hw) rf_80_4 gw_395 dX7_findGaps_20 ?_
      refine jo_bipush (pc := 23) dX7_findGaps_23 (ic_b_6) ?_
      refine jo_iload_n (pc := 25) 3 rfl dX7_findGaps_25 rfl ?_
      refine jo_iadd (pc := 26) dX7_findGaps_26 ?_
      refine jo_aload_n (pc := 27) 2 rfl dX7_findGaps_27 rfl ?_
      refine jo_iload_n (pc := 28) 3 rfl dX7_findGaps_28 rfl ?_
      refine jo_lald (pc := 29) (hx1) dX7_findGaps_29 (fun v13 => ?_)
      refine jo_cS_V_i (pc := 30) (μ' := mu_X4_put) (fx := f_X4_put σ12 100 (6 + i10) v13) (As := [.ref (adr w 100), .int (6 + i10), .long v13]) (c_X4_put hw (ik_100 hw)) (ok_X4_put) (ltb rfl) (all2 gw_909 gw_614) rfl rfl (Nat.le_of_ble_eq_true rfl) dX7_findGaps_30 (fun σ14 => ?_)
      refine jo_iinc (pc := 33) (lv' := [(3, .int (i10 + 1)), (0, .ref (adr w 80)), (1, .ref (adr w x0)), (2, .ref (adr w x1))]) 3 rfl dX7_findGaps_33 (congrArg (fun z => i10 + z) (ic_i_1)) (ltb rfl) rfl ?_
      refine jo_goto (pc := 36) dX7_findGaps_36 (tgt := 2) rfl ?_
      refine jo_lv (lv' := [(0, .ref (adr w 80)), (1, .ref (adr w x0)), (2, .ref (adr w x1)), (3, .int (i10 + 1))]) [1, 2, 3, 0] rfl ?_
      exact jo_leaf (by rfl) (hF2_10 (σ14, i10 + 1))
theorem c_X7_findGaps {w : Wd} (hw : WOK w) {σ : Mem} {x0 : Nat} {x1 : Nat} (hx0 : isk w x0 13) (hx1 : isk w x1 13) : ∀ σ', f_X7_findGaps σ x0 x1 = some σ' → MC w mu_X7_findGaps none [.ref (adr w 80), .ref (adr w x0), .ref (adr w x1)] σ σ' := mc_ofV ok_X7_findGaps rfl (Nat.le_of_ble_eq_true rfl) (t_X7_findGaps hw hx0 hx1)
abbrev mu_X7_setU : MD := (yX7_setU, cX7_setU, 4, none, 1)
theorem ok_X7_setU : MOK mu_X7_setU 2 := ⟨gw_931, gw_165, (by decide +kernel : plainFor yX7_setU = true), ⟨(by decide +kernel : yX7_setU.cls ≠ "java/lang/invoke/MethodHandle"), (by decide +kernel : yX7_setU.cls ≠ "java/lang/invoke/VarHandle"), (by decide +kernel : (parseMethodDescriptor yX7_setU.desc).map (fun d => d.parameters.length) = some 2)⟩, Nat.le_of_ble_eq_true rfl⟩
noncomputable def f_X7_setU (σ : Mem) (x0 : Int32) (x1 : Int64) : Option Mem :=
  if x0 < 0 then (some σ) else (if 6 ≤ x0 then (some σ) else (pL σ 103 x0 x1 (fun (σ1 : Mem) => (f_X4_put σ1 100 x0 x1).bind (fun (σ2 : Mem) => some σ2))))
theorem t_X7_setU {w : Wd} (hw : WOK w) {σ : Mem} {x0 : Int32} {x1 : Int64} : JO w mu_X7_setU vV σ [(0, .ref (adr w 80)), (1, .int x0), (2, .long x1)] [] 0 (f_X7_setU σ x0 x1) (fun z => some ((), z)) := by
  unfold f_X7_setU
  refine jo_iload_n (pc := 0) 1 rfl dX7_setU_0 rfl ?_
  refine jo_if_lt (pc := 1) dX7_setU_1 (tgt := 26) rfl ?_ ?_
  · exact jo_return (pc := 26) rfl rfl dX7_setU_26
  · refine jo_iload_n (pc := 4) 1 rfl dX7_setU_4 rfl ?_
    refine jo_bipush (pc := 5) dX7_setU_5 (ic_b_6) ?_
    refine jo_icmp_ge (pc := 7) dX7_setU_7 (tgt := 26) rfl ?_ ?_
    · exact jo_return (pc := 26) rfl rfl dX7_setU_26
    · refine jo_aload_n (pc := 10) 0 rfl dX7_setU_10 rfl ?_
      refine jo_getrE (pc := 11) ok_7_7 (ik_80 hw) rf_80_7 gw_398 dX7_setU_11 ?_
      refine jo_iload_n (pc := 14) 1 rfl dX7_setU_14 rfl ?_
      refine jo_lload_n (pc := 15) 2 rfl dX7_setU_15 rfl ?_
      refine jo_last (pc := 16) (ik_103 hw) dX7_setU_16 (fun σ1 => ?_)
      refine jo_aload_n (pc := 17) 0 rfl dX7_setU_17 rfl ?_
      refine jo_getrE (pc := 18) ok_7_4 (ik_80 hw) rf_80_4 gw_395 dX7_setU_18 ?_
      refine jo_iload_n (pc := 21) 1 rfl dX7_setU_21 rfl ?_
      refine jo_lload_n (pc := 22) 2 rfl dX7_setU_22 rfl ?_
      refine jo_cS_V_i (pc := 23) (μ' := mu_X4_put) (fx := f_X4_put σ1 100 x0 x1) (As := [.ref (adr w 100), .int x0, .long x1]) (c_X4_put hw (ik_100 hw)) (ok_X4_put) (ltb rfl) (all2 gw_909 gw_614) rfl rfl (Nat.le_of_ble_eq_true rfl) dX7_setU_23 (fun σ2 => ?_)
      exact jo_return (pc := 26) rfl rfl dX7_setU_26
theorem c_X7_setU {w : Wd} (hw : WOK w) {σ : Mem} {x0 : Int32} {x1 : Int64} : ∀ σ', f_X7_setU σ x0 x1 = some σ' → MC w mu_X7_setU none [.ref (adr w 80), .int x0, .long x1] σ σ' := mc_ofV ok_X7_setU rfl (Nat.le_of_ble_eq_true rfl) (t_X7_setU hw)
abbrev mu_X7_putU : MD := (yX7_putU, cX7_putU, 4, none, 2)
theorem ok_X7_putU : MOK mu_X7_putU 1 := ⟨gw_927, gw_165, (by decide +kernel : plainFor yX7_putU = true), ⟨(by decide +kernel : yX7_putU.cls ≠ "java/lang/invoke/MethodHandle"), (by decide +kernel : yX7_putU.cls ≠ "java/lang/invoke/VarHandle"), (by decide +kernel : (parseMethodDescriptor yX7_putU.desc).map (fun d => d.parameters.length) = some 1)⟩, Nat.le_of_ble_eq_true rfl⟩
noncomputable def l_X7_putU_2 (x0 : Int64) (σ1 : Mem) (i2 : Int32) : Option ((Mem × Int32) ⊕ Mem) :=
  if 6 ≤ i2 then (some (Sum.inr σ1)) else ((f_X7_setU σ1 i2 x0).bind (fun (σ3 : Mem) => some (Sum.inl (σ3, i2 + 1))))
noncomputable def f_X7_putU (σ : Mem) (x0 : Int64) : Option Mem :=
  loopO (fun (z2 : (Mem × Int32)) => l_X7_putU_2 x0 z2.1 z2.2) (σ, 0)
theorem t_X7_putU {w : Wd} (hw : WOK w) {σ : Mem} {x0 : Int64} : JO w mu_X7_putU vV σ [(0, .ref (adr w 80)), (1, .long x0)] [] 0 (f_X7_putU σ x0) (fun z => some ((), z)) := by
  unfold f_X7_putU
  refine jo_iconst (pc := 0) dX7_putU_0 (ic_i_0) ?_
  refine jo_istore_n (pc := 1) (lv' := [(3, .int 0), (0, .ref (adr w 80)), (1, .long x0)]) dX7_putU_1 rfl (ltb rfl) rfl ?_
  refine jo_lv (lv' := [(0, .ref (adr w 80)), (1, .long x0), (3, .int 0)]) [1, 2, 0] rfl ?_
  refine jo_loop (X := Mem) (fun (z2 : (Mem × Int32)) => z2.1) (fun (z2 : (Mem × Int32)) => [(0, .ref (adr w 80)), (1, .long x0), (3, .int z2.2)]) (body := (fun (z2 : (Mem × Int32)) => l_X7_putU_2 x0 z2.1 z2.2)) (fun F2_2 hF2_2 s => ?_) (σ, 0)
  obtain ⟨σ1, i2⟩ := s
  show JO w mu_X7_putU vV σ1 [(0, .ref (adr w 80)), (1, .long x0), (3, .int i2)] [] 2 (l_X7_putU_2 x0 σ1 i2) _
  unfold l_X7_putU_2
  refine jo_iload_n (pc := 2) 2 rfl dX7_putU_2 rfl ?_
  refine jo_bipush (pc := 3) dX7_putU_3 (ic_b_6) ?_
  refine jo_icmp_ge (pc := 5) dX7_putU_5 (tgt := 20) rfl ?_ ?_
  · exact jo_return (pc := 20) rfl rfl dX7_putU_20
  · refine jo_aload_n (pc := 8) 0 rfl dX7_putU_8 rfl ?_
    refine jo_iload_n (pc := 9) 2 rfl dX7_putU_9 rfl ?_
    refine jo_lload_n (pc := 10) 1 rfl dX7_putU_10 rfl ?_
    refine jo_cV_V_i (pc := 11) (μ' := mu_X7_setU) (fx := f_X7_setU σ1 i2 x0) (As := [.int i2, .long x0]) (c_X7_setU hw) (ok_X7_setU) (ltb rfl) (all3 gw_928 gw_930 gw_21) (ik_80 hw) (by decide) (q := (RX7, TX7, 11)) rfl rfl rfl rfl (Nat.le_of_ble_eq_true rfl) dX7_putU_11 (fun σ3 => ?_)
    refine jo_iinc (pc := 14) (lv' := [(3, .int (i2 + 1)), (0, .ref (adr w 80)), (1, .long x0)]) 2 rfl dX7_putU_14 (congrArg (fun z => i2 + z) (ic_i_1)) (ltb rfl) rfl ?_
    refine jo_goto (pc := 17) dX7_putU_17 (tgt := 2) rfl ?_
    refine jo_lv (lv' := [(0, .ref (adr w 80)), (1, .long x0), (3, .int (i2 + 1))]) [1, 2, 0] rfl ?_
    exact jo_leaf (by rfl) (hF2_2 (σ3, i2 + 1))
theorem c_X7_putU {w : Wd} (hw : WOK w) {σ : Mem} {x0 : Int64} : ∀ σ', f_X7_putU σ x0 = some σ' → MC w mu_X7_putU none [.ref (adr w 80), .long x0] σ σ' := mc_ofV ok_X7_putU rfl (Nat.le_of_ble_eq_true rfl) (t_X7_putU hw)
abbrev mu_X7_areClosed : MD := (yX7_areClosed, cX7_areClosed, 4, some .boolean, 1)
theorem ok_X7_areClosed : MOK mu_X7_areClosed 2 := ⟨gw_936, gw_165, (by decide +kernel : plainFor yX7_areClosed = true), ⟨(by decide +kernel : yX7_areClosed.cls ≠ "java/lang/invoke/MethodHandle"), (by decide +kernel : yX7_areClosed.cls ≠ "java/lang/invoke/VarHandle"), (by decide +kernel : (parseMethodDescriptor yX7_areClosed.desc).map (fun d => d.parameters.length) = some 2)⟩, Nat.le_of_ble_eq_true rfl⟩
noncomputable def l_X7_areClosed_2 (σ : Mem) (x1 : Int32) (i1 : Int32) : Option (Int32 ⊕ Bool) :=
  if x1 ≤ i1 then (some (Sum.inr true)) else (if 6 ≤ i1 then (some (Sum.inr true)) else (gR 99 i1 (fun (p2 : Nat) => (f_X9_value σ p2 100).bind (fun (v3 : Int64) => if v3 = 0 then (some (Sum.inl (i1 + 1))) else (some (Sum.inr false))))))
noncomputable def f_X7_areClosed (σ : Mem) (x0 : Int32) (x1 : Int32) : Option Bool :=
  loopO (fun (z1 : Int32) => l_X7_areClosed_2 σ x1 z1) x0
theorem t_X7_areClosed {w : Wd} (hw : WOK w) {σ : Mem} {x0 : Int32} {x1 : Int32} : JO w mu_X7_areClosed vB σ [(0, .ref (adr w 80)), (1, .int x0), (2, .int x1)] [] 0 (f_X7_areClosed σ x0 x1) (fun z => some (z, σ)) := by
  unfold f_X7_areClosed
  refine jo_iload_n (pc := 0) 1 rfl dX7_areClosed_0 rfl ?_
  refine jo_istore_n (pc := 1) (lv' := [(3, .int x0), (0, .ref (adr w 80)), (1, .int x0), (2, .int x1)]) dX7_areClosed_1 rfl (ltb rfl) rfl ?_
  refine jo_lv (lv' := [(0, .ref (adr w 80)), (2, .int x1), (3, .int x0)]) [1, 3, 0] rfl ?_
  refine jo_loop (X := Bool) (fun (z1 : Int32) => σ) (fun (z1 : Int32) => [(0, .ref (adr w 80)), (2, .int x1), (3, .int z1)]) (body := (fun (z1 : Int32) => l_X7_areClosed_2 σ x1 z1)) (fun F2_1 hF2_1 s => ?_) x0
  revert s; intro i1
  show JO w mu_X7_areClosed vB σ [(0, .ref (adr w 80)), (2, .int x1), (3, .int i1)] [] 2 (l_X7_areClosed_2 σ x1 i1) _
  unfold l_X7_areClosed_2
  refine jo_iload_n (pc := 2) 2 rfl dX7_areClosed_2 rfl ?_
  refine jo_iload_n (pc := 3) 1 rfl dX7_areClosed_3 rfl ?_
  refine jo_icmp_ge (pc := 4) dX7_areClosed_4 (tgt := 39) rfl ?_ ?_
  · refine jo_iconst (pc := 39) dX7_areClosed_39 (ic_i_1) ?_
    exact jo_breturn (pc := 40) (b := true) rfl rfl dX7_areClosed_40
  · refine jo_iload_n (pc := 7) 2 rfl dX7_areClosed_7 rfl ?_
    refine jo_bipush (pc := 8) dX7_areClosed_8 (ic_b_6) ?_
    refine jo_icmp_ge (pc := 10) dX7_areClosed_10 (tgt := 39) rfl ?_ ?_
    · refine jo_iconst (pc := 39) dX7_areClosed_39 (ic_i_1) ?_
      exact jo_breturn (pc := 40) (b := true) rfl rfl dX7_areClosed_40
    · refine jo_aload_n (pc := 13) 0 rfl dX7_areClosed_13 rfl ?_
      refine jo_getrE (pc := 14) ok_7_3 (ik_80 hw) rf_80_3 gw_394 dX7_areClosed_14 ?_
      refine jo_iload_n (pc := 17) 2 rfl dX7_areClosed_17 rfl ?_
      refine jo_aaldG (pc := 18) (z := 9) hw (ik_99 hw) (by decide) (t := 3) rfl rfl (by decide) dX7_areClosed_18 (fun p2 hp2 => ?_)
      refine jo_aload_n (pc := 19) 0 rfl dX7_areClosed_19 rfl ?_
      refine jo_getrE (pc := 20) ok_7_4 (ik_80 hw) rf_80_4 gw_395 dX7_areClosed_20 ?_
      refine jo_cV_J_p (pc := 23) (μ' := mu_X9_value) (fx := f_X9_value σ p2 100) (As := [.ref (adr w 100)]) (c_X9_value hw (hp2) (ik_100 hw)) (ok_X9_value) (ltb rfl) (all3 gw_937 gw_618 gw_619) (hp2) (by decide) (q := (RX9, TX9, 4)) rfl rfl rfl rfl (Nat.le_of_ble_eq_true rfl) dX7_areClosed_23 (fun v3 => ?_)
      refine jo_lconst (pc := 26) dX7_areClosed_26 (ic_l_0) ?_
      refine jo_lcmp_eq (pc := 27) dX7_areClosed_27 dX7_areClosed_28 (tgt := 33) rfl ?_ ?_
      · refine jo_iinc (pc := 33) (lv' := [(3, .int (i1 + 1)), (0, .ref (adr w 80)), (2, .int x1)]) 2 rfl dX7_areClosed_33 (congrArg (fun z => i1 + z) (ic_i_1)) (ltb rfl) rfl ?_
        refine jo_goto (pc := 36) dX7_areClosed_36 (tgt := 2) rfl ?_
        refine jo_lv (lv' := [(0, .ref (adr w 80)), (2, .int x1), (3, .int (i1 + 1))]) [1, 2, 0] rfl ?_
        exact jo_leaf (by rfl) (hF2_1 (i1 + 1))
      · refine jo_iconst (pc := 31) dX7_areClosed_31 (ic_i_0) ?_
        exact jo_breturn (pc := 32) (b := false) rfl rfl dX7_areClosed_32
theorem c_X7_areClosed {w : Wd} (hw : WOK w) {σ : Mem} {x0 : Int32} {x1 : Int32} : ∀ r, f_X7_areClosed σ x0 x1 = some r → MC w mu_X7_areClosed (vB r) [.ref (adr w 80), .int x0, .int x1] σ σ := mc_ofP ok_X7_areClosed rfl (Nat.le_of_ble_eq_true rfl) (t_X7_areClosed hw)
abbrev mu_X7_findWithin : MD := (yX7_findWithin, cX7_findWithin, 5, some .boolean, 2)
theorem ok_X7_findWithin : MOK mu_X7_findWithin 2 := ⟨gw_941, gw_165, (by decide +kernel : plainFor yX7_findWithin = true), ⟨(by decide +kernel : yX7_findWithin.cls ≠ "java/lang/invoke/MethodHandle"), (by decide +kernel : yX7_findWithin.cls ≠ "java/lang/invoke/VarHandle"), (by decide +kernel : (parseMethodDescriptor yX7_findWithin.desc).map (fun d => d.parameters.length) = some 2)⟩, Nat.le_of_ble_eq_true rfl⟩
noncomputable def j_X7_findWithin_133 (x1 : Int32) (σ3 : Mem) (i4 : Int32) : Option (Bool × Mem) :=
  if i4 < x1 then (some (false, σ3)) else (some (true, σ3))
noncomputable def j_X7_findWithin_127 (i7 : Int32) (σ9 : Mem) (i10 : Int32) : Option ((Mem × Int32 × Int32) ⊕ ((Mem × Int32) ⊕ (Bool × Mem))) :=
  some (Sum.inl (σ9, i10, i7 + 1))
noncomputable def j_X7_findWithin_89 (x0 : Int32) (x1 : Int32) (σ5 : Mem) (i6 : Int32) (i11 : Int32) : Option ((Mem × Int32) ⊕ ((Mem × Int32 × Int32) ⊕ ((Mem × Int32) ⊕ (Bool × Mem)))) :=
  (f_X7_areClosed σ5 (i6 + 1) i11).bind (fun (b12 : Bool) => if b12 then if x1 ≤ (i6 + 1) then (some (Sum.inl (σ5, i6 + 1))) else ((f_X7_setU σ5 (i6 + 1) (Int32.toInt64 (-x0))).bind (fun (σ13 : Mem) => some (Sum.inl (σ13, i6 + 1)))) else gL σ5 103 i6 (fun (v14 : Int64) => (f_X7_setU σ5 i6 (v14 + 1)).bind (fun (σ15 : Mem) => some (Sum.inl (σ15, i6)))))
noncomputable def l_X7_findWithin_21 (x0 : Int32) (x1 : Int32) (σ5 : Mem) (i6 : Int32) (i7 : Int32) : Option ((Mem × Int32 × Int32) ⊕ ((Mem × Int32) ⊕ (Bool × Mem))) :=
  if 1000000 ≤ i7 then (some (Sum.inr (Sum.inl (σ5, i6)))) else (if x1 ≤ i6 then (some (Sum.inr (Sum.inl (σ5, i6)))) else (gL σ5 103 i6 (fun (v8 : Int64) => (if v8 ≤ (Int32.toInt64 x0) then ((if (i6 + 1) = x1 then (some 6) else (some (i6 + 2)) : Option Int32).bind (fun (z11 : Int32) => j_X7_findWithin_89 x0 x1 σ5 i6 z11)) else (if 0 ≤ (i6 + (-1)) then (gL σ5 103 (i6 + (-1)) (fun (v16 : Int64) => (f_X7_setU σ5 (i6 + (-1)) (v16 + 1)).bind (fun (σ17 : Mem) => some (Sum.inl (σ17, i6 + (-1)))))) else (some (Sum.inr (Sum.inr (Sum.inr (false, σ5)))))) : Option ((Mem × Int32) ⊕ ((Mem × Int32 × Int32) ⊕ ((Mem × Int32) ⊕ (Bool × Mem))))).bind (Sum.elim (fun (z10 : (Mem × Int32)) => j_X7_findWithin_127 i7 z10.1 z10.2) some))))
noncomputable def j_X7_findWithin_15 (σ : Mem) (x0 : Int32) (x1 : Int32) (l1 : Int64) : Option (Bool × Mem) :=
  (f_X7_setU σ 0 l1).bind (fun (σ2 : Mem) => (loopO (fun (z7 : (Mem × Int32 × Int32)) => l_X7_findWithin_21 x0 x1 z7.1 z7.2.1 z7.2.2) (σ2, 0, 0) : Option ((Mem × Int32) ⊕ (Bool × Mem))).bind (Sum.elim (fun (z4 : (Mem × Int32)) => j_X7_findWithin_133 x1 z4.1 z4.2) some))
noncomputable def f_X7_findWithin (σ : Mem) (x0 : Int32) (x1 : Int32) : Option (Bool × Mem) :=
  (if x1 = 0 then (some 0) else (some (Int32.toInt64 (-x0))) : Option Int64).bind (fun (z1 : Int64) => j_X7_findWithin_15 σ x0 x1 z1)
theorem t_X7_findWithin {w : Wd} (hw : WOK w) {σ : Mem} {x0 : Int32} {x1 : Int32} : JO w mu_X7_findWithin vB σ [(0, .ref (adr w 80)), (1, .int x0), (2, .int x1)] [] 0 (f_X7_findWithin σ x0 x1) some := by
  unfold f_X7_findWithin
  refine jo_iconst (pc := 0) dX7_findWithin_0 (ic_i_0) ?_
  refine jo_istore_n (pc := 1) (lv' := [(3, .int 0), (0, .ref (adr w 80)), (1, .int x0), (2, .int x1)]) dX7_findWithin_1 rfl (ltb rfl) rfl ?_
  refine jo_aload_n (pc := 2) 1 rfl dX7_findWithin_2 rfl ?_
  refine jo_iconst (pc := 3) dX7_findWithin_3 (ic_i_0) ?_
  refine jo_iload_n (pc := 4) 3 rfl dX7_findWithin_4 rfl ?_
  refine jo_join1 (S := Int64) (fun (z1 : Int64) => σ) (fun (z1 : Int64) => [(3, .int 0), (0, .ref (adr w 80)), (1, .int x0), (2, .int x1)]) (fun (z1 : Int64) => [.long z1, .int 0, .ref (adr w 80)]) 15 ?_ (fun h15_1 => ?_)
  · intro l1
    show JO w mu_X7_findWithin vB σ [(3, .int 0), (0, .ref (adr w 80)), (1, .int x0), (2, .int x1)] [.long l1, .int 0, .ref (adr w 80)] 15 (j_X7_findWithin_15 σ x0 x1 l1) _
    unfold j_X7_findWithin_15
    refine jo_cV_V_i (pc := 15) (μ' := mu_X7_setU) (fx := f_X7_setU σ 0 l1) (As := [.int 0, .long l1]) (c_X7_setU hw) (ok_X7_setU) (ltb rfl) (all3 gw_928 gw_930 gw_21) (ik_80 hw) (by decide) (q := (RX7, TX7, 11)) rfl rfl rfl rfl (Nat.le_of_ble_eq_true rfl) dX7_findWithin_15 (fun σ2 => ?_)
    refine jo_iconst (pc := 18) dX7_findWithin_18 (ic_i_0) ?_
    refine jo_istore (pc := 19) (lv' := [(4, .int 0), (3, .int 0), (0, .ref (adr w 80)), (1, .int x0), (2, .int x1)]) dX7_findWithin_19 (ltb rfl) rfl ?_
    refine jo_joinS (S := (Mem × Int32)) (fun (z4 : (Mem × Int32)) => z4.1) (fun (z4 : (Mem × Int32)) => [(2, .int x1), (3, .int z4.2)]) (fun (z4 : (Mem × Int32)) => []) 133 ?_ (fun h133_4 => ?_)
    · intro s
      obtain ⟨σ3, i4⟩ := s
      show JO w mu_X7_findWithin vB σ3 [(2, .int x1), (3, .int i4)] [] 133 (j_X7_findWithin_133 x1 σ3 i4) _
      unfold j_X7_findWithin_133
      refine jo_iload_n (pc := 133) 1 rfl dX7_findWithin_133 rfl ?_
      refine jo_iload_n (pc := 134) 0 rfl dX7_findWithin_134 rfl ?_
      refine jo_icmp_lt (pc := 135) dX7_findWithin_135 (tgt := 142) rfl ?_ ?_
      · refine jo_iconst (pc := 142) dX7_findWithin_142 (ic_i_0) ?_
        exact jo_breturn (pc := 143) (b := false) rfl rfl dX7_findWithin_143
      · refine jo_iconst (pc := 138) dX7_findWithin_138 (ic_i_1) ?_
        refine jo_goto (pc := 139) dX7_findWithin_139 (tgt := 143) rfl ?_
        exact jo_breturn (pc := 143) (b := true) rfl rfl dX7_findWithin_143
    · refine jo_lv (lv' := [(0, .ref (adr w 80)), (1, .int x0), (2, .int x1), (3, .int 0), (4, .int 0)]) [2, 3, 4, 1, 0] rfl ?_
      refine jo_loop (X := (Mem × Int32) ⊕ (Bool × Mem)) (fun (z7 : (Mem × Int32 × Int32)) => z7.1) (fun (z7 : (Mem × Int32 × Int32)) => [(0, .ref (adr w 80)), (1, .int x0), (2, .int x1), (3, .int z7.2.1), (4, .int z7.2.2)]) (body := (fun (z7 : (Mem × Int32 × Int32)) => l_X7_findWithin_21 x0 x1 z7.1 z7.2.1 z7.2.2)) (fun F21_7 hF21_7 s => ?_) (σ2, 0, 0)
      obtain ⟨σ5, i6, i7⟩ := s
      show JO w mu_X7_findWithin vB σ5 [(0, .ref (adr w 80)), (1, .int x0), (2, .int x1), (3, .int i6), (4, .int i7)] [] 21 (l_X7_findWithin_21 x0 x1 σ5 i6 i7) _
      unfold l_X7_findWithin_21
      refine jo_iload (pc := 21) 4 rfl dX7_findWithin_21 ?_
      refine jo_ldc (pc := 23) dX7_findWithin_23 gw_942 ?_
      refine jo_icmp_ge (pc := 25) dX7_findWithin_25 (tgt := 133) rfl ?_ ?_
      · refine jo_lv (lv' := [(2, .int x1), (3, .int i6)]) [2, 3] rfl ?_
        exact jo_leaf (by rfl) (h133_4 (σ5, i6))
      · refine jo_iload_n (pc := 28) 3 rfl dX7_findWithin_28 rfl ?_
        refine jo_iload_n (pc := 29) 2 rfl dX7_findWithin_29 rfl ?_
        refine jo_icmp_ge (pc := 30) dX7_findWithin_30 (tgt := 133) rfl ?_ ?_
        · refine jo_lv (lv' := [(2, .int x1), (3, .int i6)]) [2, 3] rfl ?_
          exact jo_leaf (by rfl) (h133_4 (σ5, i6))
        · refine jo_aload_n (pc := 33) 0 rfl dX7_findWithin_33 rfl ?_
          refine jo_getrE (pc := 34) ok_7_7 (ik_80 hw) rf_80_7 gw_398 dX7_findWithin_34 ?_
          refine jo_iload_n (pc := 37) 3 rfl dX7_findWithin_37 rfl ?_
          refine jo_lald (pc := 38) (ik_103 hw) dX7_findWithin_38 (fun v8 => ?_)
          refine jo_iload_n (pc := 39) 1 rfl dX7_findWithin_39 rfl ?_
          refine jo_i2l (pc := 40) dX7_findWithin_40 ?_
          refine jo_joinS (S := (Mem × Int32)) (fun (z10 : (Mem × Int32)) => z10.1) (fun (z10 : (Mem × Int32)) => [(0, .ref (adr w 80)), (1, .int x0), (2, .int x1), (4, .int i7), (3, .int z10.2)]) (fun (z10 : (Mem × Int32)) => []) 127 ?_ (fun h127_10 => ?_)
          · intro s
            obtain ⟨σ9, i10⟩ := s
            show JO w mu_X7_findWithin vB σ9 [(0, .ref (adr w 80)), (1, .int x0), (2, .int x1), (4, .int i7), (3, .int i10)] [] 127 (j_X7_findWithin_127 i7 σ9 i10) _
            unfold j_X7_findWithin_127
            refine jo_iinc (pc := 127) (lv' := [(4, .int (i7 + 1)), (0, .ref (adr w 80)), (1, .int x0), (2, .int x1), (3, .int i10)]) 3 rfl dX7_findWithin_127 (congrArg (fun z => i7 + z) (ic_i_1)) (ltb rfl) rfl ?_
            refine jo_goto (pc := 130) dX7_findWithin_130 (tgt := 21) rfl ?_
            refine jo_lv (lv' := [(0, .ref (adr w 80)), (1, .int x0), (2, .int x1), (3, .int i10), (4, .int (i7 + 1))]) [1, 2, 3, 4, 0] rfl ?_
            exact jo_leaf (by rfl) (hF21_7 (σ9, i10, i7 + 1))
          · refine jo_lcmp_le (pc := 41) dX7_findWithin_41 dX7_findWithin_42 (tgt := 70) rfl ?_ ?_
            · refine jo_aload_n (pc := 70) 0 rfl dX7_findWithin_70 rfl ?_
              refine jo_iload_n (pc := 71) 3 rfl dX7_findWithin_71 rfl ?_
              refine jo_iconst (pc := 72) dX7_findWithin_72 (ic_i_1) ?_
              refine jo_iadd (pc := 73) dX7_findWithin_73 ?_
              refine jo_iload_n (pc := 74) 3 rfl dX7_findWithin_74 rfl ?_
              refine jo_iconst (pc := 75) dX7_findWithin_75 (ic_i_1) ?_
              refine jo_iadd (pc := 76) dX7_findWithin_76 ?_
              refine jo_iload_n (pc := 77) 2 rfl dX7_findWithin_77 rfl ?_
              refine jo_join1 (S := Int32) (fun (z11 : Int32) => σ5) (fun (z11 : Int32) => [(0, .ref (adr w 80)), (1, .int x0), (2, .int x1), (3, .int i6), (4, .int i7)]) (fun (z11 : Int32) => [.int z11, .int (i6 + 1), .ref (adr w 80)]) 89 ?_ (fun h89_11 => ?_)
              · intro i11
                show JO w mu_X7_findWithin vB σ5 [(0, .ref (adr w 80)), (1, .int x0), (2, .int x1), (3, .int i6), (4, .int i7)] [.int i11, .int (i6 + 1), .ref (adr w 80)] 89 (j_X7_findWithin_89 x0 x1 σ5 i6 i11) _
                unfold j_X7_findWithin_89
                refine jo_cV_Z_p (pc := 89) (μ' := mu_X7_areClosed) (fx := f_X7_areClosed σ5 (i6 + 1) i11) (As := [.int (i6 + 1), .int i11]) (c_X7_areClosed hw) (ok_X7_areClosed) (ltb rfl) (all3 gw_933 gw_935 gw_22) (ik_80 hw) (by decide) (q := (RX7, TX7, 11)) rfl rfl rfl rfl (Nat.le_of_ble_eq_true rfl) dX7_findWithin_89 (fun b12 => ?_)
                refine jo_ifz_ne (pc := 92) dX7_findWithin_92 (tgt := 111) rfl ?_ ?_
                · refine jo_iinc (pc := 111) (lv' := [(3, .int (i6 + 1)), (0, .ref (adr w 80)), (1, .int x0), (2, .int x1), (4, .int i7)]) 3 rfl dX7_findWithin_111 (congrArg (fun z => i6 + z) (ic_i_1)) (ltb rfl) rfl ?_
                  refine jo_iload_n (pc := 114) 0 rfl dX7_findWithin_114 rfl ?_
                  refine jo_iload_n (pc := 115) 3 rfl dX7_findWithin_115 rfl ?_
                  refine jo_icmp_ge (pc := 116) dX7_findWithin_116 (tgt := 127) rfl ?_ ?_
                  · refine jo_lv (lv' := [(0, .ref (adr w 80)), (1, .int x0), (2, .int x1), (4, .int i7), (3, .int (i6 + 1))]) [1, 2, 3, 4, 0] rfl ?_
                    exact jo_leaf (by rfl) (h127_10 (σ5, i6 + 1))
                  · refine jo_aload_n (pc := 119) 1 rfl dX7_findWithin_119 rfl ?_
                    refine jo_iload_n (pc := 120) 0 rfl dX7_findWithin_120 rfl ?_
                    refine jo_iload_n (pc := 121) 2 rfl dX7_findWithin_121 rfl ?_
                    refine jo_ineg (pc := 122) dX7_findWithin_122 ?_
                    refine jo_i2l (pc := 123) dX7_findWithin_123 ?_
                    refine jo_cV_V_i (pc := 124) (μ' := mu_X7_setU) (fx := f_X7_setU σ5 (i6 + 1) (Int32.toInt64 (-x0))) (As := [.int (i6 + 1), .long (Int32.toInt64 (-x0))]) (c_X7_setU hw) (ok_X7_setU) (ltb rfl) (all3 gw_928 gw_930 gw_21) (ik_80 hw) (by decide) (q := (RX7, TX7, 11)) rfl rfl rfl rfl (Nat.le_of_ble_eq_true rfl) dX7_findWithin_124 (fun σ13 => ?_)
                    refine jo_lv (lv' := [(0, .ref (adr w 80)), (1, .int x0), (2, .int x1), (4, .int i7), (3, .int (i6 + 1))]) [1, 2, 3, 4, 0] rfl ?_
                    exact jo_leaf (by rfl) (h127_10 (σ13, i6 + 1))
                · refine jo_aload_n (pc := 95) 0 rfl dX7_findWithin_95 rfl ?_
                  refine jo_iload_n (pc := 96) 3 rfl dX7_findWithin_96 rfl ?_
                  refine jo_aload_n (pc := 97) 0 rfl dX7_findWithin_97 rfl ?_
                  refine jo_getrE (pc := 98) ok_7_7 (ik_80 hw) rf_80_7 gw_398 dX7_findWithin_98 ?_
                  refine jo_iload_n (pc := 101) 3 rfl dX7_findWithin_101 rfl ?_
                  refine jo_lald (pc := 102) (ik_103 hw) dX7_findWithin_102 (fun v14 => ?_)
                  refine jo_lconst (pc := 103) dX7_findWithin_103 (ic_l_1) ?_
                  refine jo_ladd (pc := 104) dX7_findWithin_104 ?_
                  refine jo_cV_V_i (pc := 105) (μ' := mu_X7_setU) (fx := f_X7_setU σ5 i6 (v14 + 1)) (As := [.int i6, .long (v14 + 1)]) (c_X7_setU hw) (ok_X7_setU) (ltb rfl) (all3 gw_928 gw_930 gw_21) (ik_80 hw) (by decide) (q := (RX7, TX7, 11)) rfl rfl rfl rfl (Nat.le_of_ble_eq_true rfl) dX7_findWithin_105 (fun σ15 => ?_)
                  refine jo_goto (pc := 108) dX7_findWithin_108 (tgt := 127) rfl ?_
                  refine jo_lv (lv' := [(0, .ref (adr w 80)), (1, .int x0), (2, .int x1), (4, .int i7), (3, .int i6)]) [0, 1, 2, 4, 3] rfl ?_
                  exact jo_leaf (by rfl) (h127_10 (σ15, i6))
              · refine jo_icmp_ne (pc := 78) dX7_findWithin_78 (tgt := 86) rfl ?_ ?_
                · refine jo_iload_n (pc := 86) 3 rfl dX7_findWithin_86 rfl ?_
                  refine jo_iconst (pc := 87) dX7_findWithin_87 (ic_i_2) ?_
                  refine jo_iadd (pc := 88) dX7_findWithin_88 ?_
                  exact jo_leaf (by rfl) (h89_11 (i6 + 2))
                · refine jo_bipush (pc := 81) dX7_findWithin_81 (ic_b_6) ?_
                  refine jo_goto (pc := 83) dX7_findWithin_83 (tgt := 89) rfl ?_
                  exact jo_leaf (by rfl) (h89_11 6)
            · refine jo_iinc (pc := 45) (lv' := [(3, .int (i6 + (-1))), (0, .ref (adr w 80)), (1, .int x0), (2, .int x1), (4, .int i7)]) 3 rfl dX7_findWithin_45 (congrArg (fun z => i6 + z) (ic_i_m1)) (ltb rfl) rfl ?_
              refine jo_iload_n (pc := 48) 0 rfl dX7_findWithin_48 rfl ?_
              refine jo_if_ge (pc := 49) dX7_findWithin_49 (tgt := 54) rfl ?_ ?_
              · refine jo_aload_n (pc := 54) 1 rfl dX7_findWithin_54 rfl ?_
                refine jo_iload_n (pc := 55) 0 rfl dX7_findWithin_55 rfl ?_
                refine jo_aload_n (pc := 56) 1 rfl dX7_findWithin_56 rfl ?_
                refine jo_getrE (pc := 57) ok_7_7 (ik_80 hw) rf_80_7 gw_398 dX7_findWithin_57 ?_
                refine jo_iload_n (pc := 60) 0 rfl dX7_findWithin_60 rfl ?_
                refine jo_lald (pc := 61) (ik_103 hw) dX7_findWithin_61 (fun v16 => ?_)
                refine jo_lconst (pc := 62) dX7_findWithin_62 (ic_l_1) ?_
                refine jo_ladd (pc := 63) dX7_findWithin_63 ?_
                refine jo_cV_V_i (pc := 64) (μ' := mu_X7_setU) (fx := f_X7_setU σ5 (i6 + (-1)) (v16 + 1)) (As := [.int (i6 + (-1)), .long (v16 + 1)]) (c_X7_setU hw) (ok_X7_setU) (ltb rfl) (all3 gw_928 gw_930 gw_21) (ik_80 hw) (by decide) (q := (RX7, TX7, 11)) rfl rfl rfl rfl (Nat.le_of_ble_eq_true rfl) dX7_findWithin_64 (fun σ17 => ?_)
                refine jo_goto (pc := 67) dX7_findWithin_67 (tgt := 127) rfl ?_
                refine jo_lv (lv' := [(0, .ref (adr w 80)), (1, .int x0), (2, .int x1), (4, .int i7), (3, .int (i6 + (-1)))]) [1, 2, 3, 4, 0] rfl ?_
                exact jo_leaf (by rfl) (h127_10 (σ17, i6 + (-1)))
              · refine jo_iconst (pc := 52) dX7_findWithin_52 (ic_i_0) ?_
                exact jo_breturn (pc := 53) (b := false) rfl rfl dX7_findWithin_53
  · refine jo_if_ne (pc := 5) dX7_findWithin_5 (tgt := 12) rfl ?_ ?_
    · refine jo_iload_n (pc := 12) 2 rfl dX7_findWithin_12 rfl ?_
      refine jo_ineg (pc := 13) dX7_findWithin_13 ?_
      refine jo_i2l (pc := 14) dX7_findWithin_14 ?_
      exact jo_leaf (by rfl) (h15_1 (Int32.toInt64 (-x0)))
    · refine jo_lconst (pc := 8) dX7_findWithin_8 (ic_l_0) ?_
      refine jo_goto (pc := 9) dX7_findWithin_9 (tgt := 15) rfl ?_
      exact jo_leaf (by rfl) (h15_1 0)
theorem c_X7_findWithin {w : Wd} (hw : WOK w) {σ : Mem} {x0 : Int32} {x1 : Int32} : ∀ r σ', f_X7_findWithin σ x0 x1 = some (r, σ') → MC w mu_X7_findWithin (vB r) [.ref (adr w 80), .int x0, .int x1] σ σ' := mc_of ok_X7_findWithin rfl (Nat.le_of_ble_eq_true rfl) (t_X7_findWithin hw)
