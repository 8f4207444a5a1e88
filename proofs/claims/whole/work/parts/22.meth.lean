abbrev mu_X11_isFactor : MD := (yX11_isFactor, cX11_isFactor, 2, some .boolean, 0)
theorem ok_X11_isFactor : MOK mu_X11_isFactor 1 := ⟨gw_1683, gw_171, by decide +kernel, ⟨by decide +kernel, by decide +kernel, by decide +kernel⟩, Nat.le_of_ble_eq_true rfl⟩
noncomputable def j_X11_isFactor_30  : Option Bool :=
  some true
noncomputable def j_X11_isFactor_12 (x0 : Int32) : Option (Unit ⊕ Bool) :=
  if x0 = 82 then (some (Sum.inl ())) else (if x0 = 40 then (some (Sum.inl ())) else (if x0 = 91 then (some (Sum.inl ())) else (some (Sum.inr false))))
noncomputable def f_X11_isFactor (σ : Mem) (x0 : Int32) : Option Bool :=
  ((if x0 < 97 then (some (Sum.inl ())) else (if x0 ≤ 102 then (some (Sum.inr (Sum.inl ()))) else (some (Sum.inl ()))) : Option (Unit ⊕ (Unit ⊕ Bool))).bind (Sum.elim (fun (z0 : Unit) => j_X11_isFactor_12 x0) some) : Option (Unit ⊕ Bool)).bind (Sum.elim (fun (z0 : Unit) => j_X11_isFactor_30) some)
theorem t_X11_isFactor {w : Wd} (hw : WOK w) (hN : wn w = NT) {σ : Mem} {x0 : Int32} : JO w mu_X11_isFactor vB σ [(0, .ref (adr w 306)), (1, .int x0)] [] 0 (f_X11_isFactor σ x0) (fun z => some (z, σ)) := by
  unfold f_X11_isFactor
  refine jo_iload_n (pc := 0) 1 rfl dX11_isFactor_0 rfl ?_
  refine jo_bipush (pc := 1) dX11_isFactor_1 (ic_b_97) ?_
  refine jo_joinS (S := Unit) (fun (z0 : Unit) => σ) (fun (z0 : Unit) => []) (fun (z0 : Unit) => []) 30 ?_ (fun h30_0 => ?_)
  · intro _
    show JO w mu_X11_isFactor vB σ [] [] 30 (j_X11_isFactor_30) _
    unfold j_X11_isFactor_30
    refine jo_iconst (pc := 30) dX11_isFactor_30 (ic_i_1) ?_
    refine jo_goto (pc := 31) dX11_isFactor_31 (tgt := 35) rfl ?_
    exact jo_breturn (pc := 35) (b := true) rfl rfl dX11_isFactor_35
  · refine jo_joinS (S := Unit) (fun (z0 : Unit) => σ) (fun (z0 : Unit) => [(1, .int x0)]) (fun (z0 : Unit) => []) 12 ?_ (fun h12_0 => ?_)
    · intro _
      show JO w mu_X11_isFactor vB σ [(1, .int x0)] [] 12 (j_X11_isFactor_12 x0) _
      unfold j_X11_isFactor_12
      refine jo_iload_n (pc := 12) 0 rfl dX11_isFactor_12 rfl ?_
      refine jo_bipush (pc := 13) dX11_isFactor_13 (ic_b_82) ?_
      refine jo_icmp_eq (pc := 15) dX11_isFactor_15 (tgt := 30) rfl ?_ ?_
      · refine jo_lv (lv' := []) [] rfl ?_
        exact jo_leaf (by rfl) (h30_0 ())
      · refine jo_iload_n (pc := 18) 0 rfl dX11_isFactor_18 rfl ?_
        refine jo_bipush (pc := 19) dX11_isFactor_19 (ic_b_40) ?_
        refine jo_icmp_eq (pc := 21) dX11_isFactor_21 (tgt := 30) rfl ?_ ?_
        · refine jo_lv (lv' := []) [] rfl ?_
          exact jo_leaf (by rfl) (h30_0 ())
        · refine jo_iload_n (pc := 24) 0 rfl dX11_isFactor_24 rfl ?_
          refine jo_bipush (pc := 25) dX11_isFactor_25 (ic_b_91) ?_
          refine jo_icmp_ne (pc := 27) dX11_isFactor_27 (tgt := 34) rfl ?_ ?_
          · refine jo_iconst (pc := 34) dX11_isFactor_34 (ic_i_0) ?_
            exact jo_breturn (pc := 35) (b := false) rfl rfl dX11_isFactor_35
          · refine jo_lv (lv' := []) [] rfl ?_
            exact jo_leaf (by rfl) (h30_0 ())
    · refine jo_icmp_lt (pc := 3) dX11_isFactor_3 (tgt := 12) rfl ?_ ?_
      · refine jo_lv (lv' := [(1, .int x0)]) [1] rfl ?_
        exact jo_leaf (by rfl) (h12_0 ())
      · refine jo_iload_n (pc := 6) 1 rfl dX11_isFactor_6 rfl ?_
        refine jo_bipush (pc := 7) dX11_isFactor_7 (ic_b_102) ?_
        refine jo_icmp_le (pc := 9) dX11_isFactor_9 (tgt := 30) rfl ?_ ?_
        · refine jo_lv (lv' := []) [] rfl ?_
          exact jo_leaf (by rfl) (h30_0 ())
        · refine jo_lv (lv' := [(1, .int x0)]) [1] rfl ?_
          exact jo_leaf (by rfl) (h12_0 ())
theorem c_X11_isFactor {w : Wd} (hw : WOK w) (hN : wn w = NT) {σ : Mem} {x0 : Int32} : ∀ r, f_X11_isFactor σ x0 = some r → MC w mu_X11_isFactor (vB r) [.ref (adr w 306), .int x0] σ σ := mc_ofP ok_X11_isFactor rfl (Nat.le_of_ble_eq_true rfl) (t_X11_isFactor hw hN)
abbrev mu_X11_must : MD := (yX11_must, cX11_must, 2, none, 2)
theorem ok_X11_must : MOK mu_X11_must 1 := ⟨gw_1703, gw_171, by decide +kernel, ⟨by decide +kernel, by decide +kernel, by decide +kernel⟩, Nat.le_of_ble_eq_true rfl⟩
noncomputable def f_X11_must (σ : Mem) (x0 : Int32) : Option Mem :=
  (f_X11_isWrong σ).bind (fun (b1 : Bool) => if b1 then some σ else bq (f_X11_behindBlanks σ) (fun (v2 : Int32) (σ3 : Mem) => if v2 = x0 then (gF σ3 306 21 (fun (v4 : Int32) => pF σ3 306 21 (v4 + 1) (fun (σ5 : Mem) => some σ5))) else (gF σ3 306 21 (fun (v6 : Int32) => (f_X11_errs σ3 1 v6).bind (fun (σ7 : Mem) => some σ7)))))
theorem t_X11_must {w : Wd} (hw : WOK w) (hN : wn w = NT) {σ : Mem} {x0 : Int32} : JO w mu_X11_must vV σ [(0, .ref (adr w 306)), (1, .int x0)] [] 0 (f_X11_must σ x0) (fun z => some ((), z)) := by
  unfold f_X11_must
  refine jo_aload_n (pc := 0) 0 rfl dX11_must_0 rfl ?_
  refine jo_cV_Z_p (pc := 1) (μ' := mu_X11_isWrong) (fx := f_X11_isWrong σ) (As := []) (c_X11_isWrong hw hN) (ok_X11_isWrong) (ltb rfl) (all3 gw_1668 gw_1670 gw_110) (ik_306 hw hN) (by decide) (q := (RX11, TX11, 39)) rfl rfl rfl rfl (Nat.le_of_ble_eq_true rfl) dX11_must_1 (fun b1 => ?_)
  refine jo_ifz_eq (pc := 4) dX11_must_4 (tgt := 8) rfl ?_ ?_
  · refine jo_aload_n (pc := 8) 0 rfl dX11_must_8 rfl ?_
    refine jo_cV_I_i (pc := 9) (μ' := mu_X11_behindBlanks) (fx := f_X11_behindBlanks σ) (As := []) (c_X11_behindBlanks hw hN) (ok_X11_behindBlanks) (ltb rfl) (all3 gw_1672 gw_1674 gw_111) (ik_306 hw hN) (by decide) (q := (RX11, TX11, 39)) rfl rfl rfl rfl (Nat.le_of_ble_eq_true rfl) dX11_must_9 (fun v2 σ3 => ?_)
    refine jo_iload_n (pc := 12) 1 rfl dX11_must_12 rfl ?_
    refine jo_icmp_eq (pc := 13) dX11_must_13 (tgt := 28) rfl ?_ ?_
    · refine jo_aload_n (pc := 28) 0 rfl dX11_must_28 rfl ?_
      refine jo_aload_n (pc := 29) 0 rfl dX11_must_29 rfl ?_
      refine jo_getf (pc := 30) ok_11_21 (ik_306 hw hN) gw_1317 dX11_must_30 (fun v4 => ?_)
      refine jo_iconst (pc := 33) dX11_must_33 (ic_i_1) ?_
      refine jo_iadd (pc := 34) dX11_must_34 ?_
      refine jo_putf (pc := 35) ok_11_21 okp_11_21 (ik_306 hw hN) gw_1317 dX11_must_35 (fun σ5 => ?_)
      exact jo_return (pc := 38) rfl rfl dX11_must_38
    · refine jo_aload_n (pc := 16) 0 rfl dX11_must_16 rfl ?_
      refine jo_iconst (pc := 17) dX11_must_17 (ic_i_1) ?_
      refine jo_aload_n (pc := 18) 0 rfl dX11_must_18 rfl ?_
      refine jo_getf (pc := 19) ok_11_21 (ik_306 hw hN) gw_1317 dX11_must_19 (fun v6 => ?_)
      refine jo_cV_V_i (pc := 22) (μ' := mu_X11_errs) (fx := f_X11_errs σ3 1 v6) (As := [.int 1, .int v6]) (c_X11_errs hw hN) (ok_X11_errs) (ltb rfl) (all3 gw_1688 gw_1690 gw_115) (ik_306 hw hN) (by decide) (q := (RX11, TX11, 39)) rfl rfl rfl rfl (Nat.le_of_ble_eq_true rfl) dX11_must_22 (fun σ7 => ?_)
      refine jo_goto (pc := 25) dX11_must_25 (tgt := 38) rfl ?_
      exact jo_return (pc := 38) rfl rfl dX11_must_38
  · exact jo_return (pc := 7) rfl rfl dX11_must_7
theorem c_X11_must {w : Wd} (hw : WOK w) (hN : wn w = NT) {σ : Mem} {x0 : Int32} : ∀ σ', f_X11_must σ x0 = some σ' → MC w mu_X11_must none [.ref (adr w 306), .int x0] σ σ' := mc_ofV ok_X11_must rfl (Nat.le_of_ble_eq_true rfl) (t_X11_must hw hN)
abbrev mu_X11_readPower : MD := (yX11_readPower, cX11_readPower, 6, none, 6)
theorem ok_X11_readPower : MOK mu_X11_readPower 1 := ⟨gw_1715, gw_171, by decide +kernel, ⟨by decide +kernel, by decide +kernel, by decide +kernel⟩, Nat.le_of_ble_eq_true rfl⟩
noncomputable def j_X11_readPower_193 (x0 : Int32) (σ17 : Mem) (i18 : Int32) : Option Mem :=
  (f_X11_raises σ17 x0 (x0 + 1) i18).bind (fun (σ19 : Mem) => (f_X11_copies σ19 (x0 + 1) x0).bind (fun (σ20 : Mem) => (f_X11_checks σ20 x0).bind (fun (σ21 : Mem) => some σ21)))
noncomputable def j_X11_readPower_153 (x0 : Int32) (b9 : Bool) (v11 : Int32) (σ14 : Mem) (i15 : Int32) : Option Mem :=
  if i15 ≤ 99 then (gF σ14 306 21 (fun (v16 : Int32) => pF σ14 306 23 v16 (fun (σ17 : Mem) => (if b9 then some (-i15) else some i15 : Option Int32).bind (fun (z18 : Int32) => j_X11_readPower_193 x0 σ17 z18)))) else ((f_X11_errs σ14 2 v11).bind (fun (σ22 : Mem) => some σ22))
noncomputable def j_X11_readPower_138 (σ23 : Mem) (i27 : Int32) : Option ((Mem × Int32) ⊕ (Mem × Int32)) :=
  gF σ23 306 21 (fun (v28 : Int32) => pF σ23 306 21 (v28 + 1) (fun (σ29 : Mem) => some (Sum.inl (σ29, i27))))
noncomputable def l_X11_readPower_102 (σ23 : Mem) (i24 : Int32) : Option ((Mem × Int32) ⊕ (Mem × Int32)) :=
  (f_X11_here σ23).bind (fun (v25 : Int32) => (f_X11_isDigit σ23 v25).bind (fun (b26 : Bool) => if b26 then (if i24 ≤ 99 then ((f_X11_here σ23).bind (fun (v30 : Int32) => some (((10 * i24) + v30) - 48))) else (some i24) : Option Int32).bind (fun (z27 : Int32) => j_X11_readPower_138 σ23 z27) else some (Sum.inr (σ23, i24))))
noncomputable def j_X11_readPower_72 (x0 : Int32) (b9 : Bool) (σ10 : Mem) : Option Mem :=
  gF σ10 306 21 (fun (v11 : Int32) => (f_X11_here σ10).bind (fun (v12 : Int32) => (f_X11_isDigit σ10 v12).bind (fun (b13 : Bool) => if b13 then (loopO (fun (z24 : (Mem × Int32)) => l_X11_readPower_102 z24.1 z24.2) (σ10, 0) : Option (Mem × Int32)).bind (fun (z15 : (Mem × Int32)) => j_X11_readPower_153 x0 b9 v11 z15.1 z15.2) else gF σ10 306 21 (fun (v31 : Int32) => (f_X11_errs σ10 1 v31).bind (fun (σ32 : Mem) => some σ32)))))
noncomputable def j_X11_readPower_52 (x0 : Int32) (σ8 : Mem) (b9 : Bool) : Option Mem :=
  (if b9 then gF σ8 306 21 (fun (v33 : Int32) => pF σ8 306 21 (v33 + 1) (fun (σ34 : Mem) => bq (f_X11_behindBlanks σ34) (fun (v35 : Int32) (σ36 : Mem) => some σ36))) else some σ8 : Option Mem).bind (fun (z10 : Mem) => j_X11_readPower_72 x0 b9 z10)
noncomputable def f_X11_readPower (σ : Mem) (x0 : Int32) : Option Mem :=
  (f_X11_isWrong σ).bind (fun (b1 : Bool) => if b1 then some σ else gF σ 306 21 (fun (v2 : Int32) => bq (f_X11_behindBlanks σ) (fun (v3 : Int32) (σ4 : Mem) => if v3 = 94 then (gF σ4 306 21 (fun (v5 : Int32) => pF σ4 306 21 (v5 + 1) (fun (σ6 : Mem) => bq (f_X11_behindBlanks σ6) (fun (v7 : Int32) (σ8 : Mem) => (if v7 = 45 then (some true) else (some false) : Option Bool).bind (fun (z9 : Bool) => j_X11_readPower_52 x0 σ8 z9))))) else (pF σ4 306 21 v2 (fun (σ37 : Mem) => some σ37)))))
theorem t_X11_readPower {w : Wd} (hw : WOK w) (hN : wn w = NT) {σ : Mem} {x0 : Int32} : JO w mu_X11_readPower vV σ [(0, .ref (adr w 306)), (1, .int x0)] [] 0 (f_X11_readPower σ x0) (fun z => some ((), z)) := by
  unfold f_X11_readPower
  refine jo_aload_n (pc := 0) 0 rfl dX11_readPower_0 rfl ?_
  refine jo_cV_Z_p (pc := 1) (μ' := mu_X11_isWrong) (fx := f_X11_isWrong σ) (As := []) (c_X11_isWrong hw hN) (ok_X11_isWrong) (ltb rfl) (all3 gw_1668 gw_1670 gw_110) (ik_306 hw hN) (by decide) (q := (RX11, TX11, 39)) rfl rfl rfl rfl (Nat.le_of_ble_eq_true rfl) dX11_readPower_1 (fun b1 => ?_)
  refine jo_ifz_eq (pc := 4) dX11_readPower_4 (tgt := 8) rfl ?_ ?_
  · refine jo_aload_n (pc := 8) 0 rfl dX11_readPower_8 rfl ?_
    refine jo_getf (pc := 9) ok_11_21 (ik_306 hw hN) gw_1317 dX11_readPower_9 (fun v2 => ?_)
    refine jo_istore_n (pc := 12) (lv' := [(2, .int v2), (0, .ref (adr w 306)), (1, .int x0)]) dX11_readPower_12 rfl (ltb rfl) rfl ?_
    refine jo_aload_n (pc := 13) 1 rfl dX11_readPower_13 rfl ?_
    refine jo_cV_I_i (pc := 14) (μ' := mu_X11_behindBlanks) (fx := f_X11_behindBlanks σ) (As := []) (c_X11_behindBlanks hw hN) (ok_X11_behindBlanks) (ltb rfl) (all3 gw_1672 gw_1674 gw_111) (ik_306 hw hN) (by decide) (q := (RX11, TX11, 39)) rfl rfl rfl rfl (Nat.le_of_ble_eq_true rfl) dX11_readPower_14 (fun v3 σ4 => ?_)
    refine jo_bipush (pc := 17) dX11_readPower_17 (ic_b_94) ?_
    refine jo_icmp_eq (pc := 19) dX11_readPower_19 (tgt := 28) rfl ?_ ?_
    · refine jo_aload_n (pc := 28) 1 rfl dX11_readPower_28 rfl ?_
      refine jo_aload_n (pc := 29) 1 rfl dX11_readPower_29 rfl ?_
      refine jo_getf (pc := 30) ok_11_21 (ik_306 hw hN) gw_1317 dX11_readPower_30 (fun v5 => ?_)
      refine jo_iconst (pc := 33) dX11_readPower_33 (ic_i_1) ?_
      refine jo_iadd (pc := 34) dX11_readPower_34 ?_
      refine jo_putf (pc := 35) ok_11_21 okp_11_21 (ik_306 hw hN) gw_1317 dX11_readPower_35 (fun σ6 => ?_)
      refine jo_aload_n (pc := 38) 1 rfl dX11_readPower_38 rfl ?_
      refine jo_cV_I_i (pc := 39) (μ' := mu_X11_behindBlanks) (fx := f_X11_behindBlanks σ6) (As := []) (c_X11_behindBlanks hw hN) (ok_X11_behindBlanks) (ltb rfl) (all3 gw_1672 gw_1674 gw_111) (ik_306 hw hN) (by decide) (q := (RX11, TX11, 39)) rfl rfl rfl rfl (Nat.le_of_ble_eq_true rfl) dX11_readPower_39 (fun v7 σ8 => ?_)
      refine jo_bipush (pc := 42) dX11_readPower_42 (ic_b_45) ?_
      refine jo_join1 (S := Bool) (fun (z9 : Bool) => σ8) (fun (z9 : Bool) => [(0, .ref (adr w 306)), (1, .int x0)]) (fun (z9 : Bool) => [.int (b2i z9)]) 52 ?_ (fun h52_9 => ?_)
      · intro b9
        show JO w mu_X11_readPower vV σ8 [(0, .ref (adr w 306)), (1, .int x0)] [.int (b2i b9)] 52 (j_X11_readPower_52 x0 σ8 b9) _
        unfold j_X11_readPower_52
        refine jo_istore_n (pc := 52) (lv' := [(3, .int (b2i b9)), (0, .ref (adr w 306)), (1, .int x0)]) dX11_readPower_52 rfl (ltb rfl) rfl ?_
        refine jo_iload_n (pc := 53) 0 rfl dX11_readPower_53 rfl ?_
        refine jo_join1 (S := Mem) (fun (z10 : Mem) => z10) (fun (z10 : Mem) => [(3, .int (b2i b9)), (0, .ref (adr w 306)), (1, .int x0)]) (fun (z10 : Mem) => []) 72 ?_ (fun h72_10 => ?_)
        · intro σ10
          show JO w mu_X11_readPower vV σ10 [(3, .int (b2i b9)), (0, .ref (adr w 306)), (1, .int x0)] [] 72 (j_X11_readPower_72 x0 b9 σ10) _
          unfold j_X11_readPower_72
          refine jo_aload_n (pc := 72) 1 rfl dX11_readPower_72 rfl ?_
          refine jo_getf (pc := 73) ok_11_21 (ik_306 hw hN) gw_1317 dX11_readPower_73 (fun v11 => ?_)
          refine jo_istore (pc := 76) (lv' := [(4, .int v11), (3, .int (b2i b9)), (0, .ref (adr w 306)), (1, .int x0)]) dX11_readPower_76 (ltb rfl) rfl ?_
          refine jo_aload_n (pc := 78) 2 rfl dX11_readPower_78 rfl ?_
          refine jo_aload_n (pc := 79) 2 rfl dX11_readPower_79 rfl ?_
          refine jo_cV_I_p (pc := 80) (μ' := mu_X11_here) (fx := f_X11_here σ10) (As := []) (c_X11_here hw hN) (ok_X11_here) (ltb rfl) (all3 gw_1676 gw_1678 gw_112) (ik_306 hw hN) (by decide) (q := (RX11, TX11, 39)) rfl rfl rfl rfl (Nat.le_of_ble_eq_true rfl) dX11_readPower_80 (fun v12 => ?_)
          refine jo_cV_Z_p (pc := 83) (μ' := mu_X11_isDigit) (fx := f_X11_isDigit σ10 v12) (As := [.int v12]) (c_X11_isDigit hw hN) (ok_X11_isDigit) (ltb rfl) (all3 gw_1692 gw_1694 gw_116) (ik_306 hw hN) (by decide) (q := (RX11, TX11, 39)) rfl rfl rfl rfl (Nat.le_of_ble_eq_true rfl) dX11_readPower_83 (fun b13 => ?_)
          refine jo_ifz_ne (pc := 86) dX11_readPower_86 (tgt := 99) rfl ?_ ?_
          · refine jo_iconst (pc := 99) dX11_readPower_99 (ic_i_0) ?_
            refine jo_istore (pc := 100) (lv' := [(5, .int 0), (4, .int v11), (3, .int (b2i b9)), (0, .ref (adr w 306)), (1, .int x0)]) dX11_readPower_100 (ltb rfl) rfl ?_
            refine jo_join1 (S := (Mem × Int32)) (fun (z15 : (Mem × Int32)) => z15.1) (fun (z15 : (Mem × Int32)) => [(4, .int v11), (3, .int (b2i b9)), (0, .ref (adr w 306)), (1, .int x0), (5, .int z15.2)]) (fun (z15 : (Mem × Int32)) => []) 153 ?_ (fun h153_15 => ?_)
            · intro s
              obtain ⟨σ14, i15⟩ := s
              show JO w mu_X11_readPower vV σ14 [(4, .int v11), (3, .int (b2i b9)), (0, .ref (adr w 306)), (1, .int x0), (5, .int i15)] [] 153 (j_X11_readPower_153 x0 b9 v11 σ14 i15) _
              unfold j_X11_readPower_153
              refine jo_iload (pc := 153) 4 rfl dX11_readPower_153 ?_
              refine jo_bipush (pc := 155) dX11_readPower_155 (ic_b_99) ?_
              refine jo_icmp_le (pc := 157) dX11_readPower_157 (tgt := 168) rfl ?_ ?_
              · refine jo_aload_n (pc := 168) 2 rfl dX11_readPower_168 rfl ?_
                refine jo_aload_n (pc := 169) 2 rfl dX11_readPower_169 rfl ?_
                refine jo_getf (pc := 170) ok_11_21 (ik_306 hw hN) gw_1317 dX11_readPower_170 (fun v16 => ?_)
                refine jo_putf (pc := 173) ok_11_23 okp_11_23 (ik_306 hw hN) gw_1319 dX11_readPower_173 (fun σ17 => ?_)
                refine jo_aload_n (pc := 176) 2 rfl dX11_readPower_176 rfl ?_
                refine jo_iload_n (pc := 177) 3 rfl dX11_readPower_177 rfl ?_
                refine jo_iload_n (pc := 178) 3 rfl dX11_readPower_178 rfl ?_
                refine jo_iconst (pc := 179) dX11_readPower_179 (ic_i_1) ?_
                refine jo_iadd (pc := 180) dX11_readPower_180 ?_
                refine jo_iload_n (pc := 181) 1 rfl dX11_readPower_181 rfl ?_
                refine jo_join1 (S := Int32) (fun (z18 : Int32) => σ17) (fun (z18 : Int32) => [(0, .ref (adr w 306)), (1, .int x0)]) (fun (z18 : Int32) => [.int z18, .int (x0 + 1), .int x0, .ref (adr w 306)]) 193 ?_ (fun h193_18 => ?_)
                · intro i18
                  show JO w mu_X11_readPower vV σ17 [(0, .ref (adr w 306)), (1, .int x0)] [.int i18, .int (x0 + 1), .int x0, .ref (adr w 306)] 193 (j_X11_readPower_193 x0 σ17 i18) _
                  unfold j_X11_readPower_193
                  refine jo_cV_V_i (pc := 193) (μ' := mu_X11_raises) (fx := f_X11_raises σ17 x0 (x0 + 1) i18) (As := [.int x0, .int (x0 + 1), .int i18]) (c_X11_raises hw hN) (ok_X11_raises) (ltb rfl) (all3 gw_1604 gw_1606 gw_101) (ik_306 hw hN) (by decide) (q := (RX11, TX11, 39)) rfl rfl rfl rfl (Nat.le_of_ble_eq_true rfl) dX11_readPower_193 (fun σ19 => ?_)
                  refine jo_aload_n (pc := 196) 0 rfl dX11_readPower_196 rfl ?_
                  refine jo_iload_n (pc := 197) 1 rfl dX11_readPower_197 rfl ?_
                  refine jo_iconst (pc := 198) dX11_readPower_198 (ic_i_1) ?_
                  refine jo_iadd (pc := 199) dX11_readPower_199 ?_
                  refine jo_iload_n (pc := 200) 1 rfl dX11_readPower_200 rfl ?_
                  refine jo_cV_V_i (pc := 201) (μ' := mu_X11_copies) (fx := f_X11_copies σ19 (x0 + 1) x0) (As := [.int (x0 + 1), .int x0]) (c_X11_copies hw hN) (ok_X11_copies) (ltb rfl) (all3 gw_1594 gw_1596 gw_100) (ik_306 hw hN) (by decide) (q := (RX11, TX11, 39)) rfl rfl rfl rfl (Nat.le_of_ble_eq_true rfl) dX11_readPower_201 (fun σ20 => ?_)
                  refine jo_aload_n (pc := 204) 0 rfl dX11_readPower_204 rfl ?_
                  refine jo_iload_n (pc := 205) 1 rfl dX11_readPower_205 rfl ?_
                  refine jo_cV_V_i (pc := 206) (μ' := mu_X11_checks) (fx := f_X11_checks σ20 x0) (As := [.int x0]) (c_X11_checks hw hN) (ok_X11_checks) (ltb rfl) (all3 gw_1708 gw_1710 gw_120) (ik_306 hw hN) (by decide) (q := (RX11, TX11, 39)) rfl rfl rfl rfl (Nat.le_of_ble_eq_true rfl) dX11_readPower_206 (fun σ21 => ?_)
                  exact jo_return (pc := 209) rfl rfl dX11_readPower_209
                · refine jo_ifz_eq (pc := 182) dX11_readPower_182 (tgt := 191) rfl ?_ ?_
                  · refine jo_iload (pc := 191) 4 rfl dX11_readPower_191 ?_
                    refine jo_lv (lv' := [(0, .ref (adr w 306)), (1, .int x0)]) [2, 3] rfl ?_
                    exact jo_leaf (by rfl) (h193_18 i15)
                  · refine jo_iload (pc := 185) 4 rfl dX11_readPower_185 ?_
                    refine jo_ineg (pc := 187) dX11_readPower_187 ?_
                    refine jo_goto (pc := 188) dX11_readPower_188 (tgt := 193) rfl ?_
                    refine jo_lv (lv' := [(0, .ref (adr w 306)), (1, .int x0)]) [2, 3] rfl ?_
                    exact jo_leaf (by rfl) (h193_18 (-i15))
              · refine jo_aload_n (pc := 160) 2 rfl dX11_readPower_160 rfl ?_
                refine jo_iconst (pc := 161) dX11_readPower_161 (ic_i_2) ?_
                refine jo_iload (pc := 162) 0 rfl dX11_readPower_162 ?_
                refine jo_cV_V_i (pc := 164) (μ' := mu_X11_errs) (fx := f_X11_errs σ14 2 v11) (As := [.int 2, .int v11]) (c_X11_errs hw hN) (ok_X11_errs) (ltb rfl) (all3 gw_1688 gw_1690 gw_115) (ik_306 hw hN) (by decide) (q := (RX11, TX11, 39)) rfl rfl rfl rfl (Nat.le_of_ble_eq_true rfl) dX11_readPower_164 (fun σ22 => ?_)
                exact jo_return (pc := 167) rfl rfl dX11_readPower_167
            · refine jo_lv (lv' := [(4, .int v11), (3, .int (b2i b9)), (0, .ref (adr w 306)), (1, .int x0), (5, .int 0)]) [1, 2, 3, 4, 0] rfl ?_
              refine jo_loop (X := (Mem × Int32)) (fun (z24 : (Mem × Int32)) => z24.1) (fun (z24 : (Mem × Int32)) => [(4, .int v11), (3, .int (b2i b9)), (0, .ref (adr w 306)), (1, .int x0), (5, .int z24.2)]) (body := (fun (z24 : (Mem × Int32)) => l_X11_readPower_102 z24.1 z24.2)) (fun F102_24 hF102_24 s => ?_) (σ10, 0)
              obtain ⟨σ23, i24⟩ := s
              show JO w mu_X11_readPower vV σ23 [(4, .int v11), (3, .int (b2i b9)), (0, .ref (adr w 306)), (1, .int x0), (5, .int i24)] [] 102 (l_X11_readPower_102 σ23 i24) _
              unfold l_X11_readPower_102
              refine jo_aload_n (pc := 102) 2 rfl dX11_readPower_102 rfl ?_
              refine jo_aload_n (pc := 103) 2 rfl dX11_readPower_103 rfl ?_
              refine jo_cV_I_p (pc := 104) (μ' := mu_X11_here) (fx := f_X11_here σ23) (As := []) (c_X11_here hw hN) (ok_X11_here) (ltb rfl) (all3 gw_1676 gw_1678 gw_112) (ik_306 hw hN) (by decide) (q := (RX11, TX11, 39)) rfl rfl rfl rfl (Nat.le_of_ble_eq_true rfl) dX11_readPower_104 (fun v25 => ?_)
              refine jo_cV_Z_p (pc := 107) (μ' := mu_X11_isDigit) (fx := f_X11_isDigit σ23 v25) (As := [.int v25]) (c_X11_isDigit hw hN) (ok_X11_isDigit) (ltb rfl) (all3 gw_1692 gw_1694 gw_116) (ik_306 hw hN) (by decide) (q := (RX11, TX11, 39)) rfl rfl rfl rfl (Nat.le_of_ble_eq_true rfl) dX11_readPower_107 (fun b26 => ?_)
              refine jo_ifz_eq (pc := 110) dX11_readPower_110 (tgt := 153) rfl ?_ ?_
              · exact jo_leaf (by rfl) (h153_15 (σ23, i24))
              · refine jo_iload (pc := 113) 4 rfl dX11_readPower_113 ?_
                refine jo_bipush (pc := 115) dX11_readPower_115 (ic_b_99) ?_
                refine jo_join1 (S := Int32) (fun (z27 : Int32) => σ23) (fun (z27 : Int32) => [(4, .int v11), (3, .int (b2i b9)), (0, .ref (adr w 306)), (1, .int x0)]) (fun (z27 : Int32) => [.int z27]) 138 ?_ (fun h138_27 => ?_)
                · intro i27
                  show JO w mu_X11_readPower vV σ23 [(4, .int v11), (3, .int (b2i b9)), (0, .ref (adr w 306)), (1, .int x0)] [.int i27] 138 (j_X11_readPower_138 σ23 i27) _
                  unfold j_X11_readPower_138
                  refine jo_istore (pc := 138) (lv' := [(5, .int i27), (4, .int v11), (3, .int (b2i b9)), (0, .ref (adr w 306)), (1, .int x0)]) dX11_readPower_138 (ltb rfl) rfl ?_
                  refine jo_aload_n (pc := 140) 3 rfl dX11_readPower_140 rfl ?_
                  refine jo_aload_n (pc := 141) 3 rfl dX11_readPower_141 rfl ?_
                  refine jo_getf (pc := 142) ok_11_21 (ik_306 hw hN) gw_1317 dX11_readPower_142 (fun v28 => ?_)
                  refine jo_iconst (pc := 145) dX11_readPower_145 (ic_i_1) ?_
                  refine jo_iadd (pc := 146) dX11_readPower_146 ?_
                  refine jo_putf (pc := 147) ok_11_21 okp_11_21 (ik_306 hw hN) gw_1317 dX11_readPower_147 (fun σ29 => ?_)
                  refine jo_goto (pc := 150) dX11_readPower_150 (tgt := 102) rfl ?_
                  refine jo_lv (lv' := [(4, .int v11), (3, .int (b2i b9)), (0, .ref (adr w 306)), (1, .int x0), (5, .int i27)]) [1, 2, 3, 4, 0] rfl ?_
                  exact jo_leaf (by rfl) (hF102_24 (σ29, i27))
                · refine jo_icmp_le (pc := 117) dX11_readPower_117 (tgt := 125) rfl ?_ ?_
                  · refine jo_bipush (pc := 125) dX11_readPower_125 (ic_b_10) ?_
                    refine jo_iload (pc := 127) 4 rfl dX11_readPower_127 ?_
                    refine jo_imul (pc := 129) dX11_readPower_129 ?_
                    refine jo_aload_n (pc := 130) 2 rfl dX11_readPower_130 rfl ?_
                    refine jo_cV_I_p (pc := 131) (μ' := mu_X11_here) (fx := f_X11_here σ23) (As := []) (c_X11_here hw hN) (ok_X11_here) (ltb rfl) (all3 gw_1676 gw_1678 gw_112) (ik_306 hw hN) (by decide) (q := (RX11, TX11, 39)) rfl rfl rfl rfl (Nat.le_of_ble_eq_true rfl) dX11_readPower_131 (fun v30 => ?_)
                    refine jo_iadd (pc := 134) dX11_readPower_134 ?_
                    refine jo_bipush (pc := 135) dX11_readPower_135 (ic_b_48) ?_
                    refine jo_isub (pc := 137) dX11_readPower_137 ?_
                    refine jo_lv (lv' := [(4, .int v11), (3, .int (b2i b9)), (0, .ref (adr w 306)), (1, .int x0)]) [0, 1, 2, 3] rfl ?_
                    exact jo_leaf (by rfl) (h138_27 (((10 * i24) + v30) - 48))
                  · refine jo_iload (pc := 120) 4 rfl dX11_readPower_120 ?_
                    refine jo_goto (pc := 122) dX11_readPower_122 (tgt := 138) rfl ?_
                    refine jo_lv (lv' := [(4, .int v11), (3, .int (b2i b9)), (0, .ref (adr w 306)), (1, .int x0)]) [0, 1, 2, 3] rfl ?_
                    exact jo_leaf (by rfl) (h138_27 i24)
          · refine jo_aload_n (pc := 89) 2 rfl dX11_readPower_89 rfl ?_
            refine jo_iconst (pc := 90) dX11_readPower_90 (ic_i_1) ?_
            refine jo_aload_n (pc := 91) 2 rfl dX11_readPower_91 rfl ?_
            refine jo_getf (pc := 92) ok_11_21 (ik_306 hw hN) gw_1317 dX11_readPower_92 (fun v31 => ?_)
            refine jo_cV_V_i (pc := 95) (μ' := mu_X11_errs) (fx := f_X11_errs σ10 1 v31) (As := [.int 1, .int v31]) (c_X11_errs hw hN) (ok_X11_errs) (ltb rfl) (all3 gw_1688 gw_1690 gw_115) (ik_306 hw hN) (by decide) (q := (RX11, TX11, 39)) rfl rfl rfl rfl (Nat.le_of_ble_eq_true rfl) dX11_readPower_95 (fun σ32 => ?_)
            exact jo_return (pc := 98) rfl rfl dX11_readPower_98
        · refine jo_ifz_eq (pc := 54) dX11_readPower_54 (tgt := 72) rfl ?_ ?_
          · exact jo_leaf (by rfl) (h72_10 σ8)
          · refine jo_aload_n (pc := 57) 1 rfl dX11_readPower_57 rfl ?_
            refine jo_aload_n (pc := 58) 1 rfl dX11_readPower_58 rfl ?_
            refine jo_getf (pc := 59) ok_11_21 (ik_306 hw hN) gw_1317 dX11_readPower_59 (fun v33 => ?_)
            refine jo_iconst (pc := 62) dX11_readPower_62 (ic_i_1) ?_
            refine jo_iadd (pc := 63) dX11_readPower_63 ?_
            refine jo_putf (pc := 64) ok_11_21 okp_11_21 (ik_306 hw hN) gw_1317 dX11_readPower_64 (fun σ34 => ?_)
            refine jo_aload_n (pc := 67) 1 rfl dX11_readPower_67 rfl ?_
            refine jo_cV_I_i (pc := 68) (μ' := mu_X11_behindBlanks) (fx := f_X11_behindBlanks σ34) (As := []) (c_X11_behindBlanks hw hN) (ok_X11_behindBlanks) (ltb rfl) (all3 gw_1672 gw_1674 gw_111) (ik_306 hw hN) (by decide) (q := (RX11, TX11, 39)) rfl rfl rfl rfl (Nat.le_of_ble_eq_true rfl) dX11_readPower_68 (fun v35 σ36 => ?_)
            refine jo_pop (pc := 71) dX11_readPower_71 rfl ?_
            exact jo_leaf (by rfl) (h72_10 σ36)
      · refine jo_icmp_ne (pc := 44) dX11_readPower_44 (tgt := 51) rfl ?_ ?_
        · refine jo_iconst (pc := 51) dX11_readPower_51 (ic_i_0) ?_
          refine jo_lv (lv' := [(0, .ref (adr w 306)), (1, .int x0)]) [1, 2] rfl ?_
          exact jo_leaf (by rfl) (h52_9 false)
        · refine jo_iconst (pc := 47) dX11_readPower_47 (ic_i_1) ?_
          refine jo_goto (pc := 48) dX11_readPower_48 (tgt := 52) rfl ?_
          refine jo_lv (lv' := [(0, .ref (adr w 306)), (1, .int x0)]) [1, 2] rfl ?_
          exact jo_leaf (by rfl) (h52_9 true)
    · refine jo_aload_n (pc := 22) 1 rfl dX11_readPower_22 rfl ?_
      refine jo_iload_n (pc := 23) 0 rfl dX11_readPower_23 rfl ?_
      refine jo_putf (pc := 24) ok_11_21 okp_11_21 (ik_306 hw hN) gw_1317 dX11_readPower_24 (fun σ37 => ?_)
      exact jo_return (pc := 27) rfl rfl dX11_readPower_27
  · exact jo_return (pc := 7) rfl rfl dX11_readPower_7
theorem c_X11_readPower {w : Wd} (hw : WOK w) (hN : wn w = NT) {σ : Mem} {x0 : Int32} : ∀ σ', f_X11_readPower σ x0 = some σ' → MC w mu_X11_readPower none [.ref (adr w 306), .int x0] σ σ' := mc_ofV ok_X11_readPower rfl (Nat.le_of_ble_eq_true rfl) (t_X11_readPower hw hN)
abbrev mu_X11_readCommutator (d : Nat) : MD := (yX11_readCommutator, cX11_readCommutator, 3, none, 7 + d + 1)
theorem ok_X11_readCommutator (d : Nat) : MOK (mu_X11_readCommutator d) 1 := ⟨gw_1707, gw_171, by decide +kernel, ⟨by decide +kernel, by decide +kernel, by decide +kernel⟩, Nat.le_of_ble_eq_true rfl⟩
noncomputable def j_X11_readCommutator_82 (rec : Mem → Int32 → Option Mem) (σ1 : Mem) : Option Mem :=
  (f_X11_must σ1 93).bind (fun (σ2 : Mem) => some σ2)
noncomputable def j_X11_readCommutator_22 (rec : Mem → Int32 → Option Mem) (x0 : Int32) (i4 : Int32) (σ6 : Mem) : Option ((Mem × Int32) ⊕ (Mem ⊕ Mem)) :=
  (f_X11_must σ6 44).bind (fun (σ7 : Mem) => gF σ7 306 21 (fun (v8 : Int32) => pF σ7 306 23 v8 (fun (σ9 : Mem) => (rec σ9 (x0 + 1)).bind (fun (σ10 : Mem) => (f_X11_isWrong σ10).bind (fun (b11 : Bool) => if b11 then some (Sum.inr (Sum.inr σ10)) else (f_X11_commutator σ10 x0 (x0 + 1) (x0 + 2)).bind (fun (σ12 : Mem) => (f_X11_copies σ12 (x0 + 2) x0).bind (fun (σ13 : Mem) => (f_X11_checks σ13 x0).bind (fun (σ14 : Mem) => bd (i4 + 1) (fun (v15 : Int32) => some (Sum.inl (σ14, v15)))))))))))
noncomputable def l_X11_readCommutator_2 (rec : Mem → Int32 → Option Mem) (x0 : Int32) (σ3 : Mem) (i4 : Int32) : Option ((Mem × Int32) ⊕ (Mem ⊕ Mem)) :=
  (f_X11_isWrong σ3).bind (fun (b5 : Bool) => if b5 then some (Sum.inr (Sum.inl σ3)) else (if i4 = 0 then (some (Sum.inl σ3)) else (bq (f_X11_behindBlanks σ3) (fun (v16 : Int32) (σ17 : Mem) => if v16 = 44 then (some (Sum.inl σ17)) else (some (Sum.inr (Sum.inr (Sum.inl σ17)))))) : Option (Mem ⊕ ((Mem × Int32) ⊕ (Mem ⊕ Mem)))).bind (Sum.elim (fun (z6 : Mem) => j_X11_readCommutator_22 rec x0 i4 z6) some))
noncomputable def o_X11_readCommutator (rec : Mem → Int32 → Option Mem) (σ : Mem) (x0 : Int32) : Option Mem :=
  (loopO (fun (z4 : (Mem × Int32)) => l_X11_readCommutator_2 rec x0 z4.1 z4.2) (σ, 0) : Option (Mem ⊕ Mem)).bind (Sum.elim (fun (z1 : Mem) => j_X11_readCommutator_82 rec z1) some)
theorem t_X11_readCommutator {w : Wd} (hw : WOK w) (hN : wn w = NT) {d : Nat} {rec : Mem → Int32 → Option Mem} (hrec : ∀ {τ0 : Mem} {y0 : Int32}, ∀ τ, rec τ0 y0 = some τ → MC w (mu_X11_readWord d) none [.ref (adr w 306), .int y0] τ0 τ) {σ : Mem} {x0 : Int32} : JO w (mu_X11_readCommutator d) vV σ [(0, .ref (adr w 306)), (1, .int x0)] [] 0 (o_X11_readCommutator rec σ x0) (fun z => some ((), z)) := by
  unfold o_X11_readCommutator
  refine jo_iconst (pc := 0) dX11_readCommutator_0 (ic_i_0) ?_
  refine jo_istore_n (pc := 1) (lv' := [(2, .int 0), (0, .ref (adr w 306)), (1, .int x0)]) dX11_readCommutator_1 rfl (ltb rfl) rfl ?_
  refine jo_joinS (S := Mem) (fun (z1 : Mem) => z1) (fun (z1 : Mem) => [(0, .ref (adr w 306))]) (fun (z1 : Mem) => []) 82 ?_ (fun h82_1 => ?_)
  · intro σ1
    show JO w (mu_X11_readCommutator d) vV σ1 [(0, .ref (adr w 306))] [] 82 (j_X11_readCommutator_82 rec σ1) _
    unfold j_X11_readCommutator_82
    refine jo_aload_n (pc := 82) 0 rfl dX11_readCommutator_82 rfl ?_
    refine jo_bipush (pc := 83) dX11_readCommutator_83 (ic_b_93) ?_
    refine jo_cV_V_i (pc := 85) (μ' := mu_X11_must) (fx := f_X11_must σ1 93) (As := [.int 93]) (c_X11_must hw hN) (ok_X11_must) (by simp only [mu_X11_readCommutator, mu_X11_must]; omega) (all3 gw_1700 gw_1702 gw_118) (ik_306 hw hN) (by decide) (q := (RX11, TX11, 39)) rfl rfl rfl rfl (Nat.le_of_ble_eq_true rfl) dX11_readCommutator_85 (fun σ2 => ?_)
    exact jo_return (pc := 88) rfl rfl dX11_readCommutator_88
  · refine jo_lv (lv' := [(0, .ref (adr w 306)), (1, .int x0), (2, .int 0)]) [1, 2, 0] rfl ?_
    refine jo_loop (X := Mem ⊕ Mem) (fun (z4 : (Mem × Int32)) => z4.1) (fun (z4 : (Mem × Int32)) => [(0, .ref (adr w 306)), (1, .int x0), (2, .int z4.2)]) (body := (fun (z4 : (Mem × Int32)) => l_X11_readCommutator_2 rec x0 z4.1 z4.2)) (fun F2_4 hF2_4 s => ?_) (σ, 0)
    obtain ⟨σ3, i4⟩ := s
    show JO w (mu_X11_readCommutator d) vV σ3 [(0, .ref (adr w 306)), (1, .int x0), (2, .int i4)] [] 2 (l_X11_readCommutator_2 rec x0 σ3 i4) _
    unfold l_X11_readCommutator_2
    refine jo_aload_n (pc := 2) 0 rfl dX11_readCommutator_2 rfl ?_
    refine jo_cV_Z_p (pc := 3) (μ' := mu_X11_isWrong) (fx := f_X11_isWrong σ3) (As := []) (c_X11_isWrong hw hN) (ok_X11_isWrong) (by simp only [mu_X11_readCommutator, mu_X11_isWrong]; omega) (all3 gw_1668 gw_1670 gw_110) (ik_306 hw hN) (by decide) (q := (RX11, TX11, 39)) rfl rfl rfl rfl (Nat.le_of_ble_eq_true rfl) dX11_readCommutator_3 (fun b5 => ?_)
    refine jo_ifz_ne (pc := 6) dX11_readCommutator_6 (tgt := 82) rfl ?_ ?_
    · refine jo_lv (lv' := [(0, .ref (adr w 306))]) [0] rfl ?_
      exact jo_leaf (by rfl) (h82_1 σ3)
    · refine jo_iload_n (pc := 9) 2 rfl dX11_readCommutator_9 rfl ?_
      refine jo_joinS (S := Mem) (fun (z6 : Mem) => z6) (fun (z6 : Mem) => [(0, .ref (adr w 306)), (1, .int x0), (2, .int i4)]) (fun (z6 : Mem) => []) 22 ?_ (fun h22_6 => ?_)
      · intro σ6
        show JO w (mu_X11_readCommutator d) vV σ6 [(0, .ref (adr w 306)), (1, .int x0), (2, .int i4)] [] 22 (j_X11_readCommutator_22 rec x0 i4 σ6) _
        unfold j_X11_readCommutator_22
        refine jo_aload_n (pc := 22) 0 rfl dX11_readCommutator_22 rfl ?_
        refine jo_bipush (pc := 23) dX11_readCommutator_23 (ic_b_44) ?_
        refine jo_cV_V_i (pc := 25) (μ' := mu_X11_must) (fx := f_X11_must σ6 44) (As := [.int 44]) (c_X11_must hw hN) (ok_X11_must) (by simp only [mu_X11_readCommutator, mu_X11_must]; omega) (all3 gw_1700 gw_1702 gw_118) (ik_306 hw hN) (by decide) (q := (RX11, TX11, 39)) rfl rfl rfl rfl (Nat.le_of_ble_eq_true rfl) dX11_readCommutator_25 (fun σ7 => ?_)
        refine jo_aload_n (pc := 28) 0 rfl dX11_readCommutator_28 rfl ?_
        refine jo_aload_n (pc := 29) 0 rfl dX11_readCommutator_29 rfl ?_
        refine jo_getf (pc := 30) ok_11_21 (ik_306 hw hN) gw_1317 dX11_readCommutator_30 (fun v8 => ?_)
        refine jo_putf (pc := 33) ok_11_23 okp_11_23 (ik_306 hw hN) gw_1319 dX11_readCommutator_33 (fun σ9 => ?_)
        refine jo_aload_n (pc := 36) 0 rfl dX11_readCommutator_36 rfl ?_
        refine jo_iload_n (pc := 37) 1 rfl dX11_readCommutator_37 rfl ?_
        refine jo_iconst (pc := 38) dX11_readCommutator_38 (ic_i_1) ?_
        refine jo_iadd (pc := 39) dX11_readCommutator_39 ?_
        refine jo_cV_V_i (pc := 40) (μ' := (mu_X11_readWord d)) (fx := rec σ9 (x0 + 1)) (As := [.int (x0 + 1)]) (hrec) (ok_X11_readWord _) (by simp only [mu_X11_readCommutator, mu_X11_readWord]; omega) (all3 gw_1664 gw_1666 gw_109) (ik_306 hw hN) (by decide) (q := (RX11, TX11, 39)) rfl rfl rfl rfl (Nat.le_of_ble_eq_true rfl) dX11_readCommutator_40 (fun σ10 => ?_)
        refine jo_aload_n (pc := 43) 0 rfl dX11_readCommutator_43 rfl ?_
        refine jo_cV_Z_p (pc := 44) (μ' := mu_X11_isWrong) (fx := f_X11_isWrong σ10) (As := []) (c_X11_isWrong hw hN) (ok_X11_isWrong) (by simp only [mu_X11_readCommutator, mu_X11_isWrong]; omega) (all3 gw_1668 gw_1670 gw_110) (ik_306 hw hN) (by decide) (q := (RX11, TX11, 39)) rfl rfl rfl rfl (Nat.le_of_ble_eq_true rfl) dX11_readCommutator_44 (fun b11 => ?_)
        refine jo_ifz_eq (pc := 47) dX11_readCommutator_47 (tgt := 51) rfl ?_ ?_
        · refine jo_aload_n (pc := 51) 0 rfl dX11_readCommutator_51 rfl ?_
          refine jo_iload_n (pc := 52) 1 rfl dX11_readCommutator_52 rfl ?_
          refine jo_iload_n (pc := 53) 1 rfl dX11_readCommutator_53 rfl ?_
          refine jo_iconst (pc := 54) dX11_readCommutator_54 (ic_i_1) ?_
          refine jo_iadd (pc := 55) dX11_readCommutator_55 ?_
          refine jo_iload_n (pc := 56) 1 rfl dX11_readCommutator_56 rfl ?_
          refine jo_iconst (pc := 57) dX11_readCommutator_57 (ic_i_2) ?_
          refine jo_iadd (pc := 58) dX11_readCommutator_58 ?_
          refine jo_cV_V_i (pc := 59) (μ' := mu_X11_commutator) (fx := f_X11_commutator σ10 x0 (x0 + 1) (x0 + 2)) (As := [.int x0, .int (x0 + 1), .int (x0 + 2)]) (c_X11_commutator hw hN) (ok_X11_commutator) (by simp only [mu_X11_readCommutator, mu_X11_commutator]; omega) (all3 gw_1612 gw_1614 gw_102) (ik_306 hw hN) (by decide) (q := (RX11, TX11, 39)) rfl rfl rfl rfl (Nat.le_of_ble_eq_true rfl) dX11_readCommutator_59 (fun σ12 => ?_)
          refine jo_aload_n (pc := 62) 0 rfl dX11_readCommutator_62 rfl ?_
          refine jo_iload_n (pc := 63) 1 rfl dX11_readCommutator_63 rfl ?_
          refine jo_iconst (pc := 64) dX11_readCommutator_64 (ic_i_2) ?_
          refine jo_iadd (pc := 65) dX11_readCommutator_65 ?_
          refine jo_iload_n (pc := 66) 1 rfl dX11_readCommutator_66 rfl ?_
          refine jo_cV_V_i (pc := 67) (μ' := mu_X11_copies) (fx := f_X11_copies σ12 (x0 + 2) x0) (As := [.int (x0 + 2), .int x0]) (c_X11_copies hw hN) (ok_X11_copies) (by simp only [mu_X11_readCommutator, mu_X11_copies]; omega) (all3 gw_1594 gw_1596 gw_100) (ik_306 hw hN) (by decide) (q := (RX11, TX11, 39)) rfl rfl rfl rfl (Nat.le_of_ble_eq_true rfl) dX11_readCommutator_67 (fun σ13 => ?_)
          refine jo_aload_n (pc := 70) 0 rfl dX11_readCommutator_70 rfl ?_
          refine jo_iload_n (pc := 71) 1 rfl dX11_readCommutator_71 rfl ?_
          refine jo_cV_V_i (pc := 72) (μ' := mu_X11_checks) (fx := f_X11_checks σ13 x0) (As := [.int x0]) (c_X11_checks hw hN) (ok_X11_checks) (by simp only [mu_X11_readCommutator, mu_X11_checks]; omega) (all3 gw_1708 gw_1710 gw_120) (ik_306 hw hN) (by decide) (q := (RX11, TX11, 39)) rfl rfl rfl rfl (Nat.le_of_ble_eq_true rfl) dX11_readCommutator_72 (fun σ14 => ?_)
          refine jo_iload_n (pc := 75) 2 rfl dX11_readCommutator_75 rfl ?_
          refine jo_iconst (pc := 76) dX11_readCommutator_76 (ic_i_1) ?_
          refine jo_iadd (pc := 77) dX11_readCommutator_77 ?_
          refine jo_bd ?_
          refine jo_istore_n (pc := 78) (lv' := [(2, .int (i4 + 1)), (0, .ref (adr w 306)), (1, .int x0)]) dX11_readCommutator_78 rfl (ltb rfl) rfl ?_
          generalize (i4 + 1) = v15
          refine jo_goto (pc := 79) dX11_readCommutator_79 (tgt := 2) rfl ?_
          refine jo_lv (lv' := [(0, .ref (adr w 306)), (1, .int x0), (2, .int v15)]) [1, 2, 0] rfl ?_
          exact jo_leaf (by rfl) (hF2_4 (σ14, v15))
        · exact jo_return (pc := 50) rfl rfl dX11_readCommutator_50
      · refine jo_if_eq (pc := 10) dX11_readCommutator_10 (tgt := 22) rfl ?_ ?_
        · exact jo_leaf (by rfl) (h22_6 σ3)
        · refine jo_aload_n (pc := 13) 0 rfl dX11_readCommutator_13 rfl ?_
          refine jo_cV_I_i (pc := 14) (μ' := mu_X11_behindBlanks) (fx := f_X11_behindBlanks σ3) (As := []) (c_X11_behindBlanks hw hN) (ok_X11_behindBlanks) (by simp only [mu_X11_readCommutator, mu_X11_behindBlanks]; omega) (all3 gw_1672 gw_1674 gw_111) (ik_306 hw hN) (by decide) (q := (RX11, TX11, 39)) rfl rfl rfl rfl (Nat.le_of_ble_eq_true rfl) dX11_readCommutator_14 (fun v16 σ17 => ?_)
          refine jo_bipush (pc := 17) dX11_readCommutator_17 (ic_b_44) ?_
          refine jo_icmp_ne (pc := 19) dX11_readCommutator_19 (tgt := 82) rfl ?_ ?_
          · refine jo_lv (lv' := [(0, .ref (adr w 306))]) [0] rfl ?_
            exact jo_leaf (by rfl) (h82_1 σ17)
          · exact jo_leaf (by rfl) (h22_6 σ17)
theorem co_X11_readCommutator {w : Wd} (hw : WOK w) (hN : wn w = NT) {d : Nat} {rec : Mem → Int32 → Option Mem} (hrec : ∀ {τ0 : Mem} {y0 : Int32}, ∀ τ, rec τ0 y0 = some τ → MC w (mu_X11_readWord d) none [.ref (adr w 306), .int y0] τ0 τ) {σ : Mem} {x0 : Int32} : ∀ σ', o_X11_readCommutator rec σ x0 = some σ' → MC w (mu_X11_readCommutator d) none [.ref (adr w 306), .int x0] σ σ' := mc_ofV (ok_X11_readCommutator _) rfl (Nat.le_of_ble_eq_true rfl) (t_X11_readCommutator hw hN hrec)
abbrev mu_X11_readOpen (d : Nat) : MD := (yX11_readOpen, cX11_readOpen, 3, none, 7 + d + 2)
theorem ok_X11_readOpen (d : Nat) : MOK (mu_X11_readOpen d) 2 := ⟨gw_1699, gw_171, by decide +kernel, ⟨by decide +kernel, by decide +kernel, by decide +kernel⟩, Nat.le_of_ble_eq_true rfl⟩
noncomputable def j_X11_readOpen_72 (rec : Mem → Int32 → Option Mem) (σ9 : Mem) : Option Mem :=
  gF σ9 306 25 (fun (v10 : Int32) => pF σ9 306 25 (v10 - 1) (fun (σ11 : Mem) => some σ11))
noncomputable def o_X11_readOpen (rec : Mem → Int32 → Option Mem) (σ : Mem) (x0 : Int32) (x1 : Int32) : Option Mem :=
  gF σ 306 25 (fun (v1 : Int32) => if v1 = 8 then (gF σ 306 21 (fun (v14 : Int32) => (f_X11_errs σ 4 v14).bind (fun (σ15 : Mem) => some σ15))) else (gF σ 306 25 (fun (v2 : Int32) => pF σ 306 25 (v2 + 1) (fun (σ3 : Mem) => gF σ3 306 21 (fun (v4 : Int32) => pF σ3 306 21 (v4 + 1) (fun (σ5 : Mem) => gF σ5 306 21 (fun (v6 : Int32) => pF σ5 306 23 v6 (fun (σ7 : Mem) => (rec σ7 x0).bind (fun (σ8 : Mem) => (if x1 = 40 then ((f_X11_must σ8 41).bind (fun (σ13 : Mem) => some σ13)) else ((o_X11_readCommutator rec σ8 x0).bind (fun (σ12 : Mem) => some σ12)) : Option Mem).bind (fun (z9 : Mem) => j_X11_readOpen_72 rec z9))))))))))
theorem t_X11_readOpen {w : Wd} (hw : WOK w) (hN : wn w = NT) {d : Nat} {rec : Mem → Int32 → Option Mem} (hrec : ∀ {τ0 : Mem} {y0 : Int32}, ∀ τ, rec τ0 y0 = some τ → MC w (mu_X11_readWord d) none [.ref (adr w 306), .int y0] τ0 τ) {σ : Mem} {x0 : Int32} {x1 : Int32} : JO w (mu_X11_readOpen d) vV σ [(0, .ref (adr w 306)), (1, .int x0), (2, .int x1)] [] 0 (o_X11_readOpen rec σ x0 x1) (fun z => some ((), z)) := by
  unfold o_X11_readOpen
  refine jo_aload_n (pc := 0) 0 rfl dX11_readOpen_0 rfl ?_
  refine jo_getf (pc := 1) ok_11_25 (ik_306 hw hN) gw_1321 dX11_readOpen_1 (fun v1 => ?_)
  refine jo_bipush (pc := 4) dX11_readOpen_4 (ic_b_8) ?_
  refine jo_icmp_ne (pc := 6) dX11_readOpen_6 (tgt := 19) rfl ?_ ?_
  · refine jo_aload_n (pc := 19) 0 rfl dX11_readOpen_19 rfl ?_
    refine jo_aload_n (pc := 20) 0 rfl dX11_readOpen_20 rfl ?_
    refine jo_getf (pc := 21) ok_11_25 (ik_306 hw hN) gw_1321 dX11_readOpen_21 (fun v2 => ?_)
    refine jo_iconst (pc := 24) dX11_readOpen_24 (ic_i_1) ?_
    refine jo_iadd (pc := 25) dX11_readOpen_25 ?_
    refine jo_putf (pc := 26) ok_11_25 okp_11_25 (ik_306 hw hN) gw_1321 dX11_readOpen_26 (fun σ3 => ?_)
    refine jo_aload_n (pc := 29) 0 rfl dX11_readOpen_29 rfl ?_
    refine jo_aload_n (pc := 30) 0 rfl dX11_readOpen_30 rfl ?_
    refine jo_getf (pc := 31) ok_11_21 (ik_306 hw hN) gw_1317 dX11_readOpen_31 (fun v4 => ?_)
    refine jo_iconst (pc := 34) dX11_readOpen_34 (ic_i_1) ?_
    refine jo_iadd (pc := 35) dX11_readOpen_35 ?_
    refine jo_putf (pc := 36) ok_11_21 okp_11_21 (ik_306 hw hN) gw_1317 dX11_readOpen_36 (fun σ5 => ?_)
    refine jo_aload_n (pc := 39) 0 rfl dX11_readOpen_39 rfl ?_
    refine jo_aload_n (pc := 40) 0 rfl dX11_readOpen_40 rfl ?_
    refine jo_getf (pc := 41) ok_11_21 (ik_306 hw hN) gw_1317 dX11_readOpen_41 (fun v6 => ?_)
    refine jo_putf (pc := 44) ok_11_23 okp_11_23 (ik_306 hw hN) gw_1319 dX11_readOpen_44 (fun σ7 => ?_)
    refine jo_aload_n (pc := 47) 0 rfl dX11_readOpen_47 rfl ?_
    refine jo_iload_n (pc := 48) 1 rfl dX11_readOpen_48 rfl ?_
    refine jo_cV_V_i (pc := 49) (μ' := (mu_X11_readWord d)) (fx := rec σ7 x0) (As := [.int x0]) (hrec) (ok_X11_readWord _) (by simp only [mu_X11_readOpen, mu_X11_readWord]; omega) (all3 gw_1664 gw_1666 gw_109) (ik_306 hw hN) (by decide) (q := (RX11, TX11, 39)) rfl rfl rfl rfl (Nat.le_of_ble_eq_true rfl) dX11_readOpen_49 (fun σ8 => ?_)
    refine jo_iload_n (pc := 52) 2 rfl dX11_readOpen_52 rfl ?_
    refine jo_bipush (pc := 53) dX11_readOpen_53 (ic_b_40) ?_
    refine jo_join1 (S := Mem) (fun (z9 : Mem) => z9) (fun (z9 : Mem) => [(0, .ref (adr w 306))]) (fun (z9 : Mem) => []) 72 ?_ (fun h72_9 => ?_)
    · intro σ9
      show JO w (mu_X11_readOpen d) vV σ9 [(0, .ref (adr w 306))] [] 72 (j_X11_readOpen_72 rec σ9) _
      unfold j_X11_readOpen_72
      refine jo_aload_n (pc := 72) 0 rfl dX11_readOpen_72 rfl ?_
      refine jo_aload_n (pc := 73) 0 rfl dX11_readOpen_73 rfl ?_
      refine jo_getf (pc := 74) ok_11_25 (ik_306 hw hN) gw_1321 dX11_readOpen_74 (fun v10 => ?_)
      refine jo_iconst (pc := 77) dX11_readOpen_77 (ic_i_1) ?_
      refine jo_isub (pc := 78) dX11_readOpen_78 ?_
      refine jo_putf (pc := 79) ok_11_25 okp_11_25 (ik_306 hw hN) gw_1321 dX11_readOpen_79 (fun σ11 => ?_)
      exact jo_return (pc := 82) rfl rfl dX11_readOpen_82
    · refine jo_icmp_ne (pc := 55) dX11_readOpen_55 (tgt := 67) rfl ?_ ?_
      · refine jo_aload_n (pc := 67) 0 rfl dX11_readOpen_67 rfl ?_
        refine jo_iload_n (pc := 68) 1 rfl dX11_readOpen_68 rfl ?_
        refine jo_cV_V_i (pc := 69) (μ' := (mu_X11_readCommutator d)) (fx := o_X11_readCommutator rec σ8 x0) (As := [.int x0]) (co_X11_readCommutator hw hN hrec) (ok_X11_readCommutator _) (by simp only [mu_X11_readOpen, mu_X11_readCommutator]; omega) (all3 gw_1704 gw_1706 gw_119) (ik_306 hw hN) (by decide) (q := (RX11, TX11, 39)) rfl rfl rfl rfl (Nat.le_of_ble_eq_true rfl) dX11_readOpen_69 (fun σ12 => ?_)
        refine jo_lv (lv' := [(0, .ref (adr w 306))]) [0] rfl ?_
        exact jo_leaf (by rfl) (h72_9 σ12)
      · refine jo_aload_n (pc := 58) 0 rfl dX11_readOpen_58 rfl ?_
        refine jo_bipush (pc := 59) dX11_readOpen_59 (ic_b_41) ?_
        refine jo_cV_V_i (pc := 61) (μ' := mu_X11_must) (fx := f_X11_must σ8 41) (As := [.int 41]) (c_X11_must hw hN) (ok_X11_must) (by simp only [mu_X11_readOpen, mu_X11_must]; omega) (all3 gw_1700 gw_1702 gw_118) (ik_306 hw hN) (by decide) (q := (RX11, TX11, 39)) rfl rfl rfl rfl (Nat.le_of_ble_eq_true rfl) dX11_readOpen_61 (fun σ13 => ?_)
        refine jo_goto (pc := 64) dX11_readOpen_64 (tgt := 72) rfl ?_
        refine jo_lv (lv' := [(0, .ref (adr w 306))]) [0] rfl ?_
        exact jo_leaf (by rfl) (h72_9 σ13)
  · refine jo_aload_n (pc := 9) 0 rfl dX11_readOpen_9 rfl ?_
    refine jo_iconst (pc := 10) dX11_readOpen_10 (ic_i_4) ?_
    refine jo_aload_n (pc := 11) 0 rfl dX11_readOpen_11 rfl ?_
    refine jo_getf (pc := 12) ok_11_21 (ik_306 hw hN) gw_1317 dX11_readOpen_12 (fun v14 => ?_)
    refine jo_cV_V_i (pc := 15) (μ' := mu_X11_errs) (fx := f_X11_errs σ 4 v14) (As := [.int 4, .int v14]) (c_X11_errs hw hN) (ok_X11_errs) (by simp only [mu_X11_readOpen, mu_X11_errs]; omega) (all3 gw_1688 gw_1690 gw_115) (ik_306 hw hN) (by decide) (q := (RX11, TX11, 39)) rfl rfl rfl rfl (Nat.le_of_ble_eq_true rfl) dX11_readOpen_15 (fun σ15 => ?_)
    exact jo_return (pc := 18) rfl rfl dX11_readOpen_18
theorem co_X11_readOpen {w : Wd} (hw : WOK w) (hN : wn w = NT) {d : Nat} {rec : Mem → Int32 → Option Mem} (hrec : ∀ {τ0 : Mem} {y0 : Int32}, ∀ τ, rec τ0 y0 = some τ → MC w (mu_X11_readWord d) none [.ref (adr w 306), .int y0] τ0 τ) {σ : Mem} {x0 : Int32} {x1 : Int32} : ∀ σ', o_X11_readOpen rec σ x0 x1 = some σ' → MC w (mu_X11_readOpen d) none [.ref (adr w 306), .int x0, .int x1] σ σ' := mc_ofV (ok_X11_readOpen _) rfl (Nat.le_of_ble_eq_true rfl) (t_X11_readOpen hw hN hrec)
abbrev mu_X11_readFactor (d : Nat) : MD := (yX11_readFactor, cX11_readFactor, 3, none, 7 + d + 3)
theorem ok_X11_readFactor (d : Nat) : MOK (mu_X11_readFactor d) 1 := ⟨gw_1687, gw_171, by decide +kernel, ⟨by decide +kernel, by decide +kernel, by decide +kernel⟩, Nat.le_of_ble_eq_true rfl⟩
noncomputable def j_X11_readFactor_134 (rec : Mem → Int32 → Option Mem) (σ2 : Mem) : Option Mem :=
  gF σ2 306 21 (fun (v3 : Int32) => pF σ2 306 23 v3 (fun (σ4 : Mem) => some σ4))
noncomputable def j_X11_readFactor_66 (rec : Mem → Int32 → Option Mem) (σ : Mem) (x0 : Int32) (v1 : Int32) : Option (Mem ⊕ Mem) :=
  if v1 = 82 then (gF σ 306 21 (fun (v6 : Int32) => pF σ 306 21 (v6 + 1) (fun (σ7 : Mem) => (f_X11_here σ7).bind (fun (v8 : Int32) => (f_X11_isDigit σ7 v8).bind (fun (b9 : Bool) => if b9 then (f_X11_here σ7).bind (fun (v10 : Int32) => (f_X11_laysRegister σ7 x0 (v10 - 48)).bind (fun (σ11 : Mem) => gF σ11 306 21 (fun (v12 : Int32) => pF σ11 306 21 (v12 + 1) (fun (σ13 : Mem) => some (Sum.inl σ13))))) else gF σ7 306 21 (fun (v14 : Int32) => (f_X11_errs σ7 1 v14).bind (fun (σ15 : Mem) => some (Sum.inr σ15)))))))) else ((o_X11_readOpen rec σ x0 v1).bind (fun (σ5 : Mem) => some (Sum.inl σ5)))
noncomputable def o_X11_readFactor (rec : Mem → Int32 → Option Mem) (σ : Mem) (x0 : Int32) : Option Mem :=
  (f_X11_here σ).bind (fun (v1 : Int32) => ((if v1 < 97 then (some (Sum.inl ())) else (if 102 < v1 then (some (Sum.inl ())) else ((f_X11_n σ).bind (fun (v16 : Int32) => if (v1 - 97) < v16 then ((f_X11_ones σ x0).bind (fun (σ17 : Mem) => (f_X11_puts σ17 x0 (v1 - 97) 1).bind (fun (σ18 : Mem) => gF σ18 306 21 (fun (v19 : Int32) => pF σ18 306 21 (v19 + 1) (fun (σ20 : Mem) => some (Sum.inr (Sum.inl σ20))))))) else (gF σ 306 21 (fun (v21 : Int32) => (f_X11_errs σ 3 v21).bind (fun (σ22 : Mem) => some (Sum.inr (Sum.inr σ22)))))))) : Option (Unit ⊕ (Mem ⊕ Mem))).bind (Sum.elim (fun (z4 : Unit) => j_X11_readFactor_66 rec σ x0 v1) some) : Option (Mem ⊕ Mem)).bind (Sum.elim (fun (z2 : Mem) => j_X11_readFactor_134 rec z2) some))
theorem t_X11_readFactor {w : Wd} (hw : WOK w) (hN : wn w = NT) {d : Nat} {rec : Mem → Int32 → Option Mem} (hrec : ∀ {τ0 : Mem} {y0 : Int32}, ∀ τ, rec τ0 y0 = some τ → MC w (mu_X11_readWord d) none [.ref (adr w 306), .int y0] τ0 τ) {σ : Mem} {x0 : Int32} : JO w (mu_X11_readFactor d) vV σ [(0, .ref (adr w 306)), (1, .int x0)] [] 0 (o_X11_readFactor rec σ x0) (fun z => some ((), z)) := by
  unfold o_X11_readFactor
  refine jo_aload_n (pc := 0) 0 rfl dX11_readFactor_0 rfl ?_
  refine jo_cV_I_p (pc := 1) (μ' := mu_X11_here) (fx := f_X11_here σ) (As := []) (c_X11_here hw hN) (ok_X11_here) (by simp only [mu_X11_readFactor, mu_X11_here]; omega) (all3 gw_1676 gw_1678 gw_112) (ik_306 hw hN) (by decide) (q := (RX11, TX11, 39)) rfl rfl rfl rfl (Nat.le_of_ble_eq_true rfl) dX11_readFactor_1 (fun v1 => ?_)
  refine jo_istore_n (pc := 4) (lv' := [(2, .int v1), (0, .ref (adr w 306)), (1, .int x0)]) dX11_readFactor_4 rfl (ltb rfl) rfl ?_
  refine jo_iload_n (pc := 5) 0 rfl dX11_readFactor_5 rfl ?_
  refine jo_bipush (pc := 6) dX11_readFactor_6 (ic_b_97) ?_
  refine jo_joinS (S := Mem) (fun (z2 : Mem) => z2) (fun (z2 : Mem) => [(0, .ref (adr w 306))]) (fun (z2 : Mem) => []) 134 ?_ (fun h134_2 => ?_)
  · intro σ2
    show JO w (mu_X11_readFactor d) vV σ2 [(0, .ref (adr w 306))] [] 134 (j_X11_readFactor_134 rec σ2) _
    unfold j_X11_readFactor_134
    refine jo_aload_n (pc := 134) 0 rfl dX11_readFactor_134 rfl ?_
    refine jo_aload_n (pc := 135) 0 rfl dX11_readFactor_135 rfl ?_
    refine jo_getf (pc := 136) ok_11_21 (ik_306 hw hN) gw_1317 dX11_readFactor_136 (fun v3 => ?_)
    refine jo_putf (pc := 139) ok_11_23 okp_11_23 (ik_306 hw hN) gw_1319 dX11_readFactor_139 (fun σ4 => ?_)
    exact jo_return (pc := 142) rfl rfl dX11_readFactor_142
  · refine jo_joinS (S := Unit) (fun (z4 : Unit) => σ) (fun (z4 : Unit) => [(2, .int v1), (0, .ref (adr w 306)), (1, .int x0)]) (fun (z4 : Unit) => []) 66 ?_ (fun h66_4 => ?_)
    · intro _
      show JO w (mu_X11_readFactor d) vV σ [(2, .int v1), (0, .ref (adr w 306)), (1, .int x0)] [] 66 (j_X11_readFactor_66 rec σ x0 v1) _
      unfold j_X11_readFactor_66
      refine jo_iload_n (pc := 66) 0 rfl dX11_readFactor_66 rfl ?_
      refine jo_bipush (pc := 67) dX11_readFactor_67 (ic_b_82) ?_
      refine jo_icmp_ne (pc := 69) dX11_readFactor_69 (tgt := 128) rfl ?_ ?_
      · refine jo_aload_n (pc := 128) 1 rfl dX11_readFactor_128 rfl ?_
        refine jo_iload_n (pc := 129) 2 rfl dX11_readFactor_129 rfl ?_
        refine jo_iload_n (pc := 130) 0 rfl dX11_readFactor_130 rfl ?_
        refine jo_cV_V_i (pc := 131) (μ' := (mu_X11_readOpen d)) (fx := o_X11_readOpen rec σ x0 v1) (As := [.int x0, .int v1]) (co_X11_readOpen hw hN hrec) (ok_X11_readOpen _) (by simp only [mu_X11_readFactor, mu_X11_readOpen]; omega) (all3 gw_1696 gw_1698 gw_117) (ik_306 hw hN) (by decide) (q := (RX11, TX11, 39)) rfl rfl rfl rfl (Nat.le_of_ble_eq_true rfl) dX11_readFactor_131 (fun σ5 => ?_)
        refine jo_lv (lv' := [(0, .ref (adr w 306))]) [1] rfl ?_
        exact jo_leaf (by rfl) (h134_2 σ5)
      · refine jo_aload_n (pc := 72) 1 rfl dX11_readFactor_72 rfl ?_
        refine jo_aload_n (pc := 73) 1 rfl dX11_readFactor_73 rfl ?_
        refine jo_getf (pc := 74) ok_11_21 (ik_306 hw hN) gw_1317 dX11_readFactor_74 (fun v6 => ?_)
        refine jo_iconst (pc := 77) dX11_readFactor_77 (ic_i_1) ?_
        refine jo_iadd (pc := 78) dX11_readFactor_78 ?_
        refine jo_putf (pc := 79) ok_11_21 okp_11_21 (ik_306 hw hN) gw_1317 dX11_readFactor_79 (fun σ7 => ?_)
        refine jo_aload_n (pc := 82) 1 rfl dX11_readFactor_82 rfl ?_
        refine jo_aload_n (pc := 83) 1 rfl dX11_readFactor_83 rfl ?_
        refine jo_cV_I_p (pc := 84) (μ' := mu_X11_here) (fx := f_X11_here σ7) (As := []) (c_X11_here hw hN) (ok_X11_here) (by simp only [mu_X11_readFactor, mu_X11_here]; omega) (all3 gw_1676 gw_1678 gw_112) (ik_306 hw hN) (by decide) (q := (RX11, TX11, 39)) rfl rfl rfl rfl (Nat.le_of_ble_eq_true rfl) dX11_readFactor_84 (fun v8 => ?_)
        refine jo_cV_Z_p (pc := 87) (μ' := mu_X11_isDigit) (fx := f_X11_isDigit σ7 v8) (As := [.int v8]) (c_X11_isDigit hw hN) (ok_X11_isDigit) (by simp only [mu_X11_readFactor, mu_X11_isDigit]; omega) (all3 gw_1692 gw_1694 gw_116) (ik_306 hw hN) (by decide) (q := (RX11, TX11, 39)) rfl rfl rfl rfl (Nat.le_of_ble_eq_true rfl) dX11_readFactor_87 (fun b9 => ?_)
        refine jo_ifz_ne (pc := 90) dX11_readFactor_90 (tgt := 103) rfl ?_ ?_
        · refine jo_aload_n (pc := 103) 1 rfl dX11_readFactor_103 rfl ?_
          refine jo_iload_n (pc := 104) 2 rfl dX11_readFactor_104 rfl ?_
          refine jo_aload_n (pc := 105) 1 rfl dX11_readFactor_105 rfl ?_
          refine jo_cV_I_p (pc := 106) (μ' := mu_X11_here) (fx := f_X11_here σ7) (As := []) (c_X11_here hw hN) (ok_X11_here) (by simp only [mu_X11_readFactor, mu_X11_here]; omega) (all3 gw_1676 gw_1678 gw_112) (ik_306 hw hN) (by decide) (q := (RX11, TX11, 39)) rfl rfl rfl rfl (Nat.le_of_ble_eq_true rfl) dX11_readFactor_106 (fun v10 => ?_)
          refine jo_bipush (pc := 109) dX11_readFactor_109 (ic_b_48) ?_
          refine jo_isub (pc := 111) dX11_readFactor_111 ?_
          refine jo_cV_V_i (pc := 112) (μ' := mu_X11_laysRegister) (fx := f_X11_laysRegister σ7 x0 (v10 - 48)) (As := [.int x0, .int (v10 - 48)]) (c_X11_laysRegister hw hN) (ok_X11_laysRegister) (by simp only [mu_X11_readFactor, mu_X11_laysRegister]; omega) (all3 gw_1562 gw_1564 gw_94) (ik_306 hw hN) (by decide) (q := (RX11, TX11, 39)) rfl rfl rfl rfl (Nat.le_of_ble_eq_true rfl) dX11_readFactor_112 (fun σ11 => ?_)
          refine jo_aload_n (pc := 115) 1 rfl dX11_readFactor_115 rfl ?_
          refine jo_aload_n (pc := 116) 1 rfl dX11_readFactor_116 rfl ?_
          refine jo_getf (pc := 117) ok_11_21 (ik_306 hw hN) gw_1317 dX11_readFactor_117 (fun v12 => ?_)
          refine jo_iconst (pc := 120) dX11_readFactor_120 (ic_i_1) ?_
          refine jo_iadd (pc := 121) dX11_readFactor_121 ?_
          refine jo_putf (pc := 122) ok_11_21 okp_11_21 (ik_306 hw hN) gw_1317 dX11_readFactor_122 (fun σ13 => ?_)
          refine jo_goto (pc := 125) dX11_readFactor_125 (tgt := 134) rfl ?_
          refine jo_lv (lv' := [(0, .ref (adr w 306))]) [1] rfl ?_
          exact jo_leaf (by rfl) (h134_2 σ13)
        · refine jo_aload_n (pc := 93) 1 rfl dX11_readFactor_93 rfl ?_
          refine jo_iconst (pc := 94) dX11_readFactor_94 (ic_i_1) ?_
          refine jo_aload_n (pc := 95) 1 rfl dX11_readFactor_95 rfl ?_
          refine jo_getf (pc := 96) ok_11_21 (ik_306 hw hN) gw_1317 dX11_readFactor_96 (fun v14 => ?_)
          refine jo_cV_V_i (pc := 99) (μ' := mu_X11_errs) (fx := f_X11_errs σ7 1 v14) (As := [.int 1, .int v14]) (c_X11_errs hw hN) (ok_X11_errs) (by simp only [mu_X11_readFactor, mu_X11_errs]; omega) (all3 gw_1688 gw_1690 gw_115) (ik_306 hw hN) (by decide) (q := (RX11, TX11, 39)) rfl rfl rfl rfl (Nat.le_of_ble_eq_true rfl) dX11_readFactor_99 (fun σ15 => ?_)
          exact jo_return (pc := 102) rfl rfl dX11_readFactor_102
    · refine jo_icmp_lt (pc := 8) dX11_readFactor_8 (tgt := 66) rfl ?_ ?_
      · exact jo_leaf (by rfl) (h66_4 ())
      · refine jo_iload_n (pc := 11) 0 rfl dX11_readFactor_11 rfl ?_
        refine jo_bipush (pc := 12) dX11_readFactor_12 (ic_b_102) ?_
        refine jo_icmp_gt (pc := 14) dX11_readFactor_14 (tgt := 66) rfl ?_ ?_
        · exact jo_leaf (by rfl) (h66_4 ())
        · refine jo_iload_n (pc := 17) 0 rfl dX11_readFactor_17 rfl ?_
          refine jo_bipush (pc := 18) dX11_readFactor_18 (ic_b_97) ?_
          refine jo_isub (pc := 20) dX11_readFactor_20 ?_
          refine jo_aload_n (pc := 21) 1 rfl dX11_readFactor_21 rfl ?_
          refine jo_cV_I_p (pc := 22) (μ' := mu_X11_n) (fx := f_X11_n σ) (As := []) (c_X11_n hw hN) (ok_X11_n) (by simp only [mu_X11_readFactor, mu_X11_n]; omega) (all3 gw_1444 gw_1446 gw_68) (ik_306 hw hN) (by decide) (q := (RX11, TX11, 39)) rfl rfl rfl rfl (Nat.le_of_ble_eq_true rfl) dX11_readFactor_22 (fun v16 => ?_)
          refine jo_icmp_lt (pc := 25) dX11_readFactor_25 (tgt := 38) rfl ?_ ?_
          · refine jo_aload_n (pc := 38) 1 rfl dX11_readFactor_38 rfl ?_
            refine jo_iload_n (pc := 39) 2 rfl dX11_readFactor_39 rfl ?_
            refine jo_cV_V_i (pc := 40) (μ' := mu_X11_ones) (fx := f_X11_ones σ x0) (As := [.int x0]) (c_X11_ones hw hN) (ok_X11_ones) (by simp only [mu_X11_readFactor, mu_X11_ones]; omega) (all3 gw_1590 gw_1592 gw_99) (ik_306 hw hN) (by decide) (q := (RX11, TX11, 39)) rfl rfl rfl rfl (Nat.le_of_ble_eq_true rfl) dX11_readFactor_40 (fun σ17 => ?_)
            refine jo_aload_n (pc := 43) 1 rfl dX11_readFactor_43 rfl ?_
            refine jo_iload_n (pc := 44) 2 rfl dX11_readFactor_44 rfl ?_
            refine jo_iload_n (pc := 45) 0 rfl dX11_readFactor_45 rfl ?_
            refine jo_bipush (pc := 46) dX11_readFactor_46 (ic_b_97) ?_
            refine jo_isub (pc := 48) dX11_readFactor_48 ?_
            refine jo_lconst (pc := 49) dX11_readFactor_49 (ic_l_1) ?_
            refine jo_cV_V_i (pc := 50) (μ' := mu_X11_puts) (fx := f_X11_puts σ17 x0 (v1 - 97) 1) (As := [.int x0, .int (v1 - 97), .long 1]) (c_X11_puts hw hN) (ok_X11_puts) (by simp only [mu_X11_readFactor, mu_X11_puts]; omega) (all3 gw_1522 gw_1524 gw_85) (ik_306 hw hN) (by decide) (q := (RX11, TX11, 39)) rfl rfl rfl rfl (Nat.le_of_ble_eq_true rfl) dX11_readFactor_50 (fun σ18 => ?_)
            refine jo_aload_n (pc := 53) 1 rfl dX11_readFactor_53 rfl ?_
            refine jo_aload_n (pc := 54) 1 rfl dX11_readFactor_54 rfl ?_
            refine jo_getf (pc := 55) ok_11_21 (ik_306 hw hN) gw_1317 dX11_readFactor_55 (fun v19 => ?_)
            refine jo_iconst (pc := 58) dX11_readFactor_58 (ic_i_1) ?_
            refine jo_iadd (pc := 59) dX11_readFactor_59 ?_
            refine jo_putf (pc := 60) ok_11_21 okp_11_21 (ik_306 hw hN) gw_1317 dX11_readFactor_60 (fun σ20 => ?_)
            refine jo_goto (pc := 63) dX11_readFactor_63 (tgt := 134) rfl ?_
            refine jo_lv (lv' := [(0, .ref (adr w 306))]) [1] rfl ?_
            exact jo_leaf (by rfl) (h134_2 σ20)
          · refine jo_aload_n (pc := 28) 1 rfl dX11_readFactor_28 rfl ?_
            refine jo_iconst (pc := 29) dX11_readFactor_29 (ic_i_3) ?_
            refine jo_aload_n (pc := 30) 1 rfl dX11_readFactor_30 rfl ?_
            refine jo_getf (pc := 31) ok_11_21 (ik_306 hw hN) gw_1317 dX11_readFactor_31 (fun v21 => ?_)
            refine jo_cV_V_i (pc := 34) (μ' := mu_X11_errs) (fx := f_X11_errs σ 3 v21) (As := [.int 3, .int v21]) (c_X11_errs hw hN) (ok_X11_errs) (by simp only [mu_X11_readFactor, mu_X11_errs]; omega) (all3 gw_1688 gw_1690 gw_115) (ik_306 hw hN) (by decide) (q := (RX11, TX11, 39)) rfl rfl rfl rfl (Nat.le_of_ble_eq_true rfl) dX11_readFactor_34 (fun σ22 => ?_)
            exact jo_return (pc := 37) rfl rfl dX11_readFactor_37
theorem co_X11_readFactor {w : Wd} (hw : WOK w) (hN : wn w = NT) {d : Nat} {rec : Mem → Int32 → Option Mem} (hrec : ∀ {τ0 : Mem} {y0 : Int32}, ∀ τ, rec τ0 y0 = some τ → MC w (mu_X11_readWord d) none [.ref (adr w 306), .int y0] τ0 τ) {σ : Mem} {x0 : Int32} : ∀ σ', o_X11_readFactor rec σ x0 = some σ' → MC w (mu_X11_readFactor d) none [.ref (adr w 306), .int x0] σ σ' := mc_ofV (ok_X11_readFactor _) rfl (Nat.le_of_ble_eq_true rfl) (t_X11_readFactor hw hN hrec)
abbrev mu_X11_readWord (d : Nat) : MD := (yX11_readWord, cX11_readWord, 2, none, 7 + d)
theorem ok_X11_readWord (d : Nat) : MOK (mu_X11_readWord d) 1 := ⟨gw_1667, gw_171, by decide +kernel, ⟨by decide +kernel, by decide +kernel, by decide +kernel⟩, Nat.le_of_ble_eq_true rfl⟩
noncomputable def l_X11_readWord_5 (rec : Mem → Int32 → Option Mem) (x0 : Int32) (σ2 : Mem) : Option (Mem ⊕ Mem) :=
  (f_X11_isWrong σ2).bind (fun (b3 : Bool) => if b3 then some (Sum.inr σ2) else bq (f_X11_behindBlanks σ2) (fun (v4 : Int32) (σ5 : Mem) => (f_X11_isFactor σ5 v4).bind (fun (b6 : Bool) => if b6 then (o_X11_readFactor rec σ5 (x0 + 1)).bind (fun (σ7 : Mem) => (f_X11_readPower σ7 (x0 + 1)).bind (fun (σ8 : Mem) => (f_X11_isWrong σ8).bind (fun (b9 : Bool) => if b9 then some (Sum.inr σ8) else (f_X11_times σ8 x0 (x0 + 1)).bind (fun (σ10 : Mem) => (f_X11_checks σ10 x0).bind (fun (σ11 : Mem) => some (Sum.inl σ11)))))) else some (Sum.inr σ5))))
noncomputable def o_X11_readWord (rec : Mem → Int32 → Option Mem) (σ : Mem) (x0 : Int32) : Option Mem :=
  (f_X11_ones σ x0).bind (fun (σ1 : Mem) => loopO (fun (z2 : Mem) => l_X11_readWord_5 rec x0 z2) σ1)
theorem t_X11_readWord {w : Wd} (hw : WOK w) (hN : wn w = NT) {d : Nat} {rec : Mem → Int32 → Option Mem} (hrec : ∀ {τ0 : Mem} {y0 : Int32}, ∀ τ, rec τ0 y0 = some τ → MC w (mu_X11_readWord d) none [.ref (adr w 306), .int y0] τ0 τ) {σ : Mem} {x0 : Int32} : JO w (mu_X11_readWord (d + 4)) vV σ [(0, .ref (adr w 306)), (1, .int x0)] [] 0 (o_X11_readWord rec σ x0) (fun z => some ((), z)) := by
  unfold o_X11_readWord
  refine jo_aload_n (pc := 0) 0 rfl dX11_readWord_0 rfl ?_
  refine jo_iload_n (pc := 1) 1 rfl dX11_readWord_1 rfl ?_
  refine jo_cV_V_i (pc := 2) (μ' := mu_X11_ones) (fx := f_X11_ones σ x0) (As := [.int x0]) (c_X11_ones hw hN) (ok_X11_ones) (by simp only [mu_X11_readWord, mu_X11_ones]; omega) (all3 gw_1590 gw_1592 gw_99) (ik_306 hw hN) (by decide) (q := (RX11, TX11, 39)) rfl rfl rfl rfl (Nat.le_of_ble_eq_true rfl) dX11_readWord_2 (fun σ1 => ?_)
  refine jo_loop (X := Mem) (fun (z2 : Mem) => z2) (fun (z2 : Mem) => [(0, .ref (adr w 306)), (1, .int x0)]) (body := (fun (z2 : Mem) => l_X11_readWord_5 rec x0 z2)) (fun F5_2 hF5_2 s => ?_) σ1
  revert s; intro σ2
  show JO w (mu_X11_readWord (d + 4)) vV σ2 [(0, .ref (adr w 306)), (1, .int x0)] [] 5 (l_X11_readWord_5 rec x0 σ2) _
  unfold l_X11_readWord_5
  refine jo_aload_n (pc := 5) 0 rfl dX11_readWord_5 rfl ?_
  refine jo_cV_Z_p (pc := 6) (μ' := mu_X11_isWrong) (fx := f_X11_isWrong σ2) (As := []) (c_X11_isWrong hw hN) (ok_X11_isWrong) (by simp only [mu_X11_readWord, mu_X11_isWrong]; omega) (all3 gw_1668 gw_1670 gw_110) (ik_306 hw hN) (by decide) (q := (RX11, TX11, 39)) rfl rfl rfl rfl (Nat.le_of_ble_eq_true rfl) dX11_readWord_6 (fun b3 => ?_)
  refine jo_ifz_ne (pc := 9) dX11_readWord_9 (tgt := 61) rfl ?_ ?_
  · exact jo_return (pc := 61) rfl rfl dX11_readWord_61
  · refine jo_aload_n (pc := 12) 0 rfl dX11_readWord_12 rfl ?_
    refine jo_aload_n (pc := 13) 0 rfl dX11_readWord_13 rfl ?_
    refine jo_cV_I_i (pc := 14) (μ' := mu_X11_behindBlanks) (fx := f_X11_behindBlanks σ2) (As := []) (c_X11_behindBlanks hw hN) (ok_X11_behindBlanks) (by simp only [mu_X11_readWord, mu_X11_behindBlanks]; omega) (all3 gw_1672 gw_1674 gw_111) (ik_306 hw hN) (by decide) (q := (RX11, TX11, 39)) rfl rfl rfl rfl (Nat.le_of_ble_eq_true rfl) dX11_readWord_14 (fun v4 σ5 => ?_)
    refine jo_cV_Z_p (pc := 17) (μ' := mu_X11_isFactor) (fx := f_X11_isFactor σ5 v4) (As := [.int v4]) (c_X11_isFactor hw hN) (ok_X11_isFactor) (by simp only [mu_X11_readWord, mu_X11_isFactor]; omega) (all3 gw_1680 gw_1682 gw_113) (ik_306 hw hN) (by decide) (q := (RX11, TX11, 39)) rfl rfl rfl rfl (Nat.le_of_ble_eq_true rfl) dX11_readWord_17 (fun b6 => ?_)
    refine jo_ifz_eq (pc := 20) dX11_readWord_20 (tgt := 61) rfl ?_ ?_
    · exact jo_return (pc := 61) rfl rfl dX11_readWord_61
    · refine jo_aload_n (pc := 23) 0 rfl dX11_readWord_23 rfl ?_
      refine jo_iload_n (pc := 24) 1 rfl dX11_readWord_24 rfl ?_
      refine jo_iconst (pc := 25) dX11_readWord_25 (ic_i_1) ?_
      refine jo_iadd (pc := 26) dX11_readWord_26 ?_
      refine jo_cV_V_i (pc := 27) (μ' := (mu_X11_readFactor d)) (fx := o_X11_readFactor rec σ5 (x0 + 1)) (As := [.int (x0 + 1)]) (co_X11_readFactor hw hN hrec) (ok_X11_readFactor _) (by simp only [mu_X11_readWord, mu_X11_readFactor]; omega) (all3 gw_1684 gw_1686 gw_114) (ik_306 hw hN) (by decide) (q := (RX11, TX11, 39)) rfl rfl rfl rfl (Nat.le_of_ble_eq_true rfl) dX11_readWord_27 (fun σ7 => ?_)
      refine jo_aload_n (pc := 30) 0 rfl dX11_readWord_30 rfl ?_
      refine jo_iload_n (pc := 31) 1 rfl dX11_readWord_31 rfl ?_
      refine jo_iconst (pc := 32) dX11_readWord_32 (ic_i_1) ?_
      refine jo_iadd (pc := 33) dX11_readWord_33 ?_
      refine jo_cV_V_i (pc := 34) (μ' := mu_X11_readPower) (fx := f_X11_readPower σ7 (x0 + 1)) (As := [.int (x0 + 1)]) (c_X11_readPower hw hN) (ok_X11_readPower) (by simp only [mu_X11_readWord, mu_X11_readPower]; omega) (all3 gw_1712 gw_1714 gw_121) (ik_306 hw hN) (by decide) (q := (RX11, TX11, 39)) rfl rfl rfl rfl (Nat.le_of_ble_eq_true rfl) dX11_readWord_34 (fun σ8 => ?_)
      refine jo_aload_n (pc := 37) 0 rfl dX11_readWord_37 rfl ?_
      refine jo_cV_Z_p (pc := 38) (μ' := mu_X11_isWrong) (fx := f_X11_isWrong σ8) (As := []) (c_X11_isWrong hw hN) (ok_X11_isWrong) (by simp only [mu_X11_readWord, mu_X11_isWrong]; omega) (all3 gw_1668 gw_1670 gw_110) (ik_306 hw hN) (by decide) (q := (RX11, TX11, 39)) rfl rfl rfl rfl (Nat.le_of_ble_eq_true rfl) dX11_readWord_38 (fun b9 => ?_)
      refine jo_ifz_eq (pc := 41) dX11_readWord_41 (tgt := 45) rfl ?_ ?_
      · refine jo_aload_n (pc := 45) 0 rfl dX11_readWord_45 rfl ?_
        refine jo_iload_n (pc := 46) 1 rfl dX11_readWord_46 rfl ?_
        refine jo_iload_n (pc := 47) 1 rfl dX11_readWord_47 rfl ?_
        refine jo_iconst (pc := 48) dX11_readWord_48 (ic_i_1) ?_
        refine jo_iadd (pc := 49) dX11_readWord_49 ?_
        refine jo_cV_V_i (pc := 50) (μ' := mu_X11_times) (fx := f_X11_times σ8 x0 (x0 + 1)) (As := [.int x0, .int (x0 + 1)]) (c_X11_times hw hN) (ok_X11_times) (by simp only [mu_X11_readWord, mu_X11_times]; omega) (all3 gw_1526 gw_1528 gw_86) (ik_306 hw hN) (by decide) (q := (RX11, TX11, 39)) rfl rfl rfl rfl (Nat.le_of_ble_eq_true rfl) dX11_readWord_50 (fun σ10 => ?_)
        refine jo_aload_n (pc := 53) 0 rfl dX11_readWord_53 rfl ?_
        refine jo_iload_n (pc := 54) 1 rfl dX11_readWord_54 rfl ?_
        refine jo_cV_V_i (pc := 55) (μ' := mu_X11_checks) (fx := f_X11_checks σ10 x0) (As := [.int x0]) (c_X11_checks hw hN) (ok_X11_checks) (by simp only [mu_X11_readWord, mu_X11_checks]; omega) (all3 gw_1708 gw_1710 gw_120) (ik_306 hw hN) (by decide) (q := (RX11, TX11, 39)) rfl rfl rfl rfl (Nat.le_of_ble_eq_true rfl) dX11_readWord_55 (fun σ11 => ?_)
        refine jo_goto (pc := 58) dX11_readWord_58 (tgt := 5) rfl ?_
        exact jo_leaf (by rfl) (hF5_2 σ11)
      · exact jo_return (pc := 44) rfl rfl dX11_readWord_44
theorem co_X11_readWord {w : Wd} (hw : WOK w) (hN : wn w = NT) {d : Nat} {rec : Mem → Int32 → Option Mem} (hrec : ∀ {τ0 : Mem} {y0 : Int32}, ∀ τ, rec τ0 y0 = some τ → MC w (mu_X11_readWord d) none [.ref (adr w 306), .int y0] τ0 τ) {σ : Mem} {x0 : Int32} : ∀ σ', o_X11_readWord rec σ x0 = some σ' → MC w (mu_X11_readWord (d + 4)) none [.ref (adr w 306), .int x0] σ σ' := mc_ofV (ok_X11_readWord _) rfl (Nat.le_of_ble_eq_true rfl) (t_X11_readWord hw hN hrec)
noncomputable def f_X11_readWord : Nat → Mem → Int32 → Option Mem
  | 0 => fun _ _ => none
  | n + 1 => fun σ x0 => o_X11_readWord (f_X11_readWord n) σ x0
theorem c_X11_readWord (n : Nat) {w : Wd} (hw : WOK w) (hN : wn w = NT) {σ : Mem} {x0 : Int32} : ∀ σ', f_X11_readWord n σ x0 = some σ' → MC w (mu_X11_readWord (4 * n)) none [.ref (adr w 306), .int x0] σ σ' := by
  induction n generalizing σ x0 with
  | zero => intro σ' h; cases h
  | succ n ih => exact co_X11_readWord hw hN (rec := f_X11_readWord n) (d := 4 * n) ih
abbrev mu_X11_text : MD := (yX11_text, cX11_text, 2, some .boolean, 88)
theorem ok_X11_text : MOK mu_X11_text 1 := ⟨gw_1663, gw_171, by decide +kernel, ⟨by decide +kernel, by decide +kernel, by decide +kernel⟩, Nat.le_of_ble_eq_true rfl⟩
noncomputable def j_X11_text_165 (σ20 : Mem) : Option (Bool × Mem) :=
  some (false, σ20)
noncomputable def j_X11_text_144 (x0 : Int32) (σ18 : Mem) : Option (Bool × Mem) :=
  (f_X11_isWrong σ18).bind (fun (b19 : Bool) => (if b19 then some (Sum.inl σ18) else bq (f_X11_gives σ18 x0 10) (fun (b21 : Bool) (σ22 : Mem) => if b21 then some (Sum.inr (true, σ22)) else some (Sum.inl σ22)) : Option (Mem ⊕ (Bool × Mem))).bind (Sum.elim (fun (z20 : Mem) => j_X11_text_165 z20) some))
noncomputable def j_X11_text_121 (σ16 : Mem) : Option Mem :=
  pF σ16 306 19 5 (fun (σ24 : Mem) => gF σ24 306 24 (fun (v25 : Int32) => pF σ24 306 20 v25 (fun (σ26 : Mem) => gF σ26 306 4 (fun (v27 : Int32) => pF σ26 306 4 (v27 + 1) (fun (σ28 : Mem) => some σ28)))))
noncomputable def j_X11_text_95 (x0 : Int32) (σ16 : Mem) : Option (Bool × Mem) :=
  gF σ16 306 24 (fun (v17 : Int32) => (if v17 = (-1) then (some σ16) else ((f_X11_isWrong σ16).bind (fun (b23 : Bool) => (if b23 then gF σ16 306 20 (fun (v29 : Int32) => gF σ16 306 24 (fun (v30 : Int32) => if v29 < v30 then (some (Sum.inr σ16)) else (some (Sum.inl ())))) else some (Sum.inl ()) : Option (Unit ⊕ Mem)).bind (Sum.elim (fun (z23 : Unit) => j_X11_text_121 σ16) some))) : Option Mem).bind (fun (z18 : Mem) => j_X11_text_144 x0 z18))
noncomputable def f_X11_text (σ : Mem) (x0 : Int32) : Option (Bool × Mem) :=
  pF σ 306 0 0 (fun (σ1 : Mem) => pF σ1 306 21 0 (fun (σ2 : Mem) => gF σ2 306 18 (fun (v3 : Int32) => pF σ2 306 22 v3 (fun (σ4 : Mem) => pF σ4 306 18 0 (fun (σ5 : Mem) => pF σ5 306 19 0 (fun (σ6 : Mem) => pF σ6 306 20 (-1) (fun (σ7 : Mem) => pF σ7 306 24 (-1) (fun (σ8 : Mem) => pF σ8 306 25 0 (fun (σ9 : Mem) => pF σ9 306 23 0 (fun (σ10 : Mem) => (f_X11_isRegister σ10 x0).bind (fun (b11 : Bool) => if b11 then bq (f_X11_isConsistent σ10) (fun (b12 : Bool) (σ13 : Mem) => if b12 then (f_X11_readWord 20 σ13 10).bind (fun (σ14 : Mem) => (f_X11_isWrong σ14).bind (fun (b15 : Bool) => (if b15 then some σ14 else bq (f_X11_behindBlanks σ14) (fun (v31 : Int32) (σ32 : Mem) => if v31 = (-1) then (some σ32) else (gF σ32 306 21 (fun (v33 : Int32) => (f_X11_errs σ32 1 v33).bind (fun (σ34 : Mem) => some σ34)))) : Option Mem).bind (fun (z16 : Mem) => j_X11_text_95 x0 z16))) else some (false, σ13)) else some (false, σ10))))))))))))
theorem t_X11_text {w : Wd} (hw : WOK w) (hN : wn w = NT) {σ : Mem} {x0 : Int32} : JO w mu_X11_text vB σ [(0, .ref (adr w 306)), (1, .int x0)] [] 0 (f_X11_text σ x0) some := by
  unfold f_X11_text
  refine jo_aload_n (pc := 0) 0 rfl dX11_text_0 rfl ?_
  refine jo_iconst (pc := 1) dX11_text_1 (ic_i_0) ?_
  refine jo_putf (pc := 2) ok_11_0 okp_11_0 (ik_306 hw hN) gw_1296 dX11_text_2 (fun σ1 => ?_)
  refine jo_aload_n (pc := 5) 0 rfl dX11_text_5 rfl ?_
  refine jo_iconst (pc := 6) dX11_text_6 (ic_i_0) ?_
  refine jo_putf (pc := 7) ok_11_21 okp_11_21 (ik_306 hw hN) gw_1317 dX11_text_7 (fun σ2 => ?_)
  refine jo_aload_n (pc := 10) 0 rfl dX11_text_10 rfl ?_
  refine jo_aload_n (pc := 11) 0 rfl dX11_text_11 rfl ?_
  refine jo_getf (pc := 12) ok_11_18 (ik_306 hw hN) gw_1314 dX11_text_12 (fun v3 => ?_)
  refine jo_putf (pc := 15) ok_11_22 okp_11_22 (ik_306 hw hN) gw_1318 dX11_text_15 (fun σ4 => ?_)
  refine jo_aload_n (pc := 18) 0 rfl dX11_text_18 rfl ?_
  refine jo_iconst (pc := 19) dX11_text_19 (ic_i_0) ?_
  refine jo_putf (pc := 20) ok_11_18 okp_11_18 (ik_306 hw hN) gw_1314 dX11_text_20 (fun σ5 => ?_)
  refine jo_aload_n (pc := 23) 0 rfl dX11_text_23 rfl ?_
  refine jo_iconst (pc := 24) dX11_text_24 (ic_i_0) ?_
  refine jo_putf (pc := 25) ok_11_19 okp_11_19 (ik_306 hw hN) gw_1315 dX11_text_25 (fun σ6 => ?_)
  refine jo_aload_n (pc := 28) 0 rfl dX11_text_28 rfl ?_
  refine jo_iconst (pc := 29) dX11_text_29 (ic_i_m1) ?_
  refine jo_putf (pc := 30) ok_11_20 okp_11_20 (ik_306 hw hN) gw_1316 dX11_text_30 (fun σ7 => ?_)
  refine jo_aload_n (pc := 33) 0 rfl dX11_text_33 rfl ?_
  refine jo_iconst (pc := 34) dX11_text_34 (ic_i_m1) ?_
  refine jo_putf (pc := 35) ok_11_24 okp_11_24 (ik_306 hw hN) gw_1320 dX11_text_35 (fun σ8 => ?_)
  refine jo_aload_n (pc := 38) 0 rfl dX11_text_38 rfl ?_
  refine jo_iconst (pc := 39) dX11_text_39 (ic_i_0) ?_
  refine jo_putf (pc := 40) ok_11_25 okp_11_25 (ik_306 hw hN) gw_1321 dX11_text_40 (fun σ9 => ?_)
  refine jo_aload_n (pc := 43) 0 rfl dX11_text_43 rfl ?_
  refine jo_iconst (pc := 44) dX11_text_44 (ic_i_0) ?_
  refine jo_putf (pc := 45) ok_11_23 okp_11_23 (ik_306 hw hN) gw_1319 dX11_text_45 (fun σ10 => ?_)
  refine jo_aload_n (pc := 48) 0 rfl dX11_text_48 rfl ?_
  refine jo_iload_n (pc := 49) 1 rfl dX11_text_49 rfl ?_
  refine jo_cV_Z_p (pc := 50) (μ' := mu_X11_isRegister) (fx := f_X11_isRegister σ10 x0) (As := [.int x0]) (c_X11_isRegister hw hN) (ok_X11_isRegister) (ltb rfl) (all3 gw_1473 gw_1475 gw_73) (ik_306 hw hN) (by decide) (q := (RX11, TX11, 39)) rfl rfl rfl rfl (Nat.le_of_ble_eq_true rfl) dX11_text_50 (fun b11 => ?_)
  refine jo_ifz_eq (pc := 53) dX11_text_53 (tgt := 63) rfl ?_ ?_
  · refine jo_iconst (pc := 63) dX11_text_63 (ic_i_0) ?_
    exact jo_breturn (pc := 64) (b := false) rfl rfl dX11_text_64
  · refine jo_aload_n (pc := 56) 0 rfl dX11_text_56 rfl ?_
    refine jo_cV_Z_i (pc := 57) (μ' := mu_X11_isConsistent) (fx := f_X11_isConsistent σ10) (As := []) (c_X11_isConsistent hw hN) (ok_X11_isConsistent) (ltb rfl) (all3 gw_1478 gw_1480 gw_74) (ik_306 hw hN) (by decide) (q := (RX11, TX11, 39)) rfl rfl rfl rfl (Nat.le_of_ble_eq_true rfl) dX11_text_57 (fun b12 σ13 => ?_)
    refine jo_ifz_ne (pc := 60) dX11_text_60 (tgt := 65) rfl ?_ ?_
    · refine jo_aload_n (pc := 65) 0 rfl dX11_text_65 rfl ?_
      refine jo_bipush (pc := 66) dX11_text_66 (ic_b_10) ?_
      refine jo_cV_V_i (pc := 68) (μ' := (mu_X11_readWord 80)) (fx := f_X11_readWord 20 σ13 10) (As := [.int 10]) (c_X11_readWord 20 hw hN) (ok_X11_readWord _) (ltb rfl) (all3 gw_1664 gw_1666 gw_109) (ik_306 hw hN) (by decide) (q := (RX11, TX11, 39)) rfl rfl rfl rfl (Nat.le_of_ble_eq_true rfl) dX11_text_68 (fun σ14 => ?_)
      refine jo_aload_n (pc := 71) 0 rfl dX11_text_71 rfl ?_
      refine jo_cV_Z_p (pc := 72) (μ' := mu_X11_isWrong) (fx := f_X11_isWrong σ14) (As := []) (c_X11_isWrong hw hN) (ok_X11_isWrong) (ltb rfl) (all3 gw_1668 gw_1670 gw_110) (ik_306 hw hN) (by decide) (q := (RX11, TX11, 39)) rfl rfl rfl rfl (Nat.le_of_ble_eq_true rfl) dX11_text_72 (fun b15 => ?_)
      refine jo_join1 (S := Mem) (fun (z16 : Mem) => z16) (fun (z16 : Mem) => [(0, .ref (adr w 306)), (1, .int x0)]) (fun (z16 : Mem) => []) 95 ?_ (fun h95_16 => ?_)
      · intro σ16
        show JO w mu_X11_text vB σ16 [(0, .ref (adr w 306)), (1, .int x0)] [] 95 (j_X11_text_95 x0 σ16) _
        unfold j_X11_text_95
        refine jo_aload_n (pc := 95) 0 rfl dX11_text_95 rfl ?_
        refine jo_getf (pc := 96) ok_11_24 (ik_306 hw hN) gw_1320 dX11_text_96 (fun v17 => ?_)
        refine jo_iconst (pc := 99) dX11_text_99 (ic_i_m1) ?_
        refine jo_join1 (S := Mem) (fun (z18 : Mem) => z18) (fun (z18 : Mem) => [(0, .ref (adr w 306)), (1, .int x0)]) (fun (z18 : Mem) => []) 144 ?_ (fun h144_18 => ?_)
        · intro σ18
          show JO w mu_X11_text vB σ18 [(0, .ref (adr w 306)), (1, .int x0)] [] 144 (j_X11_text_144 x0 σ18) _
          unfold j_X11_text_144
          refine jo_aload_n (pc := 144) 0 rfl dX11_text_144 rfl ?_
          refine jo_cV_Z_p (pc := 145) (μ' := mu_X11_isWrong) (fx := f_X11_isWrong σ18) (As := []) (c_X11_isWrong hw hN) (ok_X11_isWrong) (ltb rfl) (all3 gw_1668 gw_1670 gw_110) (ik_306 hw hN) (by decide) (q := (RX11, TX11, 39)) rfl rfl rfl rfl (Nat.le_of_ble_eq_true rfl) dX11_text_145 (fun b19 => ?_)
          refine jo_joinS (S := Mem) (fun (z20 : Mem) => z20) (fun (z20 : Mem) => []) (fun (z20 : Mem) => []) 165 ?_ (fun h165_20 => ?_)
          · intro σ20
            show JO w mu_X11_text vB σ20 [] [] 165 (j_X11_text_165 σ20) _
            unfold j_X11_text_165
            refine jo_iconst (pc := 165) dX11_text_165 (ic_i_0) ?_
            exact jo_breturn (pc := 166) (b := false) rfl rfl dX11_text_166
          · refine jo_ifz_ne (pc := 148) dX11_text_148 (tgt := 165) rfl ?_ ?_
            · refine jo_lv (lv' := []) [] rfl ?_
              exact jo_leaf (by rfl) (h165_20 σ18)
            · refine jo_aload_n (pc := 151) 0 rfl dX11_text_151 rfl ?_
              refine jo_iload_n (pc := 152) 1 rfl dX11_text_152 rfl ?_
              refine jo_bipush (pc := 153) dX11_text_153 (ic_b_10) ?_
              refine jo_cV_Z_i (pc := 155) (μ' := mu_X11_gives) (fx := f_X11_gives σ18 x0 10) (As := [.int x0, .int 10]) (c_X11_gives hw hN) (ok_X11_gives) (ltb rfl) (all3 gw_1570 gw_1572 gw_96) (ik_306 hw hN) (by decide) (q := (RX11, TX11, 39)) rfl rfl rfl rfl (Nat.le_of_ble_eq_true rfl) dX11_text_155 (fun b21 σ22 => ?_)
              refine jo_ifz_eq (pc := 158) dX11_text_158 (tgt := 165) rfl ?_ ?_
              · refine jo_lv (lv' := []) [] rfl ?_
                exact jo_leaf (by rfl) (h165_20 σ22)
              · refine jo_iconst (pc := 161) dX11_text_161 (ic_i_1) ?_
                refine jo_goto (pc := 162) dX11_text_162 (tgt := 166) rfl ?_
                exact jo_breturn (pc := 166) (b := true) rfl rfl dX11_text_166
        · refine jo_icmp_eq (pc := 100) dX11_text_100 (tgt := 144) rfl ?_ ?_
          · exact jo_leaf (by rfl) (h144_18 σ16)
          · refine jo_aload_n (pc := 103) 0 rfl dX11_text_103 rfl ?_
            refine jo_cV_Z_p (pc := 104) (μ' := mu_X11_isWrong) (fx := f_X11_isWrong σ16) (As := []) (c_X11_isWrong hw hN) (ok_X11_isWrong) (ltb rfl) (all3 gw_1668 gw_1670 gw_110) (ik_306 hw hN) (by decide) (q := (RX11, TX11, 39)) rfl rfl rfl rfl (Nat.le_of_ble_eq_true rfl) dX11_text_104 (fun b23 => ?_)
            refine jo_joinS (S := Unit) (fun (z23 : Unit) => σ16) (fun (z23 : Unit) => [(0, .ref (adr w 306)), (1, .int x0)]) (fun (z23 : Unit) => []) 121 ?_ (fun h121_23 => ?_)
            · intro _
              show JO w mu_X11_text vB σ16 [(0, .ref (adr w 306)), (1, .int x0)] [] 121 (j_X11_text_121 σ16) _
              unfold j_X11_text_121
              refine jo_aload_n (pc := 121) 0 rfl dX11_text_121 rfl ?_
              refine jo_iconst (pc := 122) dX11_text_122 (ic_i_5) ?_
              refine jo_putf (pc := 123) ok_11_19 okp_11_19 (ik_306 hw hN) gw_1315 dX11_text_123 (fun σ24 => ?_)
              refine jo_aload_n (pc := 126) 0 rfl dX11_text_126 rfl ?_
              refine jo_aload_n (pc := 127) 0 rfl dX11_text_127 rfl ?_
              refine jo_getf (pc := 128) ok_11_24 (ik_306 hw hN) gw_1320 dX11_text_128 (fun v25 => ?_)
              refine jo_putf (pc := 131) ok_11_20 okp_11_20 (ik_306 hw hN) gw_1316 dX11_text_131 (fun σ26 => ?_)
              refine jo_aload_n (pc := 134) 0 rfl dX11_text_134 rfl ?_
              refine jo_aload_n (pc := 135) 0 rfl dX11_text_135 rfl ?_
              refine jo_getf (pc := 136) ok_11_4 (ik_306 hw hN) gw_1300 dX11_text_136 (fun v27 => ?_)
              refine jo_iconst (pc := 139) dX11_text_139 (ic_i_1) ?_
              refine jo_iadd (pc := 140) dX11_text_140 ?_
              refine jo_putf (pc := 141) ok_11_4 okp_11_4 (ik_306 hw hN) gw_1300 dX11_text_141 (fun σ28 => ?_)
              exact jo_leaf (by rfl) (h144_18 σ28)
            · refine jo_ifz_eq (pc := 107) dX11_text_107 (tgt := 121) rfl ?_ ?_
              · exact jo_leaf (by rfl) (h121_23 ())
              · refine jo_aload_n (pc := 110) 0 rfl dX11_text_110 rfl ?_
                refine jo_getf (pc := 111) ok_11_20 (ik_306 hw hN) gw_1316 dX11_text_111 (fun v29 => ?_)
                refine jo_aload_n (pc := 114) 0 rfl dX11_text_114 rfl ?_
                refine jo_getf (pc := 115) ok_11_24 (ik_306 hw hN) gw_1320 dX11_text_115 (fun v30 => ?_)
                refine jo_icmp_lt (pc := 118) dX11_text_118 (tgt := 144) rfl ?_ ?_
                · exact jo_leaf (by rfl) (h144_18 σ16)
                · exact jo_leaf (by rfl) (h121_23 ())
      · refine jo_ifz_ne (pc := 75) dX11_text_75 (tgt := 95) rfl ?_ ?_
        · exact jo_leaf (by rfl) (h95_16 σ14)
        · refine jo_aload_n (pc := 78) 0 rfl dX11_text_78 rfl ?_
          refine jo_cV_I_i (pc := 79) (μ' := mu_X11_behindBlanks) (fx := f_X11_behindBlanks σ14) (As := []) (c_X11_behindBlanks hw hN) (ok_X11_behindBlanks) (ltb rfl) (all3 gw_1672 gw_1674 gw_111) (ik_306 hw hN) (by decide) (q := (RX11, TX11, 39)) rfl rfl rfl rfl (Nat.le_of_ble_eq_true rfl) dX11_text_79 (fun v31 σ32 => ?_)
          refine jo_iconst (pc := 82) dX11_text_82 (ic_i_m1) ?_
          refine jo_icmp_eq (pc := 83) dX11_text_83 (tgt := 95) rfl ?_ ?_
          · exact jo_leaf (by rfl) (h95_16 σ32)
          · refine jo_aload_n (pc := 86) 0 rfl dX11_text_86 rfl ?_
            refine jo_iconst (pc := 87) dX11_text_87 (ic_i_1) ?_
            refine jo_aload_n (pc := 88) 0 rfl dX11_text_88 rfl ?_
            refine jo_getf (pc := 89) ok_11_21 (ik_306 hw hN) gw_1317 dX11_text_89 (fun v33 => ?_)
            refine jo_cV_V_i (pc := 92) (μ' := mu_X11_errs) (fx := f_X11_errs σ32 1 v33) (As := [.int 1, .int v33]) (c_X11_errs hw hN) (ok_X11_errs) (ltb rfl) (all3 gw_1688 gw_1690 gw_115) (ik_306 hw hN) (by decide) (q := (RX11, TX11, 39)) rfl rfl rfl rfl (Nat.le_of_ble_eq_true rfl) dX11_text_92 (fun σ34 => ?_)
            exact jo_leaf (by rfl) (h95_16 σ34)
    · refine jo_iconst (pc := 63) dX11_text_63 (ic_i_0) ?_
      exact jo_breturn (pc := 64) (b := false) rfl rfl dX11_text_64
theorem c_X11_text {w : Wd} (hw : WOK w) (hN : wn w = NT) {σ : Mem} {x0 : Int32} : ∀ r σ', f_X11_text σ x0 = some (r, σ') → MC w mu_X11_text (vB r) [.ref (adr w 306), .int x0] σ σ' := mc_of ok_X11_text rfl (Nat.le_of_ble_eq_true rfl) (t_X11_text hw hN)
abbrev mu_X11_fault : MD := (yX11_fault, cX11_fault, 2, some .int, 0)
theorem ok_X11_fault : MOK mu_X11_fault 1 := ⟨gw_1719, gw_171, by decide +kernel, ⟨by decide +kernel, by decide +kernel, by decide +kernel⟩, Nat.le_of_ble_eq_true rfl⟩
noncomputable def f_X11_fault (σ : Mem) (x0 : Int32) : Option (Int32 × Mem) :=
  pF σ 306 0 0 (fun (σ1 : Mem) => if x0 = 0 then (gF σ1 306 19 (fun (v3 : Int32) => some (v3, σ1))) else (if x0 = 1 then (gF σ1 306 20 (fun (v2 : Int32) => some (v2, σ1))) else (some ((-1), σ1))))
theorem t_X11_fault {w : Wd} (hw : WOK w) (hN : wn w = NT) {σ : Mem} {x0 : Int32} : JO w mu_X11_fault vI σ [(0, .ref (adr w 306)), (1, .int x0)] [] 0 (f_X11_fault σ x0) some := by
  unfold f_X11_fault
  refine jo_aload_n (pc := 0) 0 rfl dX11_fault_0 rfl ?_
  refine jo_iconst (pc := 1) dX11_fault_1 (ic_i_0) ?_
  refine jo_putf (pc := 2) ok_11_0 okp_11_0 (ik_306 hw hN) gw_1296 dX11_fault_2 (fun σ1 => ?_)
  refine jo_iload_n (pc := 5) 1 rfl dX11_fault_5 rfl ?_
  refine jo_if_ne (pc := 6) dX11_fault_6 (tgt := 16) rfl ?_ ?_
  · refine jo_iload_n (pc := 16) 1 rfl dX11_fault_16 rfl ?_
    refine jo_iconst (pc := 17) dX11_fault_17 (ic_i_1) ?_
    refine jo_icmp_ne (pc := 18) dX11_fault_18 (tgt := 28) rfl ?_ ?_
    · refine jo_iconst (pc := 28) dX11_fault_28 (ic_i_m1) ?_
      exact jo_ireturn (pc := 29) rfl rfl dX11_fault_29
    · refine jo_aload_n (pc := 21) 0 rfl dX11_fault_21 rfl ?_
      refine jo_getf (pc := 22) ok_11_20 (ik_306 hw hN) gw_1316 dX11_fault_22 (fun v2 => ?_)
      refine jo_goto (pc := 25) dX11_fault_25 (tgt := 29) rfl ?_
      exact jo_ireturn (pc := 29) rfl rfl dX11_fault_29
  · refine jo_aload_n (pc := 9) 0 rfl dX11_fault_9 rfl ?_
    refine jo_getf (pc := 10) ok_11_19 (ik_306 hw hN) gw_1315 dX11_fault_10 (fun v3 => ?_)
    refine jo_goto (pc := 13) dX11_fault_13 (tgt := 29) rfl ?_
    exact jo_ireturn (pc := 29) rfl rfl dX11_fault_29
theorem c_X11_fault {w : Wd} (hw : WOK w) (hN : wn w = NT) {σ : Mem} {x0 : Int32} : ∀ r σ', f_X11_fault σ x0 = some (r, σ') → MC w mu_X11_fault (vI r) [.ref (adr w 306), .int x0] σ σ' := mc_of ok_X11_fault rfl (Nat.le_of_ble_eq_true rfl) (t_X11_fault hw hN)
abbrev mu_X11_collect : MD := (yX11_collect, cX11_collect, 3, some .int, 3)
theorem ok_X11_collect : MOK mu_X11_collect 0 := ⟨gw_1723, gw_171, by decide +kernel, ⟨by decide +kernel, by decide +kernel, by decide +kernel⟩, Nat.le_of_ble_eq_true rfl⟩
noncomputable def j_X11_collect_146 (σ11 : Mem) : Option (Int32 × Mem) :=
  gF σ11 306 7 (fun (v12 : Int32) => some (v12, σ11))
noncomputable def l_X11_collect_121 (σ13 : Mem) (i14 : Int32) : Option ((Mem × Int32) ⊕ Mem) :=
  (f_X11_n σ13).bind (fun (v15 : Int32) => if v15 ≤ i14 then (some (Sum.inr σ13)) else ((f_X11_letters σ13 i14).bind (fun (v16 : Int32) => pI σ13 318 i14 v16 (fun (σ17 : Mem) => some (Sum.inl (σ17, i14 + 1))))))
noncomputable def j_X11_collect_101 (σ6 : Mem) : Option (Int32 × Mem) :=
  bq (f_X11_collects σ6) (fun (b7 : Bool) (σ8 : Mem) => if b7 then (f_X11_n σ8).bind (fun (v9 : Int32) => pF σ8 306 27 v9 (fun (σ10 : Mem) => (loopO (fun (z14 : (Mem × Int32)) => l_X11_collect_121 z14.1 z14.2) (σ10, 0) : Option Mem).bind (fun (z11 : Mem) => j_X11_collect_146 z11))) else some ((-2), σ8))
noncomputable def l_X11_collect_77 (v2 : Int32) (σ18 : Mem) (i19 : Int32) : Option ((Mem × Int32) ⊕ Mem) :=
  if v2 ≤ i19 then (some (Sum.inr σ18)) else (gI σ18 317 i19 (fun (v20 : Int32) => (f_X11_writes σ18 (v20 - 97)).bind (fun (σ21 : Mem) => some (Sum.inl (σ21, i19 + 1)))))
noncomputable def j_X11_collect_65 (v2 : Int32) (σ3 : Mem) : Option (Int32 × Mem) :=
  pF σ3 306 6 0 (fun (σ4 : Mem) => pF σ4 306 7 0 (fun (σ5 : Mem) => (loopO (fun (z19 : (Mem × Int32)) => l_X11_collect_77 v2 z19.1 z19.2) (σ5, 0) : Option Mem).bind (fun (z6 : Mem) => j_X11_collect_101 z6)))
noncomputable def l_X11_collect_25 (v2 : Int32) (σ3 : Mem) (i22 : Int32) : Option (Int32 ⊕ (Unit ⊕ (Int32 × Mem))) :=
  if v2 ≤ i22 then (some (Sum.inr (Sum.inl ()))) else (gI σ3 317 i22 (fun (v23 : Int32) => (f_X11_n σ3).bind (fun (v24 : Int32) => (f_X11_isIn σ3 (Int32.toInt64 v23) 97 ((Int32.toInt64 (97 + v24)) - 1)).bind (fun (b25 : Bool) => if b25 then some (Sum.inl (i22 + 1)) else some (Sum.inr (Sum.inr ((-1), σ3)))))))
noncomputable def f_X11_collect (σ : Mem) : Option (Int32 × Mem) :=
  pF σ 306 0 0 (fun (σ1 : Mem) => gF σ1 306 18 (fun (v2 : Int32) => pF σ1 306 18 0 (fun (σ3 : Mem) => if v2 ≤ 24 then ((loopO (fun (z22 : Int32) => l_X11_collect_25 v2 σ3 z22) 0 : Option (Unit ⊕ (Int32 × Mem))).bind (Sum.elim (fun (z3 : Unit) => j_X11_collect_65 v2 σ3) some)) else (some ((-1), σ3)))))
theorem t_X11_collect {w : Wd} (hw : WOK w) (hN : wn w = NT) {σ : Mem} : JO w mu_X11_collect vI σ [(0, .ref (adr w 306))] [] 0 (f_X11_collect σ) some := by
  unfold f_X11_collect
  refine jo_aload_n (pc := 0) 0 rfl dX11_collect_0 rfl ?_
  refine jo_iconst (pc := 1) dX11_collect_1 (ic_i_0) ?_
  refine jo_putf (pc := 2) ok_11_0 okp_11_0 (ik_306 hw hN) gw_1296 dX11_collect_2 (fun σ1 => ?_)
  refine jo_aload_n (pc := 5) 0 rfl dX11_collect_5 rfl ?_
  refine jo_getf (pc := 6) ok_11_18 (ik_306 hw hN) gw_1314 dX11_collect_6 (fun v2 => ?_)
  refine jo_istore_n (pc := 9) (lv' := [(1, .int v2), (0, .ref (adr w 306))]) dX11_collect_9 rfl (ltb rfl) rfl ?_
  refine jo_aload_n (pc := 10) 1 rfl dX11_collect_10 rfl ?_
  refine jo_iconst (pc := 11) dX11_collect_11 (ic_i_0) ?_
  refine jo_putf (pc := 12) ok_11_18 okp_11_18 (ik_306 hw hN) gw_1314 dX11_collect_12 (fun σ3 => ?_)
  refine jo_iload_n (pc := 15) 0 rfl dX11_collect_15 rfl ?_
  refine jo_bipush (pc := 16) dX11_collect_16 (ic_b_24) ?_
  refine jo_icmp_le (pc := 18) dX11_collect_18 (tgt := 23) rfl ?_ ?_
  · refine jo_iconst (pc := 23) dX11_collect_23 (ic_i_0) ?_
    refine jo_istore_n (pc := 24) (lv' := [(2, .int 0), (1, .int v2), (0, .ref (adr w 306))]) dX11_collect_24 rfl (ltb rfl) rfl ?_
    refine jo_joinS (S := Unit) (fun (z3 : Unit) => σ3) (fun (z3 : Unit) => [(1, .int v2), (0, .ref (adr w 306))]) (fun (z3 : Unit) => []) 65 ?_ (fun h65_3 => ?_)
    · intro _
      show JO w mu_X11_collect vI σ3 [(1, .int v2), (0, .ref (adr w 306))] [] 65 (j_X11_collect_65 v2 σ3) _
      unfold j_X11_collect_65
      refine jo_aload_n (pc := 65) 1 rfl dX11_collect_65 rfl ?_
      refine jo_iconst (pc := 66) dX11_collect_66 (ic_i_0) ?_
      refine jo_putf (pc := 67) ok_11_6 okp_11_6 (ik_306 hw hN) gw_1302 dX11_collect_67 (fun σ4 => ?_)
      refine jo_aload_n (pc := 70) 1 rfl dX11_collect_70 rfl ?_
      refine jo_iconst (pc := 71) dX11_collect_71 (ic_i_0) ?_
      refine jo_putf (pc := 72) ok_11_7 okp_11_7 (ik_306 hw hN) gw_1303 dX11_collect_72 (fun σ5 => ?_)
      refine jo_iconst (pc := 75) dX11_collect_75 (ic_i_0) ?_
      refine jo_istore_n (pc := 76) (lv' := [(2, .int 0), (1, .int v2), (0, .ref (adr w 306))]) dX11_collect_76 rfl (ltb rfl) rfl ?_
      refine jo_join1 (S := Mem) (fun (z6 : Mem) => z6) (fun (z6 : Mem) => [(0, .ref (adr w 306))]) (fun (z6 : Mem) => []) 101 ?_ (fun h101_6 => ?_)
      · intro σ6
        show JO w mu_X11_collect vI σ6 [(0, .ref (adr w 306))] [] 101 (j_X11_collect_101 σ6) _
        unfold j_X11_collect_101
        refine jo_aload_n (pc := 101) 0 rfl dX11_collect_101 rfl ?_
        refine jo_cV_Z_i (pc := 102) (μ' := mu_X11_collects) (fx := f_X11_collects σ6) (As := []) (c_X11_collects hw hN) (ok_X11_collects) (ltb rfl) (all3 gw_1502 gw_1504 gw_80) (ik_306 hw hN) (by decide) (q := (RX11, TX11, 39)) rfl rfl rfl rfl (Nat.le_of_ble_eq_true rfl) dX11_collect_102 (fun b7 σ8 => ?_)
        refine jo_ifz_ne (pc := 105) dX11_collect_105 (tgt := 111) rfl ?_ ?_
        · refine jo_aload_n (pc := 111) 0 rfl dX11_collect_111 rfl ?_
          refine jo_aload_n (pc := 112) 0 rfl dX11_collect_112 rfl ?_
          refine jo_cV_I_p (pc := 113) (μ' := mu_X11_n) (fx := f_X11_n σ8) (As := []) (c_X11_n hw hN) (ok_X11_n) (ltb rfl) (all3 gw_1444 gw_1446 gw_68) (ik_306 hw hN) (by decide) (q := (RX11, TX11, 39)) rfl rfl rfl rfl (Nat.le_of_ble_eq_true rfl) dX11_collect_113 (fun v9 => ?_)
          refine jo_putf (pc := 116) ok_11_27 okp_11_27 (ik_306 hw hN) gw_1323 dX11_collect_116 (fun σ10 => ?_)
          refine jo_iconst (pc := 119) dX11_collect_119 (ic_i_0) ?_
          refine jo_istore_n (pc := 120) (lv' := [(2, .int 0), (0, .ref (adr w 306))]) dX11_collect_120 rfl (ltb rfl) rfl ?_
          refine jo_join1 (S := Mem) (fun (z11 : Mem) => z11) (fun (z11 : Mem) => [(0, .ref (adr w 306))]) (fun (z11 : Mem) => []) 146 ?_ (fun h146_11 => ?_)
          · intro σ11
            show JO w mu_X11_collect vI σ11 [(0, .ref (adr w 306))] [] 146 (j_X11_collect_146 σ11) _
            unfold j_X11_collect_146
            refine jo_aload_n (pc := 146) 0 rfl dX11_collect_146 rfl ?_
            refine jo_getf (pc := 147) ok_11_7 (ik_306 hw hN) gw_1303 dX11_collect_147 (fun v12 => ?_)
            exact jo_ireturn (pc := 150) rfl rfl dX11_collect_150
          · refine jo_lv (lv' := [(0, .ref (adr w 306)), (2, .int 0)]) [1, 0] rfl ?_
            refine jo_loop (X := Mem) (fun (z14 : (Mem × Int32)) => z14.1) (fun (z14 : (Mem × Int32)) => [(0, .ref (adr w 306)), (2, .int z14.2)]) (body := (fun (z14 : (Mem × Int32)) => l_X11_collect_121 z14.1 z14.2)) (fun F121_14 hF121_14 s => ?_) (σ10, 0)
            obtain ⟨σ13, i14⟩ := s
            show JO w mu_X11_collect vI σ13 [(0, .ref (adr w 306)), (2, .int i14)] [] 121 (l_X11_collect_121 σ13 i14) _
            unfold l_X11_collect_121
            refine jo_iload_n (pc := 121) 1 rfl dX11_collect_121 rfl ?_
            refine jo_aload_n (pc := 122) 0 rfl dX11_collect_122 rfl ?_
            refine jo_cV_I_p (pc := 123) (μ' := mu_X11_n) (fx := f_X11_n σ13) (As := []) (c_X11_n hw hN) (ok_X11_n) (ltb rfl) (all3 gw_1444 gw_1446 gw_68) (ik_306 hw hN) (by decide) (q := (RX11, TX11, 39)) rfl rfl rfl rfl (Nat.le_of_ble_eq_true rfl) dX11_collect_123 (fun v15 => ?_)
            refine jo_icmp_ge (pc := 126) dX11_collect_126 (tgt := 146) rfl ?_ ?_
            · refine jo_lv (lv' := [(0, .ref (adr w 306))]) [0] rfl ?_
              exact jo_leaf (by rfl) (h146_11 σ13)
            · refine jo_aload_n (pc := 129) 0 rfl dX11_collect_129 rfl ?_
              refine jo_getrE (pc := 130) ok_11_26 (ik_306 hw hN) rf_306_26 gw_1322 dX11_collect_130 ?_
              refine jo_iload_n (pc := 133) 1 rfl dX11_collect_133 rfl ?_
              refine jo_aload_n (pc := 134) 0 rfl dX11_collect_134 rfl ?_
              refine jo_iload_n (pc := 135) 1 rfl dX11_collect_135 rfl ?_
              refine jo_cV_I_p (pc := 136) (μ' := mu_X11_letters) (fx := f_X11_letters σ13 i14) (As := [.int i14]) (c_X11_letters hw hN) (ok_X11_letters) (ltb rfl) (all3 gw_1506 gw_1508 gw_81) (ik_306 hw hN) (by decide) (q := (RX11, TX11, 39)) rfl rfl rfl rfl (Nat.le_of_ble_eq_true rfl) dX11_collect_136 (fun v16 => ?_)
              refine jo_iast (pc := 139) (ik_318 hw hN) dX11_collect_139 (fun σ17 => ?_)
              refine jo_iinc (pc := 140) (lv' := [(2, .int (i14 + 1)), (0, .ref (adr w 306))]) 1 rfl dX11_collect_140 (congrArg (fun z => i14 + z) (ic_i_1)) (ltb rfl) rfl ?_
              refine jo_goto (pc := 143) dX11_collect_143 (tgt := 121) rfl ?_
              refine jo_lv (lv' := [(0, .ref (adr w 306)), (2, .int (i14 + 1))]) [1, 0] rfl ?_
              exact jo_leaf (by rfl) (hF121_14 (σ17, i14 + 1))
        · refine jo_bipush (pc := 108) dX11_collect_108 (ic_b_m2) ?_
          exact jo_ireturn (pc := 110) rfl rfl dX11_collect_110
      · refine jo_lv (lv' := [(1, .int v2), (0, .ref (adr w 306)), (2, .int 0)]) [1, 2, 0] rfl ?_
        refine jo_loop (X := Mem) (fun (z19 : (Mem × Int32)) => z19.1) (fun (z19 : (Mem × Int32)) => [(1, .int v2), (0, .ref (adr w 306)), (2, .int z19.2)]) (body := (fun (z19 : (Mem × Int32)) => l_X11_collect_77 v2 z19.1 z19.2)) (fun F77_19 hF77_19 s => ?_) (σ5, 0)
        obtain ⟨σ18, i19⟩ := s
        show JO w mu_X11_collect vI σ18 [(1, .int v2), (0, .ref (adr w 306)), (2, .int i19)] [] 77 (l_X11_collect_77 v2 σ18 i19) _
        unfold l_X11_collect_77
        refine jo_iload_n (pc := 77) 2 rfl dX11_collect_77 rfl ?_
        refine jo_iload_n (pc := 78) 0 rfl dX11_collect_78 rfl ?_
        refine jo_icmp_ge (pc := 79) dX11_collect_79 (tgt := 101) rfl ?_ ?_
        · refine jo_lv (lv' := [(0, .ref (adr w 306))]) [1] rfl ?_
          exact jo_leaf (by rfl) (h101_6 σ18)
        · refine jo_aload_n (pc := 82) 1 rfl dX11_collect_82 rfl ?_
          refine jo_aload_n (pc := 83) 1 rfl dX11_collect_83 rfl ?_
          refine jo_getrE (pc := 84) ok_11_17 (ik_306 hw hN) rf_306_17 gw_1313 dX11_collect_84 ?_
          refine jo_iload_n (pc := 87) 2 rfl dX11_collect_87 rfl ?_
          refine jo_iald (pc := 88) (ik_317 hw hN) dX11_collect_88 (fun v20 => ?_)
          refine jo_bipush (pc := 89) dX11_collect_89 (ic_b_97) ?_
          refine jo_isub (pc := 91) dX11_collect_91 ?_
          refine jo_cV_V_i (pc := 92) (μ' := mu_X11_writes) (fx := f_X11_writes σ18 (v20 - 97)) (As := [.int (v20 - 97)]) (c_X11_writes hw hN) (ok_X11_writes) (ltb rfl) (all3 gw_1490 gw_1492 gw_77) (ik_306 hw hN) (by decide) (q := (RX11, TX11, 39)) rfl rfl rfl rfl (Nat.le_of_ble_eq_true rfl) dX11_collect_92 (fun σ21 => ?_)
          refine jo_iinc (pc := 95) (lv' := [(2, .int (i19 + 1)), (1, .int v2), (0, .ref (adr w 306))]) 2 rfl dX11_collect_95 (congrArg (fun z => i19 + z) (ic_i_1)) (ltb rfl) rfl ?_
          refine jo_goto (pc := 98) dX11_collect_98 (tgt := 77) rfl ?_
          refine jo_lv (lv' := [(1, .int v2), (0, .ref (adr w 306)), (2, .int (i19 + 1))]) [1, 2, 0] rfl ?_
          exact jo_leaf (by rfl) (hF77_19 (σ21, i19 + 1))
    · refine jo_lv (lv' := [(1, .int v2), (0, .ref (adr w 306)), (2, .int 0)]) [1, 2, 0] rfl ?_
      refine jo_loop (X := Unit ⊕ (Int32 × Mem)) (fun (z22 : Int32) => σ3) (fun (z22 : Int32) => [(1, .int v2), (0, .ref (adr w 306)), (2, .int z22)]) (body := (fun (z22 : Int32) => l_X11_collect_25 v2 σ3 z22)) (fun F25_22 hF25_22 s => ?_) 0
      revert s; intro i22
      show JO w mu_X11_collect vI σ3 [(1, .int v2), (0, .ref (adr w 306)), (2, .int i22)] [] 25 (l_X11_collect_25 v2 σ3 i22) _
      unfold l_X11_collect_25
      refine jo_iload_n (pc := 25) 2 rfl dX11_collect_25 rfl ?_
      refine jo_iload_n (pc := 26) 0 rfl dX11_collect_26 rfl ?_
      refine jo_icmp_ge (pc := 27) dX11_collect_27 (tgt := 65) rfl ?_ ?_
      · refine jo_lv (lv' := [(1, .int v2), (0, .ref (adr w 306))]) [0, 1] rfl ?_
        exact jo_leaf (by rfl) (h65_3 ())
      · refine jo_aload_n (pc := 30) 1 rfl dX11_collect_30 rfl ?_
        refine jo_aload_n (pc := 31) 1 rfl dX11_collect_31 rfl ?_
        refine jo_getrE (pc := 32) ok_11_17 (ik_306 hw hN) rf_306_17 gw_1313 dX11_collect_32 ?_
        refine jo_iload_n (pc := 35) 2 rfl dX11_collect_35 rfl ?_
        refine jo_iald (pc := 36) (ik_317 hw hN) dX11_collect_36 (fun v23 => ?_)
        refine jo_i2l (pc := 37) dX11_collect_37 ?_
        refine jo_ldc2 (pc := 38) dX11_collect_38 gw_1724 ?_
        refine jo_bipush (pc := 41) dX11_collect_41 (ic_b_97) ?_
        refine jo_aload_n (pc := 43) 1 rfl dX11_collect_43 rfl ?_
        refine jo_cV_I_p (pc := 44) (μ' := mu_X11_n) (fx := f_X11_n σ3) (As := []) (c_X11_n hw hN) (ok_X11_n) (ltb rfl) (all3 gw_1444 gw_1446 gw_68) (ik_306 hw hN) (by decide) (q := (RX11, TX11, 39)) rfl rfl rfl rfl (Nat.le_of_ble_eq_true rfl) dX11_collect_44 (fun v24 => ?_)
        refine jo_iadd (pc := 47) dX11_collect_47 ?_
        refine jo_i2l (pc := 48) dX11_collect_48 ?_
        refine jo_lconst (pc := 49) dX11_collect_49 (ic_l_1) ?_
        refine jo_lsub (pc := 50) dX11_collect_50 ?_
        refine jo_cV_Z_p (pc := 51) (μ' := mu_X11_isIn) (fx := f_X11_isIn σ3 (Int32.toInt64 v23) 97 ((Int32.toInt64 (97 + v24)) - 1)) (As := [.long (Int32.toInt64 v23), .long 97, .long ((Int32.toInt64 (97 + v24)) - 1)]) (c_X11_isIn hw hN) (ok_X11_isIn) (ltb rfl) (all3 gw_1423 gw_1425 gw_64) (ik_306 hw hN) (by decide) (q := (RX11, TX11, 39)) rfl rfl rfl rfl (Nat.le_of_ble_eq_true rfl) dX11_collect_51 (fun b25 => ?_)
        refine jo_ifz_ne (pc := 54) dX11_collect_54 (tgt := 59) rfl ?_ ?_
        · refine jo_iinc (pc := 59) (lv' := [(2, .int (i22 + 1)), (1, .int v2), (0, .ref (adr w 306))]) 2 rfl dX11_collect_59 (congrArg (fun z => i22 + z) (ic_i_1)) (ltb rfl) rfl ?_
          refine jo_goto (pc := 62) dX11_collect_62 (tgt := 25) rfl ?_
          refine jo_lv (lv' := [(1, .int v2), (0, .ref (adr w 306)), (2, .int (i22 + 1))]) [1, 2, 0] rfl ?_
          exact jo_leaf (by rfl) (hF25_22 (i22 + 1))
        · refine jo_iconst (pc := 57) dX11_collect_57 (ic_i_m1) ?_
          exact jo_ireturn (pc := 58) rfl rfl dX11_collect_58
  · refine jo_iconst (pc := 21) dX11_collect_21 (ic_i_m1) ?_
    exact jo_ireturn (pc := 22) rfl rfl dX11_collect_22
theorem c_X11_collect {w : Wd} (hw : WOK w) (hN : wn w = NT) {σ : Mem} : ∀ r σ', f_X11_collect σ = some (r, σ') → MC w mu_X11_collect (vI r) [.ref (adr w 306)] σ σ' := mc_of ok_X11_collect rfl (Nat.le_of_ble_eq_true rfl) (t_X11_collect hw hN)
abbrev mu_X11_collected : MD := (yX11_collected, cX11_collected, 2, some .int, 1)
theorem ok_X11_collected : MOK mu_X11_collected 1 := ⟨gw_1728, gw_171, by decide +kernel, ⟨by decide +kernel, by decide +kernel, by decide +kernel⟩, Nat.le_of_ble_eq_true rfl⟩
noncomputable def f_X11_collected (σ : Mem) (x0 : Int32) : Option (Int32 × Mem) :=
  pF σ 306 0 0 (fun (σ1 : Mem) => gF σ1 306 27 (fun (v2 : Int32) => (f_X11_isIn σ1 (Int32.toInt64 x0) 1 (Int32.toInt64 v2)).bind (fun (b3 : Bool) => if b3 then gI σ1 318 (x0 - 1) (fun (v4 : Int32) => some (v4, σ1)) else some ((-1), σ1))))
theorem t_X11_collected {w : Wd} (hw : WOK w) (hN : wn w = NT) {σ : Mem} {x0 : Int32} : JO w mu_X11_collected vI σ [(0, .ref (adr w 306)), (1, .int x0)] [] 0 (f_X11_collected σ x0) some := by
  unfold f_X11_collected
  refine jo_aload_n (pc := 0) 0 rfl dX11_collected_0 rfl ?_
  refine jo_iconst (pc := 1) dX11_collected_1 (ic_i_0) ?_
  refine jo_putf (pc := 2) ok_11_0 okp_11_0 (ik_306 hw hN) gw_1296 dX11_collected_2 (fun σ1 => ?_)
  refine jo_aload_n (pc := 5) 0 rfl dX11_collected_5 rfl ?_
  refine jo_iload_n (pc := 6) 1 rfl dX11_collected_6 rfl ?_
  refine jo_i2l (pc := 7) dX11_collected_7 ?_
  refine jo_lconst (pc := 8) dX11_collected_8 (ic_l_1) ?_
  refine jo_aload_n (pc := 9) 0 rfl dX11_collected_9 rfl ?_
  refine jo_getf (pc := 10) ok_11_27 (ik_306 hw hN) gw_1323 dX11_collected_10 (fun v2 => ?_)
  refine jo_i2l (pc := 13) dX11_collected_13 ?_
  refine jo_cV_Z_p (pc := 14) (μ' := mu_X11_isIn) (fx := f_X11_isIn σ1 (Int32.toInt64 x0) 1 (Int32.toInt64 v2)) (As := [.long (Int32.toInt64 x0), .long 1, .long (Int32.toInt64 v2)]) (c_X11_isIn hw hN) (ok_X11_isIn) (ltb rfl) (all3 gw_1423 gw_1425 gw_64) (ik_306 hw hN) (by decide) (q := (RX11, TX11, 39)) rfl rfl rfl rfl (Nat.le_of_ble_eq_true rfl) dX11_collected_14 (fun b3 => ?_)
  refine jo_ifz_eq (pc := 17) dX11_collected_17 (tgt := 31) rfl ?_ ?_
  · refine jo_iconst (pc := 31) dX11_collected_31 (ic_i_m1) ?_
    exact jo_ireturn (pc := 32) rfl rfl dX11_collected_32
  · refine jo_aload_n (pc := 20) 0 rfl dX11_collected_20 rfl ?_
    refine jo_getrE (pc := 21) ok_11_26 (ik_306 hw hN) rf_306_26 gw_1322 dX11_collected_21 ?_
    refine jo_iload_n (pc := 24) 1 rfl dX11_collected_24 rfl ?_
    refine jo_iconst (pc := 25) dX11_collected_25 (ic_i_1) ?_
    refine jo_isub (pc := 26) dX11_collected_26 ?_
    refine jo_iald (pc := 27) (ik_318 hw hN) dX11_collected_27 (fun v4 => ?_)
    refine jo_goto (pc := 28) dX11_collected_28 (tgt := 32) rfl ?_
    exact jo_ireturn (pc := 32) rfl rfl dX11_collected_32
theorem c_X11_collected {w : Wd} (hw : WOK w) (hN : wn w = NT) {σ : Mem} {x0 : Int32} : ∀ r σ', f_X11_collected σ x0 = some (r, σ') → MC w mu_X11_collected (vI r) [.ref (adr w 306), .int x0] σ σ' := mc_of ok_X11_collected rfl (Nat.le_of_ble_eq_true rfl) (t_X11_collected hw hN)
