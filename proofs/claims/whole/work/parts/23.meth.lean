abbrev mu_X11_consistent : MD := (yX11_consistent, cX11_consistent, 1, some .int, 37)
theorem ok_X11_consistent : MOK mu_X11_consistent 0 := ⟨gw_1732, gw_171, by decide +kernel, ⟨by decide +kernel, by decide +kernel, by decide +kernel⟩, Nat.le_of_ble_eq_true rfl⟩
noncomputable def f_X11_consistent (σ : Mem) : Option (Int32 × Mem) :=
  pF σ 306 0 0 (fun (σ1 : Mem) => bq (f_X11_isConsistent σ1) (fun (b2 : Bool) (σ3 : Mem) => if b2 then some (1, σ3) else some (0, σ3)))
theorem t_X11_consistent {w : Wd} (hw : WOK w) (hN : wn w = NT) {σ : Mem} : JO w mu_X11_consistent vI σ [(0, .ref (adr w 306))] [] 0 (f_X11_consistent σ) some := by
  unfold f_X11_consistent
  refine jo_aload_n (pc := 0) 0 rfl dX11_consistent_0 rfl ?_
  refine jo_iconst (pc := 1) dX11_consistent_1 (ic_i_0) ?_
  refine jo_putf (pc := 2) ok_11_0 okp_11_0 (ik_306 hw hN) gw_1296 dX11_consistent_2 (fun σ1 => ?_)
  refine jo_aload_n (pc := 5) 0 rfl dX11_consistent_5 rfl ?_
  refine jo_cV_Z_i (pc := 6) (μ' := mu_X11_isConsistent) (fx := f_X11_isConsistent σ1) (As := []) (c_X11_isConsistent hw hN) (ok_X11_isConsistent) (ltb rfl) (all3 gw_1478 gw_1480 gw_74) (ik_306 hw hN) (by decide) (q := (RX11, TX11, 39)) rfl rfl rfl rfl (Nat.le_of_ble_eq_true rfl) dX11_consistent_6 (fun b2 σ3 => ?_)
  refine jo_ifz_eq (pc := 9) dX11_consistent_9 (tgt := 16) rfl ?_ ?_
  · refine jo_iconst (pc := 16) dX11_consistent_16 (ic_i_0) ?_
    exact jo_ireturn (pc := 17) rfl rfl dX11_consistent_17
  · refine jo_iconst (pc := 12) dX11_consistent_12 (ic_i_1) ?_
    refine jo_goto (pc := 13) dX11_consistent_13 (tgt := 17) rfl ?_
    exact jo_ireturn (pc := 17) rfl rfl dX11_consistent_17
theorem c_X11_consistent {w : Wd} (hw : WOK w) (hN : wn w = NT) {σ : Mem} : ∀ r σ', f_X11_consistent σ = some (r, σ') → MC w mu_X11_consistent (vI r) [.ref (adr w 306)] σ σ' := mc_of ok_X11_consistent rfl (Nat.le_of_ble_eq_true rfl) (t_X11_consistent hw hN)
abbrev mu_X11_exponent : MD := (yX11_exponent, cX11_exponent, 3, some .int, 2)
theorem ok_X11_exponent : MOK mu_X11_exponent 2 := ⟨gw_1736, gw_171, by decide +kernel, ⟨by decide +kernel, by decide +kernel, by decide +kernel⟩, Nat.le_of_ble_eq_true rfl⟩
noncomputable def j_X11_exponent_39 (σ1 : Mem) : Option (Int32 × Mem) :=
  some ((-10000), σ1)
noncomputable def f_X11_exponent (σ : Mem) (x0 : Int32) (x1 : Int32) : Option (Int32 × Mem) :=
  pF σ 306 0 0 (fun (σ1 : Mem) => (f_X11_isRegister σ1 x0).bind (fun (b2 : Bool) => (if b2 then (f_X11_n σ1).bind (fun (v3 : Int32) => (f_X11_isIn σ1 (Int32.toInt64 x1) 1 (Int32.toInt64 v3)).bind (fun (b4 : Bool) => if b4 then (f_X11_ofRow σ1 x0 (x1 - 1)).bind (fun (v5 : Int32) => some (Sum.inr (v5, σ1))) else some (Sum.inl ()))) else some (Sum.inl ()) : Option (Unit ⊕ (Int32 × Mem))).bind (Sum.elim (fun (z2 : Unit) => j_X11_exponent_39 σ1) some)))
theorem t_X11_exponent {w : Wd} (hw : WOK w) (hN : wn w = NT) {σ : Mem} {x0 : Int32} {x1 : Int32} : JO w mu_X11_exponent vI σ [(0, .ref (adr w 306)), (1, .int x0), (2, .int x1)] [] 0 (f_X11_exponent σ x0 x1) some := by
  unfold f_X11_exponent
  refine jo_aload_n (pc := 0) 0 rfl dX11_exponent_0 rfl ?_
  refine jo_iconst (pc := 1) dX11_exponent_1 (ic_i_0) ?_
  refine jo_putf (pc := 2) ok_11_0 okp_11_0 (ik_306 hw hN) gw_1296 dX11_exponent_2 (fun σ1 => ?_)
  refine jo_aload_n (pc := 5) 0 rfl dX11_exponent_5 rfl ?_
  refine jo_iload_n (pc := 6) 1 rfl dX11_exponent_6 rfl ?_
  refine jo_cV_Z_p (pc := 7) (μ' := mu_X11_isRegister) (fx := f_X11_isRegister σ1 x0) (As := [.int x0]) (c_X11_isRegister hw hN) (ok_X11_isRegister) (ltb rfl) (all3 gw_1473 gw_1475 gw_73) (ik_306 hw hN) (by decide) (q := (RX11, TX11, 39)) rfl rfl rfl rfl (Nat.le_of_ble_eq_true rfl) dX11_exponent_7 (fun b2 => ?_)
  refine jo_joinS (S := Unit) (fun (z2 : Unit) => σ1) (fun (z2 : Unit) => []) (fun (z2 : Unit) => []) 39 ?_ (fun h39_2 => ?_)
  · intro _
    show JO w mu_X11_exponent vI σ1 [] [] 39 (j_X11_exponent_39 σ1) _
    unfold j_X11_exponent_39
    refine jo_sipush (pc := 39) dX11_exponent_39 (ic_s_m10000) ?_
    exact jo_ireturn (pc := 42) rfl rfl dX11_exponent_42
  · refine jo_ifz_eq (pc := 10) dX11_exponent_10 (tgt := 39) rfl ?_ ?_
    · refine jo_lv (lv' := []) [] rfl ?_
      exact jo_leaf (by rfl) (h39_2 ())
    · refine jo_aload_n (pc := 13) 0 rfl dX11_exponent_13 rfl ?_
      refine jo_iload_n (pc := 14) 2 rfl dX11_exponent_14 rfl ?_
      refine jo_i2l (pc := 15) dX11_exponent_15 ?_
      refine jo_lconst (pc := 16) dX11_exponent_16 (ic_l_1) ?_
      refine jo_aload_n (pc := 17) 0 rfl dX11_exponent_17 rfl ?_
      refine jo_cV_I_p (pc := 18) (μ' := mu_X11_n) (fx := f_X11_n σ1) (As := []) (c_X11_n hw hN) (ok_X11_n) (ltb rfl) (all3 gw_1444 gw_1446 gw_68) (ik_306 hw hN) (by decide) (q := (RX11, TX11, 39)) rfl rfl rfl rfl (Nat.le_of_ble_eq_true rfl) dX11_exponent_18 (fun v3 => ?_)
      refine jo_i2l (pc := 21) dX11_exponent_21 ?_
      refine jo_cV_Z_p (pc := 22) (μ' := mu_X11_isIn) (fx := f_X11_isIn σ1 (Int32.toInt64 x1) 1 (Int32.toInt64 v3)) (As := [.long (Int32.toInt64 x1), .long 1, .long (Int32.toInt64 v3)]) (c_X11_isIn hw hN) (ok_X11_isIn) (ltb rfl) (all3 gw_1423 gw_1425 gw_64) (ik_306 hw hN) (by decide) (q := (RX11, TX11, 39)) rfl rfl rfl rfl (Nat.le_of_ble_eq_true rfl) dX11_exponent_22 (fun b4 => ?_)
      refine jo_ifz_eq (pc := 25) dX11_exponent_25 (tgt := 39) rfl ?_ ?_
      · refine jo_lv (lv' := []) [] rfl ?_
        exact jo_leaf (by rfl) (h39_2 ())
      · refine jo_aload_n (pc := 28) 0 rfl dX11_exponent_28 rfl ?_
        refine jo_iload_n (pc := 29) 1 rfl dX11_exponent_29 rfl ?_
        refine jo_iload_n (pc := 30) 2 rfl dX11_exponent_30 rfl ?_
        refine jo_iconst (pc := 31) dX11_exponent_31 (ic_i_1) ?_
        refine jo_isub (pc := 32) dX11_exponent_32 ?_
        refine jo_cV_I_p (pc := 33) (μ' := mu_X11_ofRow) (fx := f_X11_ofRow σ1 x0 (x1 - 1)) (As := [.int x0, .int (x1 - 1)]) (c_X11_ofRow hw hN) (ok_X11_ofRow) (ltb rfl) (all3 gw_1566 gw_1568 gw_95) (ik_306 hw hN) (by decide) (q := (RX11, TX11, 39)) rfl rfl rfl rfl (Nat.le_of_ble_eq_true rfl) dX11_exponent_33 (fun v5 => ?_)
        refine jo_goto (pc := 36) dX11_exponent_36 (tgt := 42) rfl ?_
        exact jo_ireturn (pc := 42) rfl rfl dX11_exponent_42
theorem c_X11_exponent {w : Wd} (hw : WOK w) (hN : wn w = NT) {σ : Mem} {x0 : Int32} {x1 : Int32} : ∀ r σ', f_X11_exponent σ x0 x1 = some (r, σ') → MC w mu_X11_exponent (vI r) [.ref (adr w 306), .int x0, .int x1] σ σ' := mc_of ok_X11_exponent rfl (Nat.le_of_ble_eq_true rfl) (t_X11_exponent hw hN)
abbrev mu_X11_areCommuting : MD := (yX11_areCommuting, cX11_areCommuting, 4, some .boolean, 6)
theorem ok_X11_areCommuting : MOK mu_X11_areCommuting 3 := ⟨gw_1752, gw_171, by decide +kernel, ⟨by decide +kernel, by decide +kernel, by decide +kernel⟩, Nat.le_of_ble_eq_true rfl⟩
noncomputable def f_X11_areCommuting (σ : Mem) (x0 : Int32) (x1 : Int32) (x2 : Int32) : Option (Bool × Mem) :=
  (f_X11_commutator σ x0 x1 x2).bind (fun (σ1 : Mem) => (f_X11_isOne σ1 x2).bind (fun (b2 : Bool) => some (b2, σ1)))
theorem t_X11_areCommuting {w : Wd} (hw : WOK w) (hN : wn w = NT) {σ : Mem} {x0 : Int32} {x1 : Int32} {x2 : Int32} : JO w mu_X11_areCommuting vB σ [(0, .ref (adr w 306)), (1, .int x0), (2, .int x1), (3, .int x2)] [] 0 (f_X11_areCommuting σ x0 x1 x2) some := by
  unfold f_X11_areCommuting
  refine jo_aload_n (pc := 0) 0 rfl dX11_areCommuting_0 rfl ?_
  refine jo_iload_n (pc := 1) 1 rfl dX11_areCommuting_1 rfl ?_
  refine jo_iload_n (pc := 2) 2 rfl dX11_areCommuting_2 rfl ?_
  refine jo_iload_n (pc := 3) 3 rfl dX11_areCommuting_3 rfl ?_
  refine jo_cV_V_i (pc := 4) (μ' := mu_X11_commutator) (fx := f_X11_commutator σ x0 x1 x2) (As := [.int x0, .int x1, .int x2]) (c_X11_commutator hw hN) (ok_X11_commutator) (ltb rfl) (all3 gw_1612 gw_1614 gw_102) (ik_306 hw hN) (by decide) (q := (RX11, TX11, 39)) rfl rfl rfl rfl (Nat.le_of_ble_eq_true rfl) dX11_areCommuting_4 (fun σ1 => ?_)
  refine jo_aload_n (pc := 7) 0 rfl dX11_areCommuting_7 rfl ?_
  refine jo_iload_n (pc := 8) 3 rfl dX11_areCommuting_8 rfl ?_
  refine jo_cV_Z_p (pc := 9) (μ' := mu_X11_isOne) (fx := f_X11_isOne σ1 x2) (As := [.int x2]) (c_X11_isOne hw hN) (ok_X11_isOne) (ltb rfl) (all3 gw_1753 gw_1755 gw_125) (ik_306 hw hN) (by decide) (q := (RX11, TX11, 39)) rfl rfl rfl rfl (Nat.le_of_ble_eq_true rfl) dX11_areCommuting_9 (fun b2 => ?_)
  exact jo_breturn (pc := 12) (b := b2) rfl rfl dX11_areCommuting_12
theorem c_X11_areCommuting {w : Wd} (hw : WOK w) (hN : wn w = NT) {σ : Mem} {x0 : Int32} {x1 : Int32} {x2 : Int32} : ∀ r σ', f_X11_areCommuting σ x0 x1 x2 = some (r, σ') → MC w mu_X11_areCommuting (vB r) [.ref (adr w 306), .int x0, .int x1, .int x2] σ σ' := mc_of ok_X11_areCommuting rfl (Nat.le_of_ble_eq_true rfl) (t_X11_areCommuting hw hN)
abbrev mu_X11_isCentral : MD := (yX11_isCentral, cX11_isCentral, 4, some .boolean, 7)
theorem ok_X11_isCentral : MOK mu_X11_isCentral 2 := ⟨gw_1748, gw_171, by decide +kernel, ⟨by decide +kernel, by decide +kernel, by decide +kernel⟩, Nat.le_of_ble_eq_true rfl⟩
noncomputable def l_X11_isCentral_2 (x0 : Int32) (x1 : Int32) (σ1 : Mem) (i2 : Int32) : Option ((Mem × Int32) ⊕ (Bool × Mem)) :=
  (f_X11_n σ1).bind (fun (v3 : Int32) => if v3 ≤ i2 then (some (Sum.inr (true, σ1))) else ((f_X11_ones σ1 x1).bind (fun (σ4 : Mem) => (f_X11_puts σ4 x1 i2 1).bind (fun (σ5 : Mem) => bq (f_X11_areCommuting σ5 x0 x1 (x1 + 1)) (fun (b6 : Bool) (σ7 : Mem) => if b6 then some (Sum.inl (σ7, i2 + 1)) else some (Sum.inr (false, σ7)))))))
noncomputable def f_X11_isCentral (σ : Mem) (x0 : Int32) (x1 : Int32) : Option (Bool × Mem) :=
  loopO (fun (z2 : (Mem × Int32)) => l_X11_isCentral_2 x0 x1 z2.1 z2.2) (σ, 0)
theorem t_X11_isCentral {w : Wd} (hw : WOK w) (hN : wn w = NT) {σ : Mem} {x0 : Int32} {x1 : Int32} : JO w mu_X11_isCentral vB σ [(0, .ref (adr w 306)), (1, .int x0), (2, .int x1)] [] 0 (f_X11_isCentral σ x0 x1) some := by
  unfold f_X11_isCentral
  refine jo_iconst (pc := 0) dX11_isCentral_0 (ic_i_0) ?_
  refine jo_istore_n (pc := 1) (lv' := [(3, .int 0), (0, .ref (adr w 306)), (1, .int x0), (2, .int x1)]) dX11_isCentral_1 rfl (ltb rfl) rfl ?_
  refine jo_lv (lv' := [(0, .ref (adr w 306)), (1, .int x0), (2, .int x1), (3, .int 0)]) [1, 2, 3, 0] rfl ?_
  refine jo_loop (X := (Bool × Mem)) (fun (z2 : (Mem × Int32)) => z2.1) (fun (z2 : (Mem × Int32)) => [(0, .ref (adr w 306)), (1, .int x0), (2, .int x1), (3, .int z2.2)]) (body := (fun (z2 : (Mem × Int32)) => l_X11_isCentral_2 x0 x1 z2.1 z2.2)) (fun F2_2 hF2_2 s => ?_) (σ, 0)
  obtain ⟨σ1, i2⟩ := s
  show JO w mu_X11_isCentral vB σ1 [(0, .ref (adr w 306)), (1, .int x0), (2, .int x1), (3, .int i2)] [] 2 (l_X11_isCentral_2 x0 x1 σ1 i2) _
  unfold l_X11_isCentral_2
  refine jo_iload_n (pc := 2) 3 rfl dX11_isCentral_2 rfl ?_
  refine jo_aload_n (pc := 3) 0 rfl dX11_isCentral_3 rfl ?_
  refine jo_cV_I_p (pc := 4) (μ' := mu_X11_n) (fx := f_X11_n σ1) (As := []) (c_X11_n hw hN) (ok_X11_n) (ltb rfl) (all3 gw_1444 gw_1446 gw_68) (ik_306 hw hN) (by decide) (q := (RX11, TX11, 39)) rfl rfl rfl rfl (Nat.le_of_ble_eq_true rfl) dX11_isCentral_4 (fun v3 => ?_)
  refine jo_icmp_ge (pc := 7) dX11_isCentral_7 (tgt := 42) rfl ?_ ?_
  · refine jo_iconst (pc := 42) dX11_isCentral_42 (ic_i_1) ?_
    exact jo_breturn (pc := 43) (b := true) rfl rfl dX11_isCentral_43
  · refine jo_aload_n (pc := 10) 0 rfl dX11_isCentral_10 rfl ?_
    refine jo_iload_n (pc := 11) 2 rfl dX11_isCentral_11 rfl ?_
    refine jo_cV_V_i (pc := 12) (μ' := mu_X11_ones) (fx := f_X11_ones σ1 x1) (As := [.int x1]) (c_X11_ones hw hN) (ok_X11_ones) (ltb rfl) (all3 gw_1590 gw_1592 gw_99) (ik_306 hw hN) (by decide) (q := (RX11, TX11, 39)) rfl rfl rfl rfl (Nat.le_of_ble_eq_true rfl) dX11_isCentral_12 (fun σ4 => ?_)
    refine jo_aload_n (pc := 15) 0 rfl dX11_isCentral_15 rfl ?_
    refine jo_iload_n (pc := 16) 2 rfl dX11_isCentral_16 rfl ?_
    refine jo_iload_n (pc := 17) 3 rfl dX11_isCentral_17 rfl ?_
    refine jo_lconst (pc := 18) dX11_isCentral_18 (ic_l_1) ?_
    refine jo_cV_V_i (pc := 19) (μ' := mu_X11_puts) (fx := f_X11_puts σ4 x1 i2 1) (As := [.int x1, .int i2, .long 1]) (c_X11_puts hw hN) (ok_X11_puts) (ltb rfl) (all3 gw_1522 gw_1524 gw_85) (ik_306 hw hN) (by decide) (q := (RX11, TX11, 39)) rfl rfl rfl rfl (Nat.le_of_ble_eq_true rfl) dX11_isCentral_19 (fun σ5 => ?_)
    refine jo_aload_n (pc := 22) 0 rfl dX11_isCentral_22 rfl ?_
    refine jo_iload_n (pc := 23) 1 rfl dX11_isCentral_23 rfl ?_
    refine jo_iload_n (pc := 24) 2 rfl dX11_isCentral_24 rfl ?_
    refine jo_iload_n (pc := 25) 2 rfl dX11_isCentral_25 rfl ?_
    refine jo_iconst (pc := 26) dX11_isCentral_26 (ic_i_1) ?_
    refine jo_iadd (pc := 27) dX11_isCentral_27 ?_
    refine jo_cV_Z_i (pc := 28) (μ' := mu_X11_areCommuting) (fx := f_X11_areCommuting σ5 x0 x1 (x1 + 1)) (As := [.int x0, .int x1, .int (x1 + 1)]) (c_X11_areCommuting hw hN) (ok_X11_areCommuting) (ltb rfl) (all3 gw_1749 gw_1751 gw_124) (ik_306 hw hN) (by decide) (q := (RX11, TX11, 39)) rfl rfl rfl rfl (Nat.le_of_ble_eq_true rfl) dX11_isCentral_28 (fun b6 σ7 => ?_)
    refine jo_ifz_ne (pc := 31) dX11_isCentral_31 (tgt := 36) rfl ?_ ?_
    · refine jo_iinc (pc := 36) (lv' := [(3, .int (i2 + 1)), (0, .ref (adr w 306)), (1, .int x0), (2, .int x1)]) 3 rfl dX11_isCentral_36 (congrArg (fun z => i2 + z) (ic_i_1)) (ltb rfl) rfl ?_
      refine jo_goto (pc := 39) dX11_isCentral_39 (tgt := 2) rfl ?_
      refine jo_lv (lv' := [(0, .ref (adr w 306)), (1, .int x0), (2, .int x1), (3, .int (i2 + 1))]) [1, 2, 3, 0] rfl ?_
      exact jo_leaf (by rfl) (hF2_2 (σ7, i2 + 1))
    · refine jo_iconst (pc := 34) dX11_isCentral_34 (ic_i_0) ?_
      exact jo_breturn (pc := 35) (b := false) rfl rfl dX11_isCentral_35
theorem c_X11_isCentral {w : Wd} (hw : WOK w) (hN : wn w = NT) {σ : Mem} {x0 : Int32} {x1 : Int32} : ∀ r σ', f_X11_isCentral σ x0 x1 = some (r, σ') → MC w mu_X11_isCentral (vB r) [.ref (adr w 306), .int x0, .int x1] σ σ' := mc_of ok_X11_isCentral rfl (Nat.le_of_ble_eq_true rfl) (t_X11_isCentral hw hN)
abbrev mu_X11_isCentralLetter : MD := (yX11_isCentralLetter, cX11_isCentralLetter, 2, some .boolean, 8)
theorem ok_X11_isCentralLetter : MOK mu_X11_isCentralLetter 1 := ⟨gw_1744, gw_171, by decide +kernel, ⟨by decide +kernel, by decide +kernel, by decide +kernel⟩, Nat.le_of_ble_eq_true rfl⟩
noncomputable def f_X11_isCentralLetter (σ : Mem) (x0 : Int32) : Option (Bool × Mem) :=
  (f_X11_ones σ 0).bind (fun (σ1 : Mem) => (f_X11_puts σ1 0 x0 1).bind (fun (σ2 : Mem) => bq (f_X11_isCentral σ2 0 1) (fun (b3 : Bool) (σ4 : Mem) => some (b3, σ4))))
theorem t_X11_isCentralLetter {w : Wd} (hw : WOK w) (hN : wn w = NT) {σ : Mem} {x0 : Int32} : JO w mu_X11_isCentralLetter vB σ [(0, .ref (adr w 306)), (1, .int x0)] [] 0 (f_X11_isCentralLetter σ x0) some := by
  unfold f_X11_isCentralLetter
  refine jo_aload_n (pc := 0) 0 rfl dX11_isCentralLetter_0 rfl ?_
  refine jo_iconst (pc := 1) dX11_isCentralLetter_1 (ic_i_0) ?_
  refine jo_cV_V_i (pc := 2) (μ' := mu_X11_ones) (fx := f_X11_ones σ 0) (As := [.int 0]) (c_X11_ones hw hN) (ok_X11_ones) (ltb rfl) (all3 gw_1590 gw_1592 gw_99) (ik_306 hw hN) (by decide) (q := (RX11, TX11, 39)) rfl rfl rfl rfl (Nat.le_of_ble_eq_true rfl) dX11_isCentralLetter_2 (fun σ1 => ?_)
  refine jo_aload_n (pc := 5) 0 rfl dX11_isCentralLetter_5 rfl ?_
  refine jo_iconst (pc := 6) dX11_isCentralLetter_6 (ic_i_0) ?_
  refine jo_iload_n (pc := 7) 1 rfl dX11_isCentralLetter_7 rfl ?_
  refine jo_lconst (pc := 8) dX11_isCentralLetter_8 (ic_l_1) ?_
  refine jo_cV_V_i (pc := 9) (μ' := mu_X11_puts) (fx := f_X11_puts σ1 0 x0 1) (As := [.int 0, .int x0, .long 1]) (c_X11_puts hw hN) (ok_X11_puts) (ltb rfl) (all3 gw_1522 gw_1524 gw_85) (ik_306 hw hN) (by decide) (q := (RX11, TX11, 39)) rfl rfl rfl rfl (Nat.le_of_ble_eq_true rfl) dX11_isCentralLetter_9 (fun σ2 => ?_)
  refine jo_aload_n (pc := 12) 0 rfl dX11_isCentralLetter_12 rfl ?_
  refine jo_iconst (pc := 13) dX11_isCentralLetter_13 (ic_i_0) ?_
  refine jo_iconst (pc := 14) dX11_isCentralLetter_14 (ic_i_1) ?_
  refine jo_cV_Z_i (pc := 15) (μ' := mu_X11_isCentral) (fx := f_X11_isCentral σ2 0 1) (As := [.int 0, .int 1]) (c_X11_isCentral hw hN) (ok_X11_isCentral) (ltb rfl) (all3 gw_1745 gw_1747 gw_123) (ik_306 hw hN) (by decide) (q := (RX11, TX11, 39)) rfl rfl rfl rfl (Nat.le_of_ble_eq_true rfl) dX11_isCentralLetter_15 (fun b3 σ4 => ?_)
  exact jo_breturn (pc := 18) (b := b3) rfl rfl dX11_isCentralLetter_18
theorem c_X11_isCentralLetter {w : Wd} (hw : WOK w) (hN : wn w = NT) {σ : Mem} {x0 : Int32} : ∀ r σ', f_X11_isCentralLetter σ x0 = some (r, σ') → MC w mu_X11_isCentralLetter (vB r) [.ref (adr w 306), .int x0] σ σ' := mc_of ok_X11_isCentralLetter rfl (Nat.le_of_ble_eq_true rfl) (t_X11_isCentralLetter hw hN)
abbrev mu_X11_generator : MD := (yX11_generator, cX11_generator, 3, some .int, 37)
theorem ok_X11_generator : MOK mu_X11_generator 2 := ⟨gw_1740, gw_171, by decide +kernel, ⟨by decide +kernel, by decide +kernel, by decide +kernel⟩, Nat.le_of_ble_eq_true rfl⟩
noncomputable def j_X11_generator_64 (σ4 : Mem) : Option (Int32 × Mem) :=
  some ((-1), σ4)
noncomputable def f_X11_generator (σ : Mem) (x0 : Int32) (x1 : Int32) : Option (Int32 × Mem) :=
  pF σ 306 0 0 (fun (σ1 : Mem) => (f_X11_n σ1).bind (fun (v2 : Int32) => (f_X11_isIn σ1 (Int32.toInt64 x0) 1 (Int32.toInt64 v2)).bind (fun (b3 : Bool) => if b3 then if x1 = 0 then ((f_X11_weight σ1 (x0 - 1)).bind (fun (v9 : Int32) => some (v9, σ1))) else ((if x1 = 1 then (bq (f_X11_isConsistent σ1) (fun (b5 : Bool) (σ6 : Mem) => if b5 then bq (f_X11_isCentralLetter σ6 (x0 - 1)) (fun (b7 : Bool) (σ8 : Mem) => if b7 then some (Sum.inr (1, σ8)) else some (Sum.inr (0, σ8))) else some (Sum.inl σ6))) else (some (Sum.inl σ1)) : Option (Mem ⊕ (Int32 × Mem))).bind (Sum.elim (fun (z4 : Mem) => j_X11_generator_64 z4) some)) else some ((-1), σ1))))
theorem t_X11_generator {w : Wd} (hw : WOK w) (hN : wn w = NT) {σ : Mem} {x0 : Int32} {x1 : Int32} : JO w mu_X11_generator vI σ [(0, .ref (adr w 306)), (1, .int x0), (2, .int x1)] [] 0 (f_X11_generator σ x0 x1) some := by
  unfold f_X11_generator
  refine jo_aload_n (pc := 0) 0 rfl dX11_generator_0 rfl ?_
  refine jo_iconst (pc := 1) dX11_generator_1 (ic_i_0) ?_
  refine jo_putf (pc := 2) ok_11_0 okp_11_0 (ik_306 hw hN) gw_1296 dX11_generator_2 (fun σ1 => ?_)
  refine jo_aload_n (pc := 5) 0 rfl dX11_generator_5 rfl ?_
  refine jo_iload_n (pc := 6) 1 rfl dX11_generator_6 rfl ?_
  refine jo_i2l (pc := 7) dX11_generator_7 ?_
  refine jo_lconst (pc := 8) dX11_generator_8 (ic_l_1) ?_
  refine jo_aload_n (pc := 9) 0 rfl dX11_generator_9 rfl ?_
  refine jo_cV_I_p (pc := 10) (μ' := mu_X11_n) (fx := f_X11_n σ1) (As := []) (c_X11_n hw hN) (ok_X11_n) (ltb rfl) (all3 gw_1444 gw_1446 gw_68) (ik_306 hw hN) (by decide) (q := (RX11, TX11, 39)) rfl rfl rfl rfl (Nat.le_of_ble_eq_true rfl) dX11_generator_10 (fun v2 => ?_)
  refine jo_i2l (pc := 13) dX11_generator_13 ?_
  refine jo_cV_Z_p (pc := 14) (μ' := mu_X11_isIn) (fx := f_X11_isIn σ1 (Int32.toInt64 x0) 1 (Int32.toInt64 v2)) (As := [.long (Int32.toInt64 x0), .long 1, .long (Int32.toInt64 v2)]) (c_X11_isIn hw hN) (ok_X11_isIn) (ltb rfl) (all3 gw_1423 gw_1425 gw_64) (ik_306 hw hN) (by decide) (q := (RX11, TX11, 39)) rfl rfl rfl rfl (Nat.le_of_ble_eq_true rfl) dX11_generator_14 (fun b3 => ?_)
  refine jo_ifz_ne (pc := 17) dX11_generator_17 (tgt := 22) rfl ?_ ?_
  · refine jo_iload_n (pc := 22) 2 rfl dX11_generator_22 rfl ?_
    refine jo_if_ne (pc := 23) dX11_generator_23 (tgt := 34) rfl ?_ ?_
    · refine jo_iload_n (pc := 34) 2 rfl dX11_generator_34 rfl ?_
      refine jo_iconst (pc := 35) dX11_generator_35 (ic_i_1) ?_
      refine jo_joinS (S := Mem) (fun (z4 : Mem) => z4) (fun (z4 : Mem) => []) (fun (z4 : Mem) => []) 64 ?_ (fun h64_4 => ?_)
      · intro σ4
        show JO w mu_X11_generator vI σ4 [] [] 64 (j_X11_generator_64 σ4) _
        unfold j_X11_generator_64
        refine jo_iconst (pc := 64) dX11_generator_64 (ic_i_m1) ?_
        exact jo_ireturn (pc := 65) rfl rfl dX11_generator_65
      · refine jo_icmp_ne (pc := 36) dX11_generator_36 (tgt := 64) rfl ?_ ?_
        · refine jo_lv (lv' := []) [] rfl ?_
          exact jo_leaf (by rfl) (h64_4 σ1)
        · refine jo_aload_n (pc := 39) 0 rfl dX11_generator_39 rfl ?_
          refine jo_cV_Z_i (pc := 40) (μ' := mu_X11_isConsistent) (fx := f_X11_isConsistent σ1) (As := []) (c_X11_isConsistent hw hN) (ok_X11_isConsistent) (ltb rfl) (all3 gw_1478 gw_1480 gw_74) (ik_306 hw hN) (by decide) (q := (RX11, TX11, 39)) rfl rfl rfl rfl (Nat.le_of_ble_eq_true rfl) dX11_generator_40 (fun b5 σ6 => ?_)
          refine jo_ifz_eq (pc := 43) dX11_generator_43 (tgt := 64) rfl ?_ ?_
          · refine jo_lv (lv' := []) [] rfl ?_
            exact jo_leaf (by rfl) (h64_4 σ6)
          · refine jo_aload_n (pc := 46) 0 rfl dX11_generator_46 rfl ?_
            refine jo_iload_n (pc := 47) 1 rfl dX11_generator_47 rfl ?_
            refine jo_iconst (pc := 48) dX11_generator_48 (ic_i_1) ?_
            refine jo_isub (pc := 49) dX11_generator_49 ?_
            refine jo_cV_Z_i (pc := 50) (μ' := mu_X11_isCentralLetter) (fx := f_X11_isCentralLetter σ6 (x0 - 1)) (As := [.int (x0 - 1)]) (c_X11_isCentralLetter hw hN) (ok_X11_isCentralLetter) (ltb rfl) (all3 gw_1741 gw_1743 gw_122) (ik_306 hw hN) (by decide) (q := (RX11, TX11, 39)) rfl rfl rfl rfl (Nat.le_of_ble_eq_true rfl) dX11_generator_50 (fun b7 σ8 => ?_)
            refine jo_ifz_eq (pc := 53) dX11_generator_53 (tgt := 60) rfl ?_ ?_
            · refine jo_iconst (pc := 60) dX11_generator_60 (ic_i_0) ?_
              refine jo_goto (pc := 61) dX11_generator_61 (tgt := 65) rfl ?_
              exact jo_ireturn (pc := 65) rfl rfl dX11_generator_65
            · refine jo_iconst (pc := 56) dX11_generator_56 (ic_i_1) ?_
              refine jo_goto (pc := 57) dX11_generator_57 (tgt := 65) rfl ?_
              exact jo_ireturn (pc := 65) rfl rfl dX11_generator_65
    · refine jo_aload_n (pc := 26) 0 rfl dX11_generator_26 rfl ?_
      refine jo_iload_n (pc := 27) 1 rfl dX11_generator_27 rfl ?_
      refine jo_iconst (pc := 28) dX11_generator_28 (ic_i_1) ?_
      refine jo_isub (pc := 29) dX11_generator_29 ?_
      refine jo_cV_I_p (pc := 30) (μ' := mu_X11_weight) (fx := f_X11_weight σ1 (x0 - 1)) (As := [.int (x0 - 1)]) (c_X11_weight hw hN) (ok_X11_weight) (ltb rfl) (all3 gw_1449 gw_1451 gw_69) (ik_306 hw hN) (by decide) (q := (RX11, TX11, 39)) rfl rfl rfl rfl (Nat.le_of_ble_eq_true rfl) dX11_generator_30 (fun v9 => ?_)
      exact jo_ireturn (pc := 33) rfl rfl dX11_generator_33
  · refine jo_iconst (pc := 20) dX11_generator_20 (ic_i_m1) ?_
    exact jo_ireturn (pc := 21) rfl rfl dX11_generator_21
theorem c_X11_generator {w : Wd} (hw : WOK w) (hN : wn w = NT) {σ : Mem} {x0 : Int32} {x1 : Int32} : ∀ r σ', f_X11_generator σ x0 x1 = some (r, σ') → MC w mu_X11_generator (vI r) [.ref (adr w 306), .int x0, .int x1] σ σ' := mc_of ok_X11_generator rfl (Nat.le_of_ble_eq_true rfl) (t_X11_generator hw hN)
abbrev mu_X11_tailOf : MD := (yX11_tailOf, cX11_tailOf, 4, some .int, 2)
theorem ok_X11_tailOf : MOK mu_X11_tailOf 3 := ⟨gw_1760, gw_171, by decide +kernel, ⟨by decide +kernel, by decide +kernel, by decide +kernel⟩, Nat.le_of_ble_eq_true rfl⟩
noncomputable def f_X11_tailOf (σ : Mem) (x0 : Int32) (x1 : Int32) (x2 : Int32) : Option (Int32 × Mem) :=
  pF σ 306 0 0 (fun (σ1 : Mem) => (f_X11_isTail σ1 x0 x1 x2).bind (fun (b2 : Bool) => if b2 then (f_X11_tail σ1 (x0 - 1) (x1 - 1) (x2 - 1)).bind (fun (v3 : Int32) => some (v3, σ1)) else some ((-1), σ1)))
theorem t_X11_tailOf {w : Wd} (hw : WOK w) (hN : wn w = NT) {σ : Mem} {x0 : Int32} {x1 : Int32} {x2 : Int32} : JO w mu_X11_tailOf vI σ [(0, .ref (adr w 306)), (1, .int x0), (2, .int x1), (3, .int x2)] [] 0 (f_X11_tailOf σ x0 x1 x2) some := by
  unfold f_X11_tailOf
  refine jo_aload_n (pc := 0) 0 rfl dX11_tailOf_0 rfl ?_
  refine jo_iconst (pc := 1) dX11_tailOf_1 (ic_i_0) ?_
  refine jo_putf (pc := 2) ok_11_0 okp_11_0 (ik_306 hw hN) gw_1296 dX11_tailOf_2 (fun σ1 => ?_)
  refine jo_aload_n (pc := 5) 0 rfl dX11_tailOf_5 rfl ?_
  refine jo_iload_n (pc := 6) 1 rfl dX11_tailOf_6 rfl ?_
  refine jo_iload_n (pc := 7) 2 rfl dX11_tailOf_7 rfl ?_
  refine jo_iload_n (pc := 8) 3 rfl dX11_tailOf_8 rfl ?_
  refine jo_cV_Z_p (pc := 9) (μ' := mu_X11_isTail) (fx := f_X11_isTail σ1 x0 x1 x2) (As := [.int x0, .int x1, .int x2]) (c_X11_isTail hw hN) (ok_X11_isTail) (ltb rfl) (all3 gw_1440 gw_1442 gw_67) (ik_306 hw hN) (by decide) (q := (RX11, TX11, 39)) rfl rfl rfl rfl (Nat.le_of_ble_eq_true rfl) dX11_tailOf_9 (fun b2 => ?_)
  refine jo_ifz_eq (pc := 12) dX11_tailOf_12 (tgt := 31) rfl ?_ ?_
  · refine jo_iconst (pc := 31) dX11_tailOf_31 (ic_i_m1) ?_
    exact jo_ireturn (pc := 32) rfl rfl dX11_tailOf_32
  · refine jo_aload_n (pc := 15) 0 rfl dX11_tailOf_15 rfl ?_
    refine jo_iload_n (pc := 16) 1 rfl dX11_tailOf_16 rfl ?_
    refine jo_iconst (pc := 17) dX11_tailOf_17 (ic_i_1) ?_
    refine jo_isub (pc := 18) dX11_tailOf_18 ?_
    refine jo_iload_n (pc := 19) 2 rfl dX11_tailOf_19 rfl ?_
    refine jo_iconst (pc := 20) dX11_tailOf_20 (ic_i_1) ?_
    refine jo_isub (pc := 21) dX11_tailOf_21 ?_
    refine jo_iload_n (pc := 22) 3 rfl dX11_tailOf_22 rfl ?_
    refine jo_iconst (pc := 23) dX11_tailOf_23 (ic_i_1) ?_
    refine jo_isub (pc := 24) dX11_tailOf_24 ?_
    refine jo_cV_I_p (pc := 25) (μ' := mu_X11_tail) (fx := f_X11_tail σ1 (x0 - 1) (x1 - 1) (x2 - 1)) (As := [.int (x0 - 1), .int (x1 - 1), .int (x2 - 1)]) (c_X11_tail hw hN) (ok_X11_tail) (ltb rfl) (all3 gw_1498 gw_1500 gw_79) (ik_306 hw hN) (by decide) (q := (RX11, TX11, 39)) rfl rfl rfl rfl (Nat.le_of_ble_eq_true rfl) dX11_tailOf_25 (fun v3 => ?_)
    refine jo_goto (pc := 28) dX11_tailOf_28 (tgt := 32) rfl ?_
    exact jo_ireturn (pc := 32) rfl rfl dX11_tailOf_32
theorem c_X11_tailOf {w : Wd} (hw : WOK w) (hN : wn w = NT) {σ : Mem} {x0 : Int32} {x1 : Int32} {x2 : Int32} : ∀ r σ', f_X11_tailOf σ x0 x1 x2 = some (r, σ') → MC w mu_X11_tailOf (vI r) [.ref (adr w 306), .int x0, .int x1, .int x2] σ σ' := mc_of ok_X11_tailOf rfl (Nat.le_of_ble_eq_true rfl) (t_X11_tailOf hw hN)
abbrev mu_X11_isPolynomial : MD := (yX11_isPolynomial, cX11_isPolynomial, 2, some .boolean, 37)
theorem ok_X11_isPolynomial : MOK mu_X11_isPolynomial 1 := ⟨gw_1768, gw_171, by decide +kernel, ⟨by decide +kernel, by decide +kernel, by decide +kernel⟩, Nat.le_of_ble_eq_true rfl⟩
noncomputable def j_X11_isPolynomial_26 (σ3 : Mem) : Option (Bool × Mem) :=
  some (false, σ3)
noncomputable def f_X11_isPolynomial (σ : Mem) (x0 : Int32) : Option (Bool × Mem) :=
  (f_X11_n σ).bind (fun (v1 : Int32) => (f_X11_isIn σ (Int32.toInt64 x0) 1 (Int32.toInt64 v1)).bind (fun (b2 : Bool) => (if b2 then bq (f_X11_isConsistent σ) (fun (b4 : Bool) (σ5 : Mem) => if b4 then some (Sum.inr (true, σ5)) else some (Sum.inl σ5)) else some (Sum.inl σ) : Option (Mem ⊕ (Bool × Mem))).bind (Sum.elim (fun (z3 : Mem) => j_X11_isPolynomial_26 z3) some)))
theorem t_X11_isPolynomial {w : Wd} (hw : WOK w) (hN : wn w = NT) {σ : Mem} {x0 : Int32} : JO w mu_X11_isPolynomial vB σ [(0, .ref (adr w 306)), (1, .int x0)] [] 0 (f_X11_isPolynomial σ x0) some := by
  unfold f_X11_isPolynomial
  refine jo_aload_n (pc := 0) 0 rfl dX11_isPolynomial_0 rfl ?_
  refine jo_iload_n (pc := 1) 1 rfl dX11_isPolynomial_1 rfl ?_
  refine jo_i2l (pc := 2) dX11_isPolynomial_2 ?_
  refine jo_lconst (pc := 3) dX11_isPolynomial_3 (ic_l_1) ?_
  refine jo_aload_n (pc := 4) 0 rfl dX11_isPolynomial_4 rfl ?_
  refine jo_cV_I_p (pc := 5) (μ' := mu_X11_n) (fx := f_X11_n σ) (As := []) (c_X11_n hw hN) (ok_X11_n) (ltb rfl) (all3 gw_1444 gw_1446 gw_68) (ik_306 hw hN) (by decide) (q := (RX11, TX11, 39)) rfl rfl rfl rfl (Nat.le_of_ble_eq_true rfl) dX11_isPolynomial_5 (fun v1 => ?_)
  refine jo_i2l (pc := 8) dX11_isPolynomial_8 ?_
  refine jo_cV_Z_p (pc := 9) (μ' := mu_X11_isIn) (fx := f_X11_isIn σ (Int32.toInt64 x0) 1 (Int32.toInt64 v1)) (As := [.long (Int32.toInt64 x0), .long 1, .long (Int32.toInt64 v1)]) (c_X11_isIn hw hN) (ok_X11_isIn) (ltb rfl) (all3 gw_1423 gw_1425 gw_64) (ik_306 hw hN) (by decide) (q := (RX11, TX11, 39)) rfl rfl rfl rfl (Nat.le_of_ble_eq_true rfl) dX11_isPolynomial_9 (fun b2 => ?_)
  refine jo_joinS (S := Mem) (fun (z3 : Mem) => z3) (fun (z3 : Mem) => []) (fun (z3 : Mem) => []) 26 ?_ (fun h26_3 => ?_)
  · intro σ3
    show JO w mu_X11_isPolynomial vB σ3 [] [] 26 (j_X11_isPolynomial_26 σ3) _
    unfold j_X11_isPolynomial_26
    refine jo_iconst (pc := 26) dX11_isPolynomial_26 (ic_i_0) ?_
    exact jo_breturn (pc := 27) (b := false) rfl rfl dX11_isPolynomial_27
  · refine jo_ifz_eq (pc := 12) dX11_isPolynomial_12 (tgt := 26) rfl ?_ ?_
    · refine jo_lv (lv' := []) [] rfl ?_
      exact jo_leaf (by rfl) (h26_3 σ)
    · refine jo_aload_n (pc := 15) 0 rfl dX11_isPolynomial_15 rfl ?_
      refine jo_cV_Z_i (pc := 16) (μ' := mu_X11_isConsistent) (fx := f_X11_isConsistent σ) (As := []) (c_X11_isConsistent hw hN) (ok_X11_isConsistent) (ltb rfl) (all3 gw_1478 gw_1480 gw_74) (ik_306 hw hN) (by decide) (q := (RX11, TX11, 39)) rfl rfl rfl rfl (Nat.le_of_ble_eq_true rfl) dX11_isPolynomial_16 (fun b4 σ5 => ?_)
      refine jo_ifz_eq (pc := 19) dX11_isPolynomial_19 (tgt := 26) rfl ?_ ?_
      · refine jo_lv (lv' := []) [] rfl ?_
        exact jo_leaf (by rfl) (h26_3 σ5)
      · refine jo_iconst (pc := 22) dX11_isPolynomial_22 (ic_i_1) ?_
        refine jo_goto (pc := 23) dX11_isPolynomial_23 (tgt := 27) rfl ?_
        exact jo_breturn (pc := 27) (b := true) rfl rfl dX11_isPolynomial_27
theorem c_X11_isPolynomial {w : Wd} (hw : WOK w) (hN : wn w = NT) {σ : Mem} {x0 : Int32} : ∀ r σ', f_X11_isPolynomial σ x0 = some (r, σ') → MC w mu_X11_isPolynomial (vB r) [.ref (adr w 306), .int x0] σ σ' := mc_of ok_X11_isPolynomial rfl (Nat.le_of_ble_eq_true rfl) (t_X11_isPolynomial hw hN)
abbrev mu_X11_terms : MD := (yX11_terms, cX11_terms, 2, some .int, 38)
theorem ok_X11_terms : MOK mu_X11_terms 1 := ⟨gw_1764, gw_171, by decide +kernel, ⟨by decide +kernel, by decide +kernel, by decide +kernel⟩, Nat.le_of_ble_eq_true rfl⟩
noncomputable def f_X11_terms (σ : Mem) (x0 : Int32) : Option (Int32 × Mem) :=
  pF σ 306 0 0 (fun (σ1 : Mem) => bq (f_X11_isPolynomial σ1 x0) (fun (b2 : Bool) (σ3 : Mem) => if b2 then gI σ3 311 (x0 - 1) (fun (v4 : Int32) => some (v4, σ3)) else some ((-1), σ3)))
theorem t_X11_terms {w : Wd} (hw : WOK w) (hN : wn w = NT) {σ : Mem} {x0 : Int32} : JO w mu_X11_terms vI σ [(0, .ref (adr w 306)), (1, .int x0)] [] 0 (f_X11_terms σ x0) some := by
  unfold f_X11_terms
  refine jo_aload_n (pc := 0) 0 rfl dX11_terms_0 rfl ?_
  refine jo_iconst (pc := 1) dX11_terms_1 (ic_i_0) ?_
  refine jo_putf (pc := 2) ok_11_0 okp_11_0 (ik_306 hw hN) gw_1296 dX11_terms_2 (fun σ1 => ?_)
  refine jo_aload_n (pc := 5) 0 rfl dX11_terms_5 rfl ?_
  refine jo_iload_n (pc := 6) 1 rfl dX11_terms_6 rfl ?_
  refine jo_cV_Z_i (pc := 7) (μ' := mu_X11_isPolynomial) (fx := f_X11_isPolynomial σ1 x0) (As := [.int x0]) (c_X11_isPolynomial hw hN) (ok_X11_isPolynomial) (ltb rfl) (all3 gw_1765 gw_1767 gw_126) (ik_306 hw hN) (by decide) (q := (RX11, TX11, 39)) rfl rfl rfl rfl (Nat.le_of_ble_eq_true rfl) dX11_terms_7 (fun b2 σ3 => ?_)
  refine jo_ifz_eq (pc := 10) dX11_terms_10 (tgt := 24) rfl ?_ ?_
  · refine jo_iconst (pc := 24) dX11_terms_24 (ic_i_m1) ?_
    exact jo_ireturn (pc := 25) rfl rfl dX11_terms_25
  · refine jo_aload_n (pc := 13) 0 rfl dX11_terms_13 rfl ?_
    refine jo_getrE (pc := 14) ok_11_11 (ik_306 hw hN) rf_306_11 gw_1307 dX11_terms_14 ?_
    refine jo_iload_n (pc := 17) 1 rfl dX11_terms_17 rfl ?_
    refine jo_iconst (pc := 18) dX11_terms_18 (ic_i_1) ?_
    refine jo_isub (pc := 19) dX11_terms_19 ?_
    refine jo_iald (pc := 20) (ik_311 hw hN) dX11_terms_20 (fun v4 => ?_)
    refine jo_goto (pc := 21) dX11_terms_21 (tgt := 25) rfl ?_
    exact jo_ireturn (pc := 25) rfl rfl dX11_terms_25
theorem c_X11_terms {w : Wd} (hw : WOK w) (hN : wn w = NT) {σ : Mem} {x0 : Int32} : ∀ r σ', f_X11_terms σ x0 = some (r, σ') → MC w mu_X11_terms (vI r) [.ref (adr w 306), .int x0] σ σ' := mc_of ok_X11_terms rfl (Nat.le_of_ble_eq_true rfl) (t_X11_terms hw hN)
abbrev mu_X11_termAt : MD := (yX11_termAt, cX11_termAt, 3, some .int, 0)
theorem ok_X11_termAt : MOK mu_X11_termAt 2 := ⟨gw_1776, gw_171, by decide +kernel, ⟨by decide +kernel, by decide +kernel, by decide +kernel⟩, Nat.le_of_ble_eq_true rfl⟩
noncomputable def f_X11_termAt (σ : Mem) (x0 : Int32) (x1 : Int32) : Option Int32 :=
  some ((9100 * (x0 - 1)) + (13 * x1))
theorem t_X11_termAt {w : Wd} (hw : WOK w) (hN : wn w = NT) {σ : Mem} {x0 : Int32} {x1 : Int32} : JO w mu_X11_termAt vI σ [(0, .ref (adr w 306)), (1, .int x0), (2, .int x1)] [] 0 (f_X11_termAt σ x0 x1) (fun z => some (z, σ)) := by
  unfold f_X11_termAt
  refine jo_sipush (pc := 0) dX11_termAt_0 (ic_s_9100) ?_
  refine jo_iload_n (pc := 3) 1 rfl dX11_termAt_3 rfl ?_
  refine jo_iconst (pc := 4) dX11_termAt_4 (ic_i_1) ?_
  refine jo_isub (pc := 5) dX11_termAt_5 ?_
  refine jo_imul (pc := 6) dX11_termAt_6 ?_
  refine jo_bipush (pc := 7) dX11_termAt_7 (ic_b_13) ?_
  refine jo_iload_n (pc := 9) 2 rfl dX11_termAt_9 rfl ?_
  refine jo_imul (pc := 10) dX11_termAt_10 ?_
  refine jo_iadd (pc := 11) dX11_termAt_11 ?_
  exact jo_ireturn (pc := 12) rfl rfl dX11_termAt_12
theorem c_X11_termAt {w : Wd} (hw : WOK w) (hN : wn w = NT) {σ : Mem} {x0 : Int32} {x1 : Int32} : ∀ r, f_X11_termAt σ x0 x1 = some r → MC w mu_X11_termAt (vI r) [.ref (adr w 306), .int x0, .int x1] σ σ := mc_ofP ok_X11_termAt rfl (Nat.le_of_ble_eq_true rfl) (t_X11_termAt hw hN)
abbrev mu_X11_term : MD := (yX11_term, cX11_term, 4, some .int, 38)
theorem ok_X11_term : MOK mu_X11_term 3 := ⟨gw_1772, gw_171, by decide +kernel, ⟨by decide +kernel, by decide +kernel, by decide +kernel⟩, Nat.le_of_ble_eq_true rfl⟩
noncomputable def f_X11_term (σ : Mem) (x0 : Int32) (x1 : Int32) (x2 : Int32) : Option (Int32 × Mem) :=
  pF σ 306 0 0 (fun (σ1 : Mem) => bq (f_X11_isPolynomial σ1 x0) (fun (b2 : Bool) (σ3 : Mem) => if b2 then gI σ3 311 (x0 - 1) (fun (v4 : Int32) => (f_X11_isIn σ3 (Int32.toInt64 x1) 0 ((Int32.toInt64 v4) - 1)).bind (fun (b5 : Bool) => if b5 then (f_X11_n σ3).bind (fun (v6 : Int32) => (f_X11_isIn σ3 (Int32.toInt64 x2) 0 (2 * (Int32.toInt64 v6))).bind (fun (b7 : Bool) => if b7 then (f_X11_termAt σ3 x0 x1).bind (fun (v8 : Int32) => gL σ3 312 (v8 + x2) (fun (v9 : Int64) => some (Int64.toInt32 v9, σ3))) else some ((-10000), σ3))) else some ((-10000), σ3))) else some ((-10000), σ3)))
theorem t_X11_term {w : Wd} (hw : WOK w) (hN : wn w = NT) {σ : Mem} {x0 : Int32} {x1 : Int32} {x2 : Int32} : JO w mu_X11_term vI σ [(0, .ref (adr w 306)), (1, .int x0), (2, .int x1), (3, .int x2)] [] 0 (f_X11_term σ x0 x1 x2) some := by
  unfold f_X11_term
  refine jo_aload_n (pc := 0) 0 rfl dX11_term_0 rfl ?_
  refine jo_iconst (pc := 1) dX11_term_1 (ic_i_0) ?_
  refine jo_putf (pc := 2) ok_11_0 okp_11_0 (ik_306 hw hN) gw_1296 dX11_term_2 (fun σ1 => ?_)
  refine jo_aload_n (pc := 5) 0 rfl dX11_term_5 rfl ?_
  refine jo_iload_n (pc := 6) 1 rfl dX11_term_6 rfl ?_
  refine jo_cV_Z_i (pc := 7) (μ' := mu_X11_isPolynomial) (fx := f_X11_isPolynomial σ1 x0) (As := [.int x0]) (c_X11_isPolynomial hw hN) (ok_X11_isPolynomial) (ltb rfl) (all3 gw_1765 gw_1767 gw_126) (ik_306 hw hN) (by decide) (q := (RX11, TX11, 39)) rfl rfl rfl rfl (Nat.le_of_ble_eq_true rfl) dX11_term_7 (fun b2 σ3 => ?_)
  refine jo_ifz_eq (pc := 10) dX11_term_10 (tgt := 53) rfl ?_ ?_
  · refine jo_sipush (pc := 53) dX11_term_53 (ic_s_m10000) ?_
    exact jo_ireturn (pc := 56) rfl rfl dX11_term_56
  · refine jo_aload_n (pc := 13) 0 rfl dX11_term_13 rfl ?_
    refine jo_iload_n (pc := 14) 2 rfl dX11_term_14 rfl ?_
    refine jo_i2l (pc := 15) dX11_term_15 ?_
    refine jo_lconst (pc := 16) dX11_term_16 (ic_l_0) ?_
    refine jo_aload_n (pc := 17) 0 rfl dX11_term_17 rfl ?_
    refine jo_getrE (pc := 18) ok_11_11 (ik_306 hw hN) rf_306_11 gw_1307 dX11_term_18 ?_
    refine jo_iload_n (pc := 21) 1 rfl dX11_term_21 rfl ?_
    refine jo_iconst (pc := 22) dX11_term_22 (ic_i_1) ?_
    refine jo_isub (pc := 23) dX11_term_23 ?_
    refine jo_iald (pc := 24) (ik_311 hw hN) dX11_term_24 (fun v4 => ?_)
    refine jo_i2l (pc := 25) dX11_term_25 ?_
    refine jo_lconst (pc := 26) dX11_term_26 (ic_l_1) ?_
    refine jo_lsub (pc := 27) dX11_term_27 ?_
    refine jo_cV_Z_p (pc := 28) (μ' := mu_X11_isIn) (fx := f_X11_isIn σ3 (Int32.toInt64 x1) 0 ((Int32.toInt64 v4) - 1)) (As := [.long (Int32.toInt64 x1), .long 0, .long ((Int32.toInt64 v4) - 1)]) (c_X11_isIn hw hN) (ok_X11_isIn) (ltb rfl) (all3 gw_1423 gw_1425 gw_64) (ik_306 hw hN) (by decide) (q := (RX11, TX11, 39)) rfl rfl rfl rfl (Nat.le_of_ble_eq_true rfl) dX11_term_28 (fun b5 => ?_)
    refine jo_ifz_eq (pc := 31) dX11_term_31 (tgt := 53) rfl ?_ ?_
    · refine jo_sipush (pc := 53) dX11_term_53 (ic_s_m10000) ?_
      exact jo_ireturn (pc := 56) rfl rfl dX11_term_56
    · refine jo_aload_n (pc := 34) 0 rfl dX11_term_34 rfl ?_
      refine jo_iload_n (pc := 35) 3 rfl dX11_term_35 rfl ?_
      refine jo_i2l (pc := 36) dX11_term_36 ?_
      refine jo_lconst (pc := 37) dX11_term_37 (ic_l_0) ?_
      refine jo_ldc2 (pc := 38) dX11_term_38 gw_1550 ?_
      refine jo_aload_n (pc := 41) 0 rfl dX11_term_41 rfl ?_
      refine jo_cV_I_p (pc := 42) (μ' := mu_X11_n) (fx := f_X11_n σ3) (As := []) (c_X11_n hw hN) (ok_X11_n) (ltb rfl) (all3 gw_1444 gw_1446 gw_68) (ik_306 hw hN) (by decide) (q := (RX11, TX11, 39)) rfl rfl rfl rfl (Nat.le_of_ble_eq_true rfl) dX11_term_42 (fun v6 => ?_)
      refine jo_i2l (pc := 45) dX11_term_45 ?_
      refine jo_lmul (pc := 46) dX11_term_46 ?_
      refine jo_cV_Z_p (pc := 47) (μ' := mu_X11_isIn) (fx := f_X11_isIn σ3 (Int32.toInt64 x2) 0 (2 * (Int32.toInt64 v6))) (As := [.long (Int32.toInt64 x2), .long 0, .long (2 * (Int32.toInt64 v6))]) (c_X11_isIn hw hN) (ok_X11_isIn) (ltb rfl) (all3 gw_1423 gw_1425 gw_64) (ik_306 hw hN) (by decide) (q := (RX11, TX11, 39)) rfl rfl rfl rfl (Nat.le_of_ble_eq_true rfl) dX11_term_47 (fun b7 => ?_)
      refine jo_ifz_ne (pc := 50) dX11_term_50 (tgt := 57) rfl ?_ ?_
      · refine jo_aload_n (pc := 57) 0 rfl dX11_term_57 rfl ?_
        refine jo_getrE (pc := 58) ok_11_12 (ik_306 hw hN) rf_306_12 gw_1308 dX11_term_58 ?_
        refine jo_aload_n (pc := 61) 0 rfl dX11_term_61 rfl ?_
        refine jo_iload_n (pc := 62) 1 rfl dX11_term_62 rfl ?_
        refine jo_iload_n (pc := 63) 2 rfl dX11_term_63 rfl ?_
        refine jo_cV_I_p (pc := 64) (μ' := mu_X11_termAt) (fx := f_X11_termAt σ3 x0 x1) (As := [.int x0, .int x1]) (c_X11_termAt hw hN) (ok_X11_termAt) (ltb rfl) (all3 gw_1773 gw_1775 gw_127) (ik_306 hw hN) (by decide) (q := (RX11, TX11, 39)) rfl rfl rfl rfl (Nat.le_of_ble_eq_true rfl) dX11_term_64 (fun v8 => ?_)
        refine jo_iload_n (pc := 67) 3 rfl dX11_term_67 rfl ?_
        refine jo_iadd (pc := 68) dX11_term_68 ?_
        refine jo_lald (pc := 69) (ik_312 hw hN) dX11_term_69 (fun v9 => ?_)
        refine jo_l2i (pc := 70) dX11_term_70 ?_
        exact jo_ireturn (pc := 71) rfl rfl dX11_term_71
      · refine jo_sipush (pc := 53) dX11_term_53 (ic_s_m10000) ?_
        exact jo_ireturn (pc := 56) rfl rfl dX11_term_56
theorem c_X11_term {w : Wd} (hw : WOK w) (hN : wn w = NT) {σ : Mem} {x0 : Int32} {x1 : Int32} {x2 : Int32} : ∀ r σ', f_X11_term σ x0 x1 x2 = some (r, σ') → MC w mu_X11_term (vI r) [.ref (adr w 306), .int x0, .int x1, .int x2] σ σ' := mc_of ok_X11_term rfl (Nat.le_of_ble_eq_true rfl) (t_X11_term hw hN)
abbrev mu_X11_degreeOf : MD := (yX11_degreeOf, cX11_degreeOf, 5, some .int, 1)
theorem ok_X11_degreeOf : MOK mu_X11_degreeOf 2 := ⟨gw_1784, gw_171, by decide +kernel, ⟨by decide +kernel, by decide +kernel, by decide +kernel⟩, Nat.le_of_ble_eq_true rfl⟩
noncomputable def l_X11_degreeOf_5 (σ : Mem) (x0 : Int32) (x1 : Int32) (i1 : Int32) (i2 : Int32) : Option ((Int32 × Int32) ⊕ Int32) :=
  (f_X11_n σ).bind (fun (v3 : Int32) => if (2 * v3) < i2 then (some (Sum.inr i1)) else ((f_X11_termAt σ x0 x1).bind (fun (v4 : Int32) => gL σ 312 (v4 + i2) (fun (v5 : Int64) => bd (i1 + (Int64.toInt32 v5)) (fun (v6 : Int32) => some (Sum.inl (v6, i2 + 1)))))))
noncomputable def f_X11_degreeOf (σ : Mem) (x0 : Int32) (x1 : Int32) : Option Int32 :=
  loopO (fun (z2 : (Int32 × Int32)) => l_X11_degreeOf_5 σ x0 x1 z2.1 z2.2) (0, 1)
theorem t_X11_degreeOf {w : Wd} (hw : WOK w) (hN : wn w = NT) {σ : Mem} {x0 : Int32} {x1 : Int32} : JO w mu_X11_degreeOf vI σ [(0, .ref (adr w 306)), (1, .int x0), (2, .int x1)] [] 0 (f_X11_degreeOf σ x0 x1) (fun z => some (z, σ)) := by
  unfold f_X11_degreeOf
  refine jo_iconst (pc := 0) dX11_degreeOf_0 (ic_i_0) ?_
  refine jo_istore_n (pc := 1) (lv' := [(3, .int 0), (0, .ref (adr w 306)), (1, .int x0), (2, .int x1)]) dX11_degreeOf_1 rfl (ltb rfl) rfl ?_
  refine jo_iconst (pc := 2) dX11_degreeOf_2 (ic_i_1) ?_
  refine jo_istore (pc := 3) (lv' := [(4, .int 1), (3, .int 0), (0, .ref (adr w 306)), (1, .int x0), (2, .int x1)]) dX11_degreeOf_3 (ltb rfl) rfl ?_
  refine jo_lv (lv' := [(0, .ref (adr w 306)), (1, .int x0), (2, .int x1), (3, .int 0), (4, .int 1)]) [2, 3, 4, 1, 0] rfl ?_
  refine jo_loop (X := Int32) (fun (z2 : (Int32 × Int32)) => σ) (fun (z2 : (Int32 × Int32)) => [(0, .ref (adr w 306)), (1, .int x0), (2, .int x1), (3, .int z2.1), (4, .int z2.2)]) (body := (fun (z2 : (Int32 × Int32)) => l_X11_degreeOf_5 σ x0 x1 z2.1 z2.2)) (fun F5_2 hF5_2 s => ?_) (0, 1)
  obtain ⟨i1, i2⟩ := s
  show JO w mu_X11_degreeOf vI σ [(0, .ref (adr w 306)), (1, .int x0), (2, .int x1), (3, .int i1), (4, .int i2)] [] 5 (l_X11_degreeOf_5 σ x0 x1 i1 i2) _
  unfold l_X11_degreeOf_5
  refine jo_iload (pc := 5) 4 rfl dX11_degreeOf_5 ?_
  refine jo_iconst (pc := 7) dX11_degreeOf_7 (ic_i_2) ?_
  refine jo_aload_n (pc := 8) 0 rfl dX11_degreeOf_8 rfl ?_
  refine jo_cV_I_p (pc := 9) (μ' := mu_X11_n) (fx := f_X11_n σ) (As := []) (c_X11_n hw hN) (ok_X11_n) (ltb rfl) (all3 gw_1444 gw_1446 gw_68) (ik_306 hw hN) (by decide) (q := (RX11, TX11, 39)) rfl rfl rfl rfl (Nat.le_of_ble_eq_true rfl) dX11_degreeOf_9 (fun v3 => ?_)
  refine jo_imul (pc := 12) dX11_degreeOf_12 ?_
  refine jo_icmp_gt (pc := 13) dX11_degreeOf_13 (tgt := 40) rfl ?_ ?_
  · refine jo_iload_n (pc := 40) 3 rfl dX11_degreeOf_40 rfl ?_
    exact jo_ireturn (pc := 41) rfl rfl dX11_degreeOf_41
  · refine jo_iload_n (pc := 16) 3 rfl dX11_degreeOf_16 rfl ?_
    refine jo_aload_n (pc := 17) 0 rfl dX11_degreeOf_17 rfl ?_
    refine jo_getrE (pc := 18) ok_11_12 (ik_306 hw hN) rf_306_12 gw_1308 dX11_degreeOf_18 ?_
    refine jo_aload_n (pc := 21) 0 rfl dX11_degreeOf_21 rfl ?_
    refine jo_iload_n (pc := 22) 1 rfl dX11_degreeOf_22 rfl ?_
    refine jo_iload_n (pc := 23) 2 rfl dX11_degreeOf_23 rfl ?_
    refine jo_cV_I_p (pc := 24) (μ' := mu_X11_termAt) (fx := f_X11_termAt σ x0 x1) (As := [.int x0, .int x1]) (c_X11_termAt hw hN) (ok_X11_termAt) (ltb rfl) (all3 gw_1773 gw_1775 gw_127) (ik_306 hw hN) (by decide) (q := (RX11, TX11, 39)) rfl rfl rfl rfl (Nat.le_of_ble_eq_true rfl) dX11_degreeOf_24 (fun v4 => ?_)
    refine jo_iload (pc := 27) 4 rfl dX11_degreeOf_27 ?_
    refine jo_iadd (pc := 29) dX11_degreeOf_29 ?_
    refine jo_lald (pc := 30) (ik_312 hw hN) dX11_degreeOf_30 (fun v5 => ?_)
    refine jo_l2i (pc := 31) dX11_degreeOf_31 ?_
    refine jo_iadd (pc := 32) dX11_degreeOf_32 ?_
    refine jo_bd ?_
    refine jo_istore_n (pc := 33) (lv' := [(3, .int (i1 + (Int64.toInt32 v5))), (0, .ref (adr w 306)), (1, .int x0), (2, .int x1), (4, .int i2)]) dX11_degreeOf_33 rfl (ltb rfl) rfl ?_
    generalize (i1 + (Int64.toInt32 v5)) = v6
    refine jo_iinc (pc := 34) (lv' := [(4, .int (i2 + 1)), (3, .int v6), (0, .ref (adr w 306)), (1, .int x0), (2, .int x1)]) 4 rfl dX11_degreeOf_34 (congrArg (fun z => i2 + z) (ic_i_1)) (ltb rfl) rfl ?_
    refine jo_goto (pc := 37) dX11_degreeOf_37 (tgt := 5) rfl ?_
    refine jo_lv (lv' := [(0, .ref (adr w 306)), (1, .int x0), (2, .int x1), (3, .int v6), (4, .int (i2 + 1))]) [2, 3, 4, 1, 0] rfl ?_
    exact jo_leaf (by rfl) (hF5_2 (v6, i2 + 1))
theorem c_X11_degreeOf {w : Wd} (hw : WOK w) (hN : wn w = NT) {σ : Mem} {x0 : Int32} {x1 : Int32} : ∀ r, f_X11_degreeOf σ x0 x1 = some r → MC w mu_X11_degreeOf (vI r) [.ref (adr w 306), .int x0, .int x1] σ σ := mc_ofP ok_X11_degreeOf rfl (Nat.le_of_ble_eq_true rfl) (t_X11_degreeOf hw hN)
abbrev mu_X11_weightOfTerm : MD := (yX11_weightOfTerm, cX11_weightOfTerm, 5, some .int, 2)
theorem ok_X11_weightOfTerm : MOK mu_X11_weightOfTerm 2 := ⟨gw_1789, gw_171, by decide +kernel, ⟨by decide +kernel, by decide +kernel, by decide +kernel⟩, Nat.le_of_ble_eq_true rfl⟩
noncomputable def l_X11_weightOfTerm_5 (σ : Mem) (x0 : Int32) (x1 : Int32) (i1 : Int32) (i2 : Int32) : Option ((Int32 × Int32) ⊕ Int32) :=
  (f_X11_n σ).bind (fun (v3 : Int32) => if (2 * v3) < i2 then (some (Sum.inr i1)) else ((f_X11_weightOf σ (i2 - 1)).bind (fun (v4 : Int32) => (f_X11_termAt σ x0 x1).bind (fun (v5 : Int32) => gL σ 312 (v5 + i2) (fun (v6 : Int64) => bd (i1 + (v4 * (Int64.toInt32 v6))) (fun (v7 : Int32) => some (Sum.inl (v7, i2 + 1))))))))
noncomputable def f_X11_weightOfTerm (σ : Mem) (x0 : Int32) (x1 : Int32) : Option Int32 :=
  loopO (fun (z2 : (Int32 × Int32)) => l_X11_weightOfTerm_5 σ x0 x1 z2.1 z2.2) (0, 1)
theorem t_X11_weightOfTerm {w : Wd} (hw : WOK w) (hN : wn w = NT) {σ : Mem} {x0 : Int32} {x1 : Int32} : JO w mu_X11_weightOfTerm vI σ [(0, .ref (adr w 306)), (1, .int x0), (2, .int x1)] [] 0 (f_X11_weightOfTerm σ x0 x1) (fun z => some (z, σ)) := by
  unfold f_X11_weightOfTerm
  refine jo_iconst (pc := 0) dX11_weightOfTerm_0 (ic_i_0) ?_
  refine jo_istore_n (pc := 1) (lv' := [(3, .int 0), (0, .ref (adr w 306)), (1, .int x0), (2, .int x1)]) dX11_weightOfTerm_1 rfl (ltb rfl) rfl ?_
  refine jo_iconst (pc := 2) dX11_weightOfTerm_2 (ic_i_1) ?_
  refine jo_istore (pc := 3) (lv' := [(4, .int 1), (3, .int 0), (0, .ref (adr w 306)), (1, .int x0), (2, .int x1)]) dX11_weightOfTerm_3 (ltb rfl) rfl ?_
  refine jo_lv (lv' := [(0, .ref (adr w 306)), (1, .int x0), (2, .int x1), (3, .int 0), (4, .int 1)]) [2, 3, 4, 1, 0] rfl ?_
  refine jo_loop (X := Int32) (fun (z2 : (Int32 × Int32)) => σ) (fun (z2 : (Int32 × Int32)) => [(0, .ref (adr w 306)), (1, .int x0), (2, .int x1), (3, .int z2.1), (4, .int z2.2)]) (body := (fun (z2 : (Int32 × Int32)) => l_X11_weightOfTerm_5 σ x0 x1 z2.1 z2.2)) (fun F5_2 hF5_2 s => ?_) (0, 1)
  obtain ⟨i1, i2⟩ := s
  show JO w mu_X11_weightOfTerm vI σ [(0, .ref (adr w 306)), (1, .int x0), (2, .int x1), (3, .int i1), (4, .int i2)] [] 5 (l_X11_weightOfTerm_5 σ x0 x1 i1 i2) _
  unfold l_X11_weightOfTerm_5
  refine jo_iload (pc := 5) 4 rfl dX11_weightOfTerm_5 ?_
  refine jo_iconst (pc := 7) dX11_weightOfTerm_7 (ic_i_2) ?_
  refine jo_aload_n (pc := 8) 0 rfl dX11_weightOfTerm_8 rfl ?_
  refine jo_cV_I_p (pc := 9) (μ' := mu_X11_n) (fx := f_X11_n σ) (As := []) (c_X11_n hw hN) (ok_X11_n) (ltb rfl) (all3 gw_1444 gw_1446 gw_68) (ik_306 hw hN) (by decide) (q := (RX11, TX11, 39)) rfl rfl rfl rfl (Nat.le_of_ble_eq_true rfl) dX11_weightOfTerm_9 (fun v3 => ?_)
  refine jo_imul (pc := 12) dX11_weightOfTerm_12 ?_
  refine jo_icmp_gt (pc := 13) dX11_weightOfTerm_13 (tgt := 49) rfl ?_ ?_
  · refine jo_iload_n (pc := 49) 3 rfl dX11_weightOfTerm_49 rfl ?_
    exact jo_ireturn (pc := 50) rfl rfl dX11_weightOfTerm_50
  · refine jo_iload_n (pc := 16) 3 rfl dX11_weightOfTerm_16 rfl ?_
    refine jo_aload_n (pc := 17) 0 rfl dX11_weightOfTerm_17 rfl ?_
    refine jo_iload (pc := 18) 4 rfl dX11_weightOfTerm_18 ?_
    refine jo_iconst (pc := 20) dX11_weightOfTerm_20 (ic_i_1) ?_
    refine jo_isub (pc := 21) dX11_weightOfTerm_21 ?_
    refine jo_cV_I_p (pc := 22) (μ' := mu_X11_weightOf) (fx := f_X11_weightOf σ (i2 - 1)) (As := [.int (i2 - 1)]) (c_X11_weightOf hw hN) (ok_X11_weightOf) (ltb rfl) (all3 gw_1556 gw_1558 gw_93) (ik_306 hw hN) (by decide) (q := (RX11, TX11, 39)) rfl rfl rfl rfl (Nat.le_of_ble_eq_true rfl) dX11_weightOfTerm_22 (fun v4 => ?_)
    refine jo_aload_n (pc := 25) 0 rfl dX11_weightOfTerm_25 rfl ?_
    refine jo_getrE (pc := 26) ok_11_12 (ik_306 hw hN) rf_306_12 gw_1308 dX11_weightOfTerm_26 ?_
    refine jo_aload_n (pc := 29) 0 rfl dX11_weightOfTerm_29 rfl ?_
    refine jo_iload_n (pc := 30) 1 rfl dX11_weightOfTerm_30 rfl ?_
    refine jo_iload_n (pc := 31) 2 rfl dX11_weightOfTerm_31 rfl ?_
    refine jo_cV_I_p (pc := 32) (μ' := mu_X11_termAt) (fx := f_X11_termAt σ x0 x1) (As := [.int x0, .int x1]) (c_X11_termAt hw hN) (ok_X11_termAt) (ltb rfl) (all3 gw_1773 gw_1775 gw_127) (ik_306 hw hN) (by decide) (q := (RX11, TX11, 39)) rfl rfl rfl rfl (Nat.le_of_ble_eq_true rfl) dX11_weightOfTerm_32 (fun v5 => ?_)
    refine jo_iload (pc := 35) 4 rfl dX11_weightOfTerm_35 ?_
    refine jo_iadd (pc := 37) dX11_weightOfTerm_37 ?_
    refine jo_lald (pc := 38) (ik_312 hw hN) dX11_weightOfTerm_38 (fun v6 => ?_)
    refine jo_l2i (pc := 39) dX11_weightOfTerm_39 ?_
    refine jo_imul (pc := 40) dX11_weightOfTerm_40 ?_
    refine jo_iadd (pc := 41) dX11_weightOfTerm_41 ?_
    refine jo_bd ?_
    refine jo_istore_n (pc := 42) (lv' := [(3, .int (i1 + (v4 * (Int64.toInt32 v6)))), (0, .ref (adr w 306)), (1, .int x0), (2, .int x1), (4, .int i2)]) dX11_weightOfTerm_42 rfl (ltb rfl) rfl ?_
    generalize (i1 + (v4 * (Int64.toInt32 v6))) = v7
    refine jo_iinc (pc := 43) (lv' := [(4, .int (i2 + 1)), (3, .int v7), (0, .ref (adr w 306)), (1, .int x0), (2, .int x1)]) 4 rfl dX11_weightOfTerm_43 (congrArg (fun z => i2 + z) (ic_i_1)) (ltb rfl) rfl ?_
    refine jo_goto (pc := 46) dX11_weightOfTerm_46 (tgt := 5) rfl ?_
    refine jo_lv (lv' := [(0, .ref (adr w 306)), (1, .int x0), (2, .int x1), (3, .int v7), (4, .int (i2 + 1))]) [2, 3, 4, 1, 0] rfl ?_
    exact jo_leaf (by rfl) (hF5_2 (v7, i2 + 1))
theorem c_X11_weightOfTerm {w : Wd} (hw : WOK w) (hN : wn w = NT) {σ : Mem} {x0 : Int32} {x1 : Int32} : ∀ r, f_X11_weightOfTerm σ x0 x1 = some r → MC w mu_X11_weightOfTerm (vI r) [.ref (adr w 306), .int x0, .int x1] σ σ := mc_ofP ok_X11_weightOfTerm rfl (Nat.le_of_ble_eq_true rfl) (t_X11_weightOfTerm hw hN)
abbrev mu_X11_isInBoth : MD := (yX11_isInBoth, cX11_isInBoth, 4, some .boolean, 1)
theorem ok_X11_isInBoth : MOK mu_X11_isInBoth 2 := ⟨gw_1793, gw_171, by decide +kernel, ⟨by decide +kernel, by decide +kernel, by decide +kernel⟩, Nat.le_of_ble_eq_true rfl⟩
noncomputable def j_X11_isInBoth_53 (i1 : Int32) : Option (Int32 ⊕ Bool) :=
  some (Sum.inl (i1 + 1))
noncomputable def l_X11_isInBoth_2 (σ : Mem) (x0 : Int32) (x1 : Int32) (i1 : Int32) : Option (Int32 ⊕ Bool) :=
  (f_X11_n σ).bind (fun (v2 : Int32) => if v2 < i1 then (some (Sum.inr false)) else ((f_X11_termAt σ x0 x1).bind (fun (v3 : Int32) => gL σ 312 (v3 + i1) (fun (v4 : Int64) => (if v4 ≤ 0 then (some (Sum.inl ())) else ((f_X11_termAt σ x0 x1).bind (fun (v5 : Int32) => (f_X11_n σ).bind (fun (v6 : Int32) => gL σ 312 ((v5 + v6) + i1) (fun (v7 : Int64) => if v7 ≤ 0 then (some (Sum.inl ())) else (some (Sum.inr (Sum.inr true))))))) : Option (Unit ⊕ (Int32 ⊕ Bool))).bind (Sum.elim (fun (z4 : Unit) => j_X11_isInBoth_53 i1) some)))))
noncomputable def f_X11_isInBoth (σ : Mem) (x0 : Int32) (x1 : Int32) : Option Bool :=
  loopO (fun (z1 : Int32) => l_X11_isInBoth_2 σ x0 x1 z1) 1
theorem t_X11_isInBoth {w : Wd} (hw : WOK w) (hN : wn w = NT) {σ : Mem} {x0 : Int32} {x1 : Int32} : JO w mu_X11_isInBoth vB σ [(0, .ref (adr w 306)), (1, .int x0), (2, .int x1)] [] 0 (f_X11_isInBoth σ x0 x1) (fun z => some (z, σ)) := by
  unfold f_X11_isInBoth
  refine jo_iconst (pc := 0) dX11_isInBoth_0 (ic_i_1) ?_
  refine jo_istore_n (pc := 1) (lv' := [(3, .int 1), (0, .ref (adr w 306)), (1, .int x0), (2, .int x1)]) dX11_isInBoth_1 rfl (ltb rfl) rfl ?_
  refine jo_lv (lv' := [(0, .ref (adr w 306)), (1, .int x0), (2, .int x1), (3, .int 1)]) [1, 2, 3, 0] rfl ?_
  refine jo_loop (X := Bool) (fun (z1 : Int32) => σ) (fun (z1 : Int32) => [(0, .ref (adr w 306)), (1, .int x0), (2, .int x1), (3, .int z1)]) (body := (fun (z1 : Int32) => l_X11_isInBoth_2 σ x0 x1 z1)) (fun F2_1 hF2_1 s => ?_) 1
  revert s; intro i1
  show JO w mu_X11_isInBoth vB σ [(0, .ref (adr w 306)), (1, .int x0), (2, .int x1), (3, .int i1)] [] 2 (l_X11_isInBoth_2 σ x0 x1 i1) _
  unfold l_X11_isInBoth_2
  refine jo_iload_n (pc := 2) 3 rfl dX11_isInBoth_2 rfl ?_
  refine jo_aload_n (pc := 3) 0 rfl dX11_isInBoth_3 rfl ?_
  refine jo_cV_I_p (pc := 4) (μ' := mu_X11_n) (fx := f_X11_n σ) (As := []) (c_X11_n hw hN) (ok_X11_n) (ltb rfl) (all3 gw_1444 gw_1446 gw_68) (ik_306 hw hN) (by decide) (q := (RX11, TX11, 39)) rfl rfl rfl rfl (Nat.le_of_ble_eq_true rfl) dX11_isInBoth_4 (fun v2 => ?_)
  refine jo_icmp_gt (pc := 7) dX11_isInBoth_7 (tgt := 59) rfl ?_ ?_
  · refine jo_iconst (pc := 59) dX11_isInBoth_59 (ic_i_0) ?_
    exact jo_breturn (pc := 60) (b := false) rfl rfl dX11_isInBoth_60
  · refine jo_aload_n (pc := 10) 0 rfl dX11_isInBoth_10 rfl ?_
    refine jo_getrE (pc := 11) ok_11_12 (ik_306 hw hN) rf_306_12 gw_1308 dX11_isInBoth_11 ?_
    refine jo_aload_n (pc := 14) 0 rfl dX11_isInBoth_14 rfl ?_
    refine jo_iload_n (pc := 15) 1 rfl dX11_isInBoth_15 rfl ?_
    refine jo_iload_n (pc := 16) 2 rfl dX11_isInBoth_16 rfl ?_
    refine jo_cV_I_p (pc := 17) (μ' := mu_X11_termAt) (fx := f_X11_termAt σ x0 x1) (As := [.int x0, .int x1]) (c_X11_termAt hw hN) (ok_X11_termAt) (ltb rfl) (all3 gw_1773 gw_1775 gw_127) (ik_306 hw hN) (by decide) (q := (RX11, TX11, 39)) rfl rfl rfl rfl (Nat.le_of_ble_eq_true rfl) dX11_isInBoth_17 (fun v3 => ?_)
    refine jo_iload_n (pc := 20) 3 rfl dX11_isInBoth_20 rfl ?_
    refine jo_iadd (pc := 21) dX11_isInBoth_21 ?_
    refine jo_lald (pc := 22) (ik_312 hw hN) dX11_isInBoth_22 (fun v4 => ?_)
    refine jo_lconst (pc := 23) dX11_isInBoth_23 (ic_l_0) ?_
    refine jo_joinS (S := Unit) (fun (z4 : Unit) => σ) (fun (z4 : Unit) => [(0, .ref (adr w 306)), (1, .int x0), (2, .int x1), (3, .int i1)]) (fun (z4 : Unit) => []) 53 ?_ (fun h53_4 => ?_)
    · intro _
      show JO w mu_X11_isInBoth vB σ [(0, .ref (adr w 306)), (1, .int x0), (2, .int x1), (3, .int i1)] [] 53 (j_X11_isInBoth_53 i1) _
      unfold j_X11_isInBoth_53
      refine jo_iinc (pc := 53) (lv' := [(3, .int (i1 + 1)), (0, .ref (adr w 306)), (1, .int x0), (2, .int x1)]) 3 rfl dX11_isInBoth_53 (congrArg (fun z => i1 + z) (ic_i_1)) (ltb rfl) rfl ?_
      refine jo_goto (pc := 56) dX11_isInBoth_56 (tgt := 2) rfl ?_
      refine jo_lv (lv' := [(0, .ref (adr w 306)), (1, .int x0), (2, .int x1), (3, .int (i1 + 1))]) [1, 2, 3, 0] rfl ?_
      exact jo_leaf (by rfl) (hF2_1 (i1 + 1))
    · refine jo_lcmp_le (pc := 24) dX11_isInBoth_24 dX11_isInBoth_25 (tgt := 53) rfl ?_ ?_
      · exact jo_leaf (by rfl) (h53_4 ())
      · refine jo_aload_n (pc := 28) 0 rfl dX11_isInBoth_28 rfl ?_
        refine jo_getrE (pc := 29) ok_11_12 (ik_306 hw hN) rf_306_12 gw_1308 dX11_isInBoth_29 ?_
        refine jo_aload_n (pc := 32) 0 rfl dX11_isInBoth_32 rfl ?_
        refine jo_iload_n (pc := 33) 1 rfl dX11_isInBoth_33 rfl ?_
        refine jo_iload_n (pc := 34) 2 rfl dX11_isInBoth_34 rfl ?_
        refine jo_cV_I_p (pc := 35) (μ' := mu_X11_termAt) (fx := f_X11_termAt σ x0 x1) (As := [.int x0, .int x1]) (c_X11_termAt hw hN) (ok_X11_termAt) (ltb rfl) (all3 gw_1773 gw_1775 gw_127) (ik_306 hw hN) (by decide) (q := (RX11, TX11, 39)) rfl rfl rfl rfl (Nat.le_of_ble_eq_true rfl) dX11_isInBoth_35 (fun v5 => ?_)
        refine jo_aload_n (pc := 38) 0 rfl dX11_isInBoth_38 rfl ?_
        refine jo_cV_I_p (pc := 39) (μ' := mu_X11_n) (fx := f_X11_n σ) (As := []) (c_X11_n hw hN) (ok_X11_n) (ltb rfl) (all3 gw_1444 gw_1446 gw_68) (ik_306 hw hN) (by decide) (q := (RX11, TX11, 39)) rfl rfl rfl rfl (Nat.le_of_ble_eq_true rfl) dX11_isInBoth_39 (fun v6 => ?_)
        refine jo_iadd (pc := 42) dX11_isInBoth_42 ?_
        refine jo_iload_n (pc := 43) 3 rfl dX11_isInBoth_43 rfl ?_
        refine jo_iadd (pc := 44) dX11_isInBoth_44 ?_
        refine jo_lald (pc := 45) (ik_312 hw hN) dX11_isInBoth_45 (fun v7 => ?_)
        refine jo_lconst (pc := 46) dX11_isInBoth_46 (ic_l_0) ?_
        refine jo_lcmp_le (pc := 47) dX11_isInBoth_47 dX11_isInBoth_48 (tgt := 53) rfl ?_ ?_
        · exact jo_leaf (by rfl) (h53_4 ())
        · refine jo_iconst (pc := 51) dX11_isInBoth_51 (ic_i_1) ?_
          exact jo_breturn (pc := 52) (b := true) rfl rfl dX11_isInBoth_52
theorem c_X11_isInBoth {w : Wd} (hw : WOK w) (hN : wn w = NT) {σ : Mem} {x0 : Int32} {x1 : Int32} : ∀ r, f_X11_isInBoth σ x0 x1 = some r → MC w mu_X11_isInBoth (vB r) [.ref (adr w 306), .int x0, .int x1] σ σ := mc_ofP ok_X11_isInBoth rfl (Nat.le_of_ble_eq_true rfl) (t_X11_isInBoth hw hN)
abbrev mu_X11_shape : MD := (yX11_shape, cX11_shape, 5, some .int, 38)
theorem ok_X11_shape : MOK mu_X11_shape 2 := ⟨gw_1780, gw_171, by decide +kernel, ⟨by decide +kernel, by decide +kernel, by decide +kernel⟩, Nat.le_of_ble_eq_true rfl⟩
noncomputable def j_X11_shape_121 (i6 : Int32) (i11 : Int32) : Option ((Int32 × Int32) ⊕ (Int32 × Mem)) :=
  some (Sum.inl (i11, i6 + 1))
noncomputable def j_X11_shape_100 (x0 : Int32) (x1 : Int32) (σ3 : Mem) (i6 : Int32) (i10 : Int32) : Option ((Int32 × Int32) ⊕ (Int32 × Mem)) :=
  (if x1 = 3 then ((f_X11_termAt σ3 x0 i6).bind (fun (v12 : Int32) => gL σ3 312 v12 (fun (v13 : Int64) => bd (i10 + (Int64.toInt32 v13)) (fun (v14 : Int32) => some v14)))) else (some i10) : Option Int32).bind (fun (z11 : Int32) => j_X11_shape_121 i6 z11)
noncomputable def j_X11_shape_81 (x0 : Int32) (x1 : Int32) (σ3 : Mem) (i6 : Int32) (i9 : Int32) : Option ((Int32 × Int32) ⊕ (Int32 × Mem)) :=
  (if x1 = 2 then ((f_X11_isInBoth σ3 x0 i6).bind (fun (b15 : Bool) => if b15 then bd (i9 + 1) (fun (v16 : Int32) => some v16) else some i9)) else (some i9) : Option Int32).bind (fun (z10 : Int32) => j_X11_shape_100 x0 x1 σ3 i6 z10)
noncomputable def j_X11_shape_64 (x0 : Int32) (x1 : Int32) (σ3 : Mem) (i6 : Int32) (i8 : Int32) : Option ((Int32 × Int32) ⊕ (Int32 × Mem)) :=
  (if x1 = 1 then ((f_X11_weightOfTerm σ3 x0 i6).bind (fun (v17 : Int32) => (f_J9_max_7cf53 σ3 i8 v17).bind (fun (v18 : Int32) => some v18))) else (some i8) : Option Int32).bind (fun (z9 : Int32) => j_X11_shape_81 x0 x1 σ3 i6 z9)
noncomputable def l_X11_shape_35 (x0 : Int32) (x1 : Int32) (σ3 : Mem) (i5 : Int32) (i6 : Int32) : Option ((Int32 × Int32) ⊕ (Int32 × Mem)) :=
  gI σ3 311 (x0 - 1) (fun (v7 : Int32) => if v7 ≤ i6 then (some (Sum.inr (i5, σ3))) else ((if x1 = 0 then ((f_X11_degreeOf σ3 x0 i6).bind (fun (v19 : Int32) => (f_J9_max_7cf53 σ3 i5 v19).bind (fun (v20 : Int32) => some v20))) else (some i5) : Option Int32).bind (fun (z8 : Int32) => j_X11_shape_64 x0 x1 σ3 i6 z8)))
noncomputable def f_X11_shape (σ : Mem) (x0 : Int32) (x1 : Int32) : Option (Int32 × Mem) :=
  pF σ 306 0 0 (fun (σ1 : Mem) => bq (f_X11_isPolynomial σ1 x0) (fun (b2 : Bool) (σ3 : Mem) => if b2 then (f_X11_isIn σ3 (Int32.toInt64 x1) 0 3).bind (fun (b4 : Bool) => if b4 then loopO (fun (z6 : (Int32 × Int32)) => l_X11_shape_35 x0 x1 σ3 z6.1 z6.2) (0, 0) else some ((-10000), σ3)) else some ((-10000), σ3)))
theorem t_X11_shape {w : Wd} (hw : WOK w) (hN : wn w = NT) {σ : Mem} {x0 : Int32} {x1 : Int32} : JO w mu_X11_shape vI σ [(0, .ref (adr w 306)), (1, .int x0), (2, .int x1)] [] 0 (f_X11_shape σ x0 x1) some := by
  unfold f_X11_shape
  refine jo_aload_n (pc := 0) 0 rfl dX11_shape_0 rfl ?_
  refine jo_iconst (pc := 1) dX11_shape_1 (ic_i_0) ?_
  refine jo_putf (pc := 2) ok_11_0 okp_11_0 (ik_306 hw hN) gw_1296 dX11_shape_2 (fun σ1 => ?_)
  refine jo_aload_n (pc := 5) 0 rfl dX11_shape_5 rfl ?_
  refine jo_iload_n (pc := 6) 1 rfl dX11_shape_6 rfl ?_
  refine jo_cV_Z_i (pc := 7) (μ' := mu_X11_isPolynomial) (fx := f_X11_isPolynomial σ1 x0) (As := [.int x0]) (c_X11_isPolynomial hw hN) (ok_X11_isPolynomial) (ltb rfl) (all3 gw_1765 gw_1767 gw_126) (ik_306 hw hN) (by decide) (q := (RX11, TX11, 39)) rfl rfl rfl rfl (Nat.le_of_ble_eq_true rfl) dX11_shape_7 (fun b2 σ3 => ?_)
  refine jo_ifz_eq (pc := 10) dX11_shape_10 (tgt := 26) rfl ?_ ?_
  · refine jo_sipush (pc := 26) dX11_shape_26 (ic_s_m10000) ?_
    exact jo_ireturn (pc := 29) rfl rfl dX11_shape_29
  · refine jo_aload_n (pc := 13) 0 rfl dX11_shape_13 rfl ?_
    refine jo_iload_n (pc := 14) 2 rfl dX11_shape_14 rfl ?_
    refine jo_i2l (pc := 15) dX11_shape_15 ?_
    refine jo_lconst (pc := 16) dX11_shape_16 (ic_l_0) ?_
    refine jo_ldc2 (pc := 17) dX11_shape_17 gw_1448 ?_
    refine jo_cV_Z_p (pc := 20) (μ' := mu_X11_isIn) (fx := f_X11_isIn σ3 (Int32.toInt64 x1) 0 3) (As := [.long (Int32.toInt64 x1), .long 0, .long 3]) (c_X11_isIn hw hN) (ok_X11_isIn) (ltb rfl) (all3 gw_1423 gw_1425 gw_64) (ik_306 hw hN) (by decide) (q := (RX11, TX11, 39)) rfl rfl rfl rfl (Nat.le_of_ble_eq_true rfl) dX11_shape_20 (fun b4 => ?_)
    refine jo_ifz_ne (pc := 23) dX11_shape_23 (tgt := 30) rfl ?_ ?_
    · refine jo_iconst (pc := 30) dX11_shape_30 (ic_i_0) ?_
      refine jo_istore_n (pc := 31) (lv' := [(3, .int 0), (0, .ref (adr w 306)), (1, .int x0), (2, .int x1)]) dX11_shape_31 rfl (ltb rfl) rfl ?_
      refine jo_iconst (pc := 32) dX11_shape_32 (ic_i_0) ?_
      refine jo_istore (pc := 33) (lv' := [(4, .int 0), (3, .int 0), (0, .ref (adr w 306)), (1, .int x0), (2, .int x1)]) dX11_shape_33 (ltb rfl) rfl ?_
      refine jo_lv (lv' := [(0, .ref (adr w 306)), (1, .int x0), (2, .int x1), (3, .int 0), (4, .int 0)]) [2, 3, 4, 1, 0] rfl ?_
      refine jo_loop (X := (Int32 × Mem)) (fun (z6 : (Int32 × Int32)) => σ3) (fun (z6 : (Int32 × Int32)) => [(0, .ref (adr w 306)), (1, .int x0), (2, .int x1), (3, .int z6.1), (4, .int z6.2)]) (body := (fun (z6 : (Int32 × Int32)) => l_X11_shape_35 x0 x1 σ3 z6.1 z6.2)) (fun F35_6 hF35_6 s => ?_) (0, 0)
      obtain ⟨i5, i6⟩ := s
      show JO w mu_X11_shape vI σ3 [(0, .ref (adr w 306)), (1, .int x0), (2, .int x1), (3, .int i5), (4, .int i6)] [] 35 (l_X11_shape_35 x0 x1 σ3 i5 i6) _
      unfold l_X11_shape_35
      refine jo_iload (pc := 35) 4 rfl dX11_shape_35 ?_
      refine jo_aload_n (pc := 37) 0 rfl dX11_shape_37 rfl ?_
      refine jo_getrE (pc := 38) ok_11_11 (ik_306 hw hN) rf_306_11 gw_1307 dX11_shape_38 ?_
      refine jo_iload_n (pc := 41) 1 rfl dX11_shape_41 rfl ?_
      refine jo_iconst (pc := 42) dX11_shape_42 (ic_i_1) ?_
      refine jo_isub (pc := 43) dX11_shape_43 ?_
      refine jo_iald (pc := 44) (ik_311 hw hN) dX11_shape_44 (fun v7 => ?_)
      refine jo_icmp_ge (pc := 45) dX11_shape_45 (tgt := 127) rfl ?_ ?_
      · refine jo_iload_n (pc := 127) 3 rfl dX11_shape_127 rfl ?_
        exact jo_ireturn (pc := 128) rfl rfl dX11_shape_128
      · refine jo_iload_n (pc := 48) 2 rfl dX11_shape_48 rfl ?_
        refine jo_join1 (S := Int32) (fun (z8 : Int32) => σ3) (fun (z8 : Int32) => [(0, .ref (adr w 306)), (1, .int x0), (2, .int x1), (4, .int i6), (3, .int z8)]) (fun (z8 : Int32) => []) 64 ?_ (fun h64_8 => ?_)
        · intro i8
          show JO w mu_X11_shape vI σ3 [(0, .ref (adr w 306)), (1, .int x0), (2, .int x1), (4, .int i6), (3, .int i8)] [] 64 (j_X11_shape_64 x0 x1 σ3 i6 i8) _
          unfold j_X11_shape_64
          refine jo_iload_n (pc := 64) 2 rfl dX11_shape_64 rfl ?_
          refine jo_iconst (pc := 65) dX11_shape_65 (ic_i_1) ?_
          refine jo_join1 (S := Int32) (fun (z9 : Int32) => σ3) (fun (z9 : Int32) => [(0, .ref (adr w 306)), (1, .int x0), (2, .int x1), (4, .int i6), (3, .int z9)]) (fun (z9 : Int32) => []) 81 ?_ (fun h81_9 => ?_)
          · intro i9
            show JO w mu_X11_shape vI σ3 [(0, .ref (adr w 306)), (1, .int x0), (2, .int x1), (4, .int i6), (3, .int i9)] [] 81 (j_X11_shape_81 x0 x1 σ3 i6 i9) _
            unfold j_X11_shape_81
            refine jo_iload_n (pc := 81) 2 rfl dX11_shape_81 rfl ?_
            refine jo_iconst (pc := 82) dX11_shape_82 (ic_i_2) ?_
            refine jo_join1 (S := Int32) (fun (z10 : Int32) => σ3) (fun (z10 : Int32) => [(0, .ref (adr w 306)), (1, .int x0), (2, .int x1), (4, .int i6), (3, .int z10)]) (fun (z10 : Int32) => []) 100 ?_ (fun h100_10 => ?_)
            · intro i10
              show JO w mu_X11_shape vI σ3 [(0, .ref (adr w 306)), (1, .int x0), (2, .int x1), (4, .int i6), (3, .int i10)] [] 100 (j_X11_shape_100 x0 x1 σ3 i6 i10) _
              unfold j_X11_shape_100
              refine jo_iload_n (pc := 100) 2 rfl dX11_shape_100 rfl ?_
              refine jo_iconst (pc := 101) dX11_shape_101 (ic_i_3) ?_
              refine jo_join1 (S := Int32) (fun (z11 : Int32) => σ3) (fun (z11 : Int32) => [(0, .ref (adr w 306)), (1, .int x0), (2, .int x1), (4, .int i6), (3, .int z11)]) (fun (z11 : Int32) => []) 121 ?_ (fun h121_11 => ?_)
              · intro i11
                show JO w mu_X11_shape vI σ3 [(0, .ref (adr w 306)), (1, .int x0), (2, .int x1), (4, .int i6), (3, .int i11)] [] 121 (j_X11_shape_121 i6 i11) _
                unfold j_X11_shape_121
                refine jo_iinc (pc := 121) (lv' := [(4, .int (i6 + 1)), (0, .ref (adr w 306)), (1, .int x0), (2, .int x1), (3, .int i11)]) 3 rfl dX11_shape_121 (congrArg (fun z => i6 + z) (ic_i_1)) (ltb rfl) rfl ?_
                refine jo_goto (pc := 124) dX11_shape_124 (tgt := 35) rfl ?_
                refine jo_lv (lv' := [(0, .ref (adr w 306)), (1, .int x0), (2, .int x1), (3, .int i11), (4, .int (i6 + 1))]) [1, 2, 3, 4, 0] rfl ?_
                exact jo_leaf (by rfl) (hF35_6 (i11, i6 + 1))
              · refine jo_icmp_ne (pc := 102) dX11_shape_102 (tgt := 121) rfl ?_ ?_
                · exact jo_leaf (by rfl) (h121_11 i10)
                · refine jo_iload_n (pc := 105) 4 rfl dX11_shape_105 rfl ?_
                  refine jo_aload_n (pc := 106) 0 rfl dX11_shape_106 rfl ?_
                  refine jo_getrE (pc := 107) ok_11_12 (ik_306 hw hN) rf_306_12 gw_1308 dX11_shape_107 ?_
                  refine jo_aload_n (pc := 110) 0 rfl dX11_shape_110 rfl ?_
                  refine jo_iload_n (pc := 111) 1 rfl dX11_shape_111 rfl ?_
                  refine jo_iload (pc := 112) 3 rfl dX11_shape_112 ?_
                  refine jo_cV_I_p (pc := 114) (μ' := mu_X11_termAt) (fx := f_X11_termAt σ3 x0 i6) (As := [.int x0, .int i6]) (c_X11_termAt hw hN) (ok_X11_termAt) (ltb rfl) (all3 gw_1773 gw_1775 gw_127) (ik_306 hw hN) (by decide) (q := (RX11, TX11, 39)) rfl rfl rfl rfl (Nat.le_of_ble_eq_true rfl) dX11_shape_114 (fun v12 => ?_)
                  refine jo_lald (pc := 117) (ik_312 hw hN) dX11_shape_117 (fun v13 => ?_)
                  refine jo_l2i (pc := 118) dX11_shape_118 ?_
                  refine jo_iadd (pc := 119) dX11_shape_119 ?_
                  refine jo_bd ?_
                  refine jo_istore_n (pc := 120) (lv' := [(3, .int (i10 + (Int64.toInt32 v13))), (0, .ref (adr w 306)), (1, .int x0), (2, .int x1), (4, .int i6)]) dX11_shape_120 rfl (ltb rfl) rfl ?_
                  generalize (i10 + (Int64.toInt32 v13)) = v14
                  refine jo_lv (lv' := [(0, .ref (adr w 306)), (1, .int x0), (2, .int x1), (4, .int i6), (3, .int v14)]) [1, 2, 3, 4, 0] rfl ?_
                  exact jo_leaf (by rfl) (h121_11 v14)
            · refine jo_icmp_ne (pc := 83) dX11_shape_83 (tgt := 100) rfl ?_ ?_
              · exact jo_leaf (by rfl) (h100_10 i9)
              · refine jo_aload_n (pc := 86) 0 rfl dX11_shape_86 rfl ?_
                refine jo_iload_n (pc := 87) 1 rfl dX11_shape_87 rfl ?_
                refine jo_iload (pc := 88) 3 rfl dX11_shape_88 ?_
                refine jo_cV_Z_p (pc := 90) (μ' := mu_X11_isInBoth) (fx := f_X11_isInBoth σ3 x0 i6) (As := [.int x0, .int i6]) (c_X11_isInBoth hw hN) (ok_X11_isInBoth) (ltb rfl) (all3 gw_1790 gw_1792 gw_130) (ik_306 hw hN) (by decide) (q := (RX11, TX11, 39)) rfl rfl rfl rfl (Nat.le_of_ble_eq_true rfl) dX11_shape_90 (fun b15 => ?_)
                refine jo_ifz_eq (pc := 93) dX11_shape_93 (tgt := 100) rfl ?_ ?_
                · exact jo_leaf (by rfl) (h100_10 i9)
                · refine jo_iload_n (pc := 96) 4 rfl dX11_shape_96 rfl ?_
                  refine jo_iconst (pc := 97) dX11_shape_97 (ic_i_1) ?_
                  refine jo_iadd (pc := 98) dX11_shape_98 ?_
                  refine jo_bd ?_
                  refine jo_istore_n (pc := 99) (lv' := [(3, .int (i9 + 1)), (0, .ref (adr w 306)), (1, .int x0), (2, .int x1), (4, .int i6)]) dX11_shape_99 rfl (ltb rfl) rfl ?_
                  generalize (i9 + 1) = v16
                  refine jo_lv (lv' := [(0, .ref (adr w 306)), (1, .int x0), (2, .int x1), (4, .int i6), (3, .int v16)]) [1, 2, 3, 4, 0] rfl ?_
                  exact jo_leaf (by rfl) (h100_10 v16)
          · refine jo_icmp_ne (pc := 66) dX11_shape_66 (tgt := 81) rfl ?_ ?_
            · exact jo_leaf (by rfl) (h81_9 i8)
            · refine jo_iload_n (pc := 69) 4 rfl dX11_shape_69 rfl ?_
              refine jo_aload_n (pc := 70) 0 rfl dX11_shape_70 rfl ?_
              refine jo_iload_n (pc := 71) 1 rfl dX11_shape_71 rfl ?_
              refine jo_iload (pc := 72) 3 rfl dX11_shape_72 ?_
              refine jo_cV_I_p (pc := 74) (μ' := mu_X11_weightOfTerm) (fx := f_X11_weightOfTerm σ3 x0 i6) (As := [.int x0, .int i6]) (c_X11_weightOfTerm hw hN) (ok_X11_weightOfTerm) (ltb rfl) (all3 gw_1786 gw_1788 gw_129) (ik_306 hw hN) (by decide) (q := (RX11, TX11, 39)) rfl rfl rfl rfl (Nat.le_of_ble_eq_true rfl) dX11_shape_74 (fun v17 => ?_)
              refine jo_cS_I_p (pc := 77) (μ' := mu_J9_max_7cf53) (fx := f_J9_max_7cf53 σ3 i8 v17) (As := [.int i8, .int v17]) (c_J9_max_7cf53 hw) (ok_J9_max_7cf53) (ltb rfl) (all2 gw_1785 gw_752) rfl rfl (Nat.le_of_ble_eq_true rfl) dX11_shape_77 (fun v18 => ?_)
              refine jo_istore_n (pc := 80) (lv' := [(3, .int v18), (0, .ref (adr w 306)), (1, .int x0), (2, .int x1), (4, .int i6)]) dX11_shape_80 rfl (ltb rfl) rfl ?_
              refine jo_lv (lv' := [(0, .ref (adr w 306)), (1, .int x0), (2, .int x1), (4, .int i6), (3, .int v18)]) [1, 2, 3, 4, 0] rfl ?_
              exact jo_leaf (by rfl) (h81_9 v18)
        · refine jo_if_ne (pc := 49) dX11_shape_49 (tgt := 64) rfl ?_ ?_
          · refine jo_lv (lv' := [(0, .ref (adr w 306)), (1, .int x0), (2, .int x1), (4, .int i6), (3, .int i5)]) [0, 1, 2, 4, 3] rfl ?_
            exact jo_leaf (by rfl) (h64_8 i5)
          · refine jo_iload_n (pc := 52) 3 rfl dX11_shape_52 rfl ?_
            refine jo_aload_n (pc := 53) 0 rfl dX11_shape_53 rfl ?_
            refine jo_iload_n (pc := 54) 1 rfl dX11_shape_54 rfl ?_
            refine jo_iload (pc := 55) 4 rfl dX11_shape_55 ?_
            refine jo_cV_I_p (pc := 57) (μ' := mu_X11_degreeOf) (fx := f_X11_degreeOf σ3 x0 i6) (As := [.int x0, .int i6]) (c_X11_degreeOf hw hN) (ok_X11_degreeOf) (ltb rfl) (all3 gw_1781 gw_1783 gw_128) (ik_306 hw hN) (by decide) (q := (RX11, TX11, 39)) rfl rfl rfl rfl (Nat.le_of_ble_eq_true rfl) dX11_shape_57 (fun v19 => ?_)
            refine jo_cS_I_p (pc := 60) (μ' := mu_J9_max_7cf53) (fx := f_J9_max_7cf53 σ3 i5 v19) (As := [.int i5, .int v19]) (c_J9_max_7cf53 hw) (ok_J9_max_7cf53) (ltb rfl) (all2 gw_1785 gw_752) rfl rfl (Nat.le_of_ble_eq_true rfl) dX11_shape_60 (fun v20 => ?_)
            refine jo_istore_n (pc := 63) (lv' := [(3, .int v20), (0, .ref (adr w 306)), (1, .int x0), (2, .int x1), (4, .int i6)]) dX11_shape_63 rfl (ltb rfl) rfl ?_
            refine jo_lv (lv' := [(0, .ref (adr w 306)), (1, .int x0), (2, .int x1), (4, .int i6), (3, .int v20)]) [1, 2, 3, 4, 0] rfl ?_
            exact jo_leaf (by rfl) (h64_8 v20)
    · refine jo_sipush (pc := 26) dX11_shape_26 (ic_s_m10000) ?_
      exact jo_ireturn (pc := 29) rfl rfl dX11_shape_29
theorem c_X11_shape {w : Wd} (hw : WOK w) (hN : wn w = NT) {σ : Mem} {x0 : Int32} {x1 : Int32} : ∀ r σ', f_X11_shape σ x0 x1 = some (r, σ') → MC w mu_X11_shape (vI r) [.ref (adr w 306), .int x0, .int x1] σ σ' := mc_of ok_X11_shape rfl (Nat.le_of_ble_eq_true rfl) (t_X11_shape hw hN)
abbrev mu_X11_layer : MD := (yX11_layer, cX11_layer, 3, some .int, 2)
theorem ok_X11_layer : MOK mu_X11_layer 1 := ⟨gw_1819, gw_171, by decide +kernel, ⟨by decide +kernel, by decide +kernel, by decide +kernel⟩, Nat.le_of_ble_eq_true rfl⟩
noncomputable def j_X11_layer_33 (σ : Mem) : Option Int32 :=
  (f_X11_level σ).bind (fun (v1 : Int32) => some (v1 + 1))
noncomputable def j_X11_layer_21 (σ : Mem) (i2 : Int32) : Option (Unit ⊕ Int32) :=
  (f_X11_weight σ i2).bind (fun (v3 : Int32) => some (Sum.inr v3))
noncomputable def l_X11_layer_2 (σ : Mem) (x0 : Int32) (i4 : Int32) : Option (Int32 ⊕ (Int32 ⊕ (Unit ⊕ Int32))) :=
  (f_X11_n σ).bind (fun (v5 : Int32) => if v5 ≤ i4 then (some (Sum.inr (Sum.inr (Sum.inl ())))) else ((f_X11_of σ x0 i4).bind (fun (v6 : Int64) => if v6 = 0 then (some (Sum.inl (i4 + 1))) else (some (Sum.inr (Sum.inl i4))))))
noncomputable def f_X11_layer (σ : Mem) (x0 : Int32) : Option Int32 :=
  ((loopO (fun (z4 : Int32) => l_X11_layer_2 σ x0 z4) 0 : Option (Int32 ⊕ (Unit ⊕ Int32))).bind (Sum.elim (fun (z2 : Int32) => j_X11_layer_21 σ z2) some) : Option (Unit ⊕ Int32)).bind (Sum.elim (fun (z0 : Unit) => j_X11_layer_33 σ) some)
theorem t_X11_layer {w : Wd} (hw : WOK w) (hN : wn w = NT) {σ : Mem} {x0 : Int32} : JO w mu_X11_layer vI σ [(0, .ref (adr w 306)), (1, .int x0)] [] 0 (f_X11_layer σ x0) (fun z => some (z, σ)) := by
  unfold f_X11_layer
  refine jo_iconst (pc := 0) dX11_layer_0 (ic_i_0) ?_
  refine jo_istore_n (pc := 1) (lv' := [(2, .int 0), (0, .ref (adr w 306)), (1, .int x0)]) dX11_layer_1 rfl (ltb rfl) rfl ?_
  refine jo_joinS (S := Unit) (fun (z0 : Unit) => σ) (fun (z0 : Unit) => [(0, .ref (adr w 306))]) (fun (z0 : Unit) => []) 33 ?_ (fun h33_0 => ?_)
  · intro _
    show JO w mu_X11_layer vI σ [(0, .ref (adr w 306))] [] 33 (j_X11_layer_33 σ) _
    unfold j_X11_layer_33
    refine jo_aload_n (pc := 33) 0 rfl dX11_layer_33 rfl ?_
    refine jo_cV_I_p (pc := 34) (μ' := mu_X11_level) (fx := f_X11_level σ) (As := []) (c_X11_level hw hN) (ok_X11_level) (ltb rfl) (all3 gw_1640 gw_1642 gw_106) (ik_306 hw hN) (by decide) (q := (RX11, TX11, 39)) rfl rfl rfl rfl (Nat.le_of_ble_eq_true rfl) dX11_layer_34 (fun v1 => ?_)
    refine jo_iconst (pc := 37) dX11_layer_37 (ic_i_1) ?_
    refine jo_iadd (pc := 38) dX11_layer_38 ?_
    exact jo_ireturn (pc := 39) rfl rfl dX11_layer_39
  · refine jo_joinS (S := Int32) (fun (z2 : Int32) => σ) (fun (z2 : Int32) => [(0, .ref (adr w 306)), (2, .int z2)]) (fun (z2 : Int32) => []) 21 ?_ (fun h21_2 => ?_)
    · intro i2
      show JO w mu_X11_layer vI σ [(0, .ref (adr w 306)), (2, .int i2)] [] 21 (j_X11_layer_21 σ i2) _
      unfold j_X11_layer_21
      refine jo_aload_n (pc := 21) 0 rfl dX11_layer_21 rfl ?_
      refine jo_iload_n (pc := 22) 1 rfl dX11_layer_22 rfl ?_
      refine jo_cV_I_p (pc := 23) (μ' := mu_X11_weight) (fx := f_X11_weight σ i2) (As := [.int i2]) (c_X11_weight hw hN) (ok_X11_weight) (ltb rfl) (all3 gw_1449 gw_1451 gw_69) (ik_306 hw hN) (by decide) (q := (RX11, TX11, 39)) rfl rfl rfl rfl (Nat.le_of_ble_eq_true rfl) dX11_layer_23 (fun v3 => ?_)
      exact jo_ireturn (pc := 26) rfl rfl dX11_layer_26
    · refine jo_lv (lv' := [(0, .ref (adr w 306)), (1, .int x0), (2, .int 0)]) [1, 2, 0] rfl ?_
      refine jo_loop (X := Int32 ⊕ (Unit ⊕ Int32)) (fun (z4 : Int32) => σ) (fun (z4 : Int32) => [(0, .ref (adr w 306)), (1, .int x0), (2, .int z4)]) (body := (fun (z4 : Int32) => l_X11_layer_2 σ x0 z4)) (fun F2_4 hF2_4 s => ?_) 0
      revert s; intro i4
      show JO w mu_X11_layer vI σ [(0, .ref (adr w 306)), (1, .int x0), (2, .int i4)] [] 2 (l_X11_layer_2 σ x0 i4) _
      unfold l_X11_layer_2
      refine jo_iload_n (pc := 2) 2 rfl dX11_layer_2 rfl ?_
      refine jo_aload_n (pc := 3) 0 rfl dX11_layer_3 rfl ?_
      refine jo_cV_I_p (pc := 4) (μ' := mu_X11_n) (fx := f_X11_n σ) (As := []) (c_X11_n hw hN) (ok_X11_n) (ltb rfl) (all3 gw_1444 gw_1446 gw_68) (ik_306 hw hN) (by decide) (q := (RX11, TX11, 39)) rfl rfl rfl rfl (Nat.le_of_ble_eq_true rfl) dX11_layer_4 (fun v5 => ?_)
      refine jo_icmp_ge (pc := 7) dX11_layer_7 (tgt := 33) rfl ?_ ?_
      · refine jo_lv (lv' := [(0, .ref (adr w 306))]) [0] rfl ?_
        exact jo_leaf (by rfl) (h33_0 ())
      · refine jo_aload_n (pc := 10) 0 rfl dX11_layer_10 rfl ?_
        refine jo_iload_n (pc := 11) 1 rfl dX11_layer_11 rfl ?_
        refine jo_iload_n (pc := 12) 2 rfl dX11_layer_12 rfl ?_
        refine jo_cV_J_p (pc := 13) (μ' := mu_X11_of) (fx := f_X11_of σ x0 i4) (As := [.int x0, .int i4]) (c_X11_of hw hN) (ok_X11_of) (ltb rfl) (all3 gw_1530 gw_1532 gw_87) (ik_306 hw hN) (by decide) (q := (RX11, TX11, 39)) rfl rfl rfl rfl (Nat.le_of_ble_eq_true rfl) dX11_layer_13 (fun v6 => ?_)
        refine jo_lconst (pc := 16) dX11_layer_16 (ic_l_0) ?_
        refine jo_lcmp_eq (pc := 17) dX11_layer_17 dX11_layer_18 (tgt := 27) rfl ?_ ?_
        · refine jo_iinc (pc := 27) (lv' := [(2, .int (i4 + 1)), (0, .ref (adr w 306)), (1, .int x0)]) 2 rfl dX11_layer_27 (congrArg (fun z => i4 + z) (ic_i_1)) (ltb rfl) rfl ?_
          refine jo_goto (pc := 30) dX11_layer_30 (tgt := 2) rfl ?_
          refine jo_lv (lv' := [(0, .ref (adr w 306)), (1, .int x0), (2, .int (i4 + 1))]) [1, 2, 0] rfl ?_
          exact jo_leaf (by rfl) (hF2_4 (i4 + 1))
        · refine jo_lv (lv' := [(0, .ref (adr w 306)), (2, .int i4)]) [0, 2] rfl ?_
          exact jo_leaf (by rfl) (h21_2 i4)
theorem c_X11_layer {w : Wd} (hw : WOK w) (hN : wn w = NT) {σ : Mem} {x0 : Int32} : ∀ r, f_X11_layer σ x0 = some r → MC w mu_X11_layer (vI r) [.ref (adr w 306), .int x0] σ σ := mc_ofP ok_X11_layer rfl (Nat.le_of_ble_eq_true rfl) (t_X11_layer hw hN)
abbrev mu_X11_place : MD := (yX11_place, cX11_place, 5, some .int, 1)
theorem ok_X11_place : MOK mu_X11_place 1 := ⟨gw_1810, gw_171, by decide +kernel, ⟨by decide +kernel, by decide +kernel, by decide +kernel⟩, Nat.le_of_ble_eq_true rfl⟩
noncomputable def j_X11_place_75 (σ : Mem) : Option Int32 :=
  gF σ 306 29 (fun (v1 : Int32) => some v1)
noncomputable def j_X11_place_63 (i2 : Int32) (i4 : Int32) : Option (Int32 ⊕ (Unit ⊕ Int32)) :=
  if i4 = 0 then (some (Sum.inl (i2 + 1))) else (some (Sum.inr (Sum.inr i2)))
noncomputable def j_X11_place_56 (i6 : Int32) (b10 : Bool) : Option ((Int32 × Int32) ⊕ Int32) :=
  some (Sum.inl (b2i b10, i6 + 1))
noncomputable def l_X11_place_15 (σ : Mem) (x0 : Int32) (i2 : Int32) (i5 : Int32) (i6 : Int32) : Option ((Int32 × Int32) ⊕ Int32) :=
  (f_X11_n σ).bind (fun (v7 : Int32) => if v7 ≤ i6 then (some (Sum.inr i5)) else (if i5 = 0 then (some (Sum.inr i5)) else (gL σ 319 ((6 * i2) + i6) (fun (v8 : Int64) => (f_X11_of σ x0 i6).bind (fun (v9 : Int64) => (if v8 = v9 then (some true) else (some false) : Option Bool).bind (fun (z10 : Bool) => j_X11_place_56 i6 z10))))))
noncomputable def l_X11_place_2 (σ : Mem) (x0 : Int32) (i2 : Int32) : Option (Int32 ⊕ (Unit ⊕ Int32)) :=
  gF σ 306 29 (fun (v3 : Int32) => if v3 ≤ i2 then (some (Sum.inr (Sum.inl ()))) else ((loopO (fun (z6 : (Int32 × Int32)) => l_X11_place_15 σ x0 i2 z6.1 z6.2) (1, 0) : Option Int32).bind (fun (z4 : Int32) => j_X11_place_63 i2 z4)))
noncomputable def f_X11_place (σ : Mem) (x0 : Int32) : Option Int32 :=
  (loopO (fun (z2 : Int32) => l_X11_place_2 σ x0 z2) 0 : Option (Unit ⊕ Int32)).bind (Sum.elim (fun (z0 : Unit) => j_X11_place_75 σ) some)
theorem t_X11_place {w : Wd} (hw : WOK w) (hN : wn w = NT) {σ : Mem} {x0 : Int32} : JO w mu_X11_place vI σ [(0, .ref (adr w 306)), (1, .int x0)] [] 0 (f_X11_place σ x0) (fun z => some (z, σ)) := by
  unfold f_X11_place
  refine jo_iconst (pc := 0) dX11_place_0 (ic_i_0) ?_
  refine jo_istore_n (pc := 1) (lv' := [(2, .int 0), (0, .ref (adr w 306)), (1, .int x0)]) dX11_place_1 rfl (ltb rfl) rfl ?_
  refine jo_joinS (S := Unit) (fun (z0 : Unit) => σ) (fun (z0 : Unit) => [(0, .ref (adr w 306))]) (fun (z0 : Unit) => []) 75 ?_ (fun h75_0 => ?_)
  · intro _
    show JO w mu_X11_place vI σ [(0, .ref (adr w 306))] [] 75 (j_X11_place_75 σ) _
    unfold j_X11_place_75
    refine jo_aload_n (pc := 75) 0 rfl dX11_place_75 rfl ?_
    refine jo_getf (pc := 76) ok_11_29 (ik_306 hw hN) gw_1325 dX11_place_76 (fun v1 => ?_)
    exact jo_ireturn (pc := 79) rfl rfl dX11_place_79
  · refine jo_lv (lv' := [(0, .ref (adr w 306)), (1, .int x0), (2, .int 0)]) [1, 2, 0] rfl ?_
    refine jo_loop (X := Unit ⊕ Int32) (fun (z2 : Int32) => σ) (fun (z2 : Int32) => [(0, .ref (adr w 306)), (1, .int x0), (2, .int z2)]) (body := (fun (z2 : Int32) => l_X11_place_2 σ x0 z2)) (fun F2_2 hF2_2 s => ?_) 0
    revert s; intro i2
    show JO w mu_X11_place vI σ [(0, .ref (adr w 306)), (1, .int x0), (2, .int i2)] [] 2 (l_X11_place_2 σ x0 i2) _
    unfold l_X11_place_2
    refine jo_iload_n (pc := 2) 2 rfl dX11_place_2 rfl ?_
    refine jo_aload_n (pc := 3) 0 rfl dX11_place_3 rfl ?_
    refine jo_getf (pc := 4) ok_11_29 (ik_306 hw hN) gw_1325 dX11_place_4 (fun v3 => ?_)
    refine jo_icmp_ge (pc := 7) dX11_place_7 (tgt := 75) rfl ?_ ?_
    · refine jo_lv (lv' := [(0, .ref (adr w 306))]) [0] rfl ?_
      exact jo_leaf (by rfl) (h75_0 ())
    · refine jo_iconst (pc := 10) dX11_place_10 (ic_i_1) ?_
      refine jo_istore_n (pc := 11) (lv' := [(3, .int 1), (0, .ref (adr w 306)), (1, .int x0), (2, .int i2)]) dX11_place_11 rfl (ltb rfl) rfl ?_
      refine jo_iconst (pc := 12) dX11_place_12 (ic_i_0) ?_
      refine jo_istore (pc := 13) (lv' := [(4, .int 0), (3, .int 1), (0, .ref (adr w 306)), (1, .int x0), (2, .int i2)]) dX11_place_13 (ltb rfl) rfl ?_
      refine jo_join1 (S := Int32) (fun (z4 : Int32) => σ) (fun (z4 : Int32) => [(0, .ref (adr w 306)), (1, .int x0), (2, .int i2), (3, .int z4)]) (fun (z4 : Int32) => []) 63 ?_ (fun h63_4 => ?_)
      · intro i4
        show JO w mu_X11_place vI σ [(0, .ref (adr w 306)), (1, .int x0), (2, .int i2), (3, .int i4)] [] 63 (j_X11_place_63 i2 i4) _
        unfold j_X11_place_63
        refine jo_iload_n (pc := 63) 3 rfl dX11_place_63 rfl ?_
        refine jo_if_eq (pc := 64) dX11_place_64 (tgt := 69) rfl ?_ ?_
        · refine jo_iinc (pc := 69) (lv' := [(2, .int (i2 + 1)), (0, .ref (adr w 306)), (1, .int x0), (3, .int i4)]) 2 rfl dX11_place_69 (congrArg (fun z => i2 + z) (ic_i_1)) (ltb rfl) rfl ?_
          refine jo_goto (pc := 72) dX11_place_72 (tgt := 2) rfl ?_
          refine jo_lv (lv' := [(0, .ref (adr w 306)), (1, .int x0), (2, .int (i2 + 1))]) [1, 2, 0] rfl ?_
          exact jo_leaf (by rfl) (hF2_2 (i2 + 1))
        · refine jo_iload_n (pc := 67) 2 rfl dX11_place_67 rfl ?_
          exact jo_ireturn (pc := 68) rfl rfl dX11_place_68
      · refine jo_lv (lv' := [(0, .ref (adr w 306)), (1, .int x0), (2, .int i2), (3, .int 1), (4, .int 0)]) [2, 3, 4, 1, 0] rfl ?_
        refine jo_loop (X := Int32) (fun (z6 : (Int32 × Int32)) => σ) (fun (z6 : (Int32 × Int32)) => [(0, .ref (adr w 306)), (1, .int x0), (2, .int i2), (3, .int z6.1), (4, .int z6.2)]) (body := (fun (z6 : (Int32 × Int32)) => l_X11_place_15 σ x0 i2 z6.1 z6.2)) (fun F15_6 hF15_6 s => ?_) (1, 0)
        obtain ⟨i5, i6⟩ := s
        show JO w mu_X11_place vI σ [(0, .ref (adr w 306)), (1, .int x0), (2, .int i2), (3, .int i5), (4, .int i6)] [] 15 (l_X11_place_15 σ x0 i2 i5 i6) _
        unfold l_X11_place_15
        refine jo_iload (pc := 15) 4 rfl dX11_place_15 ?_
        refine jo_aload_n (pc := 17) 0 rfl dX11_place_17 rfl ?_
        refine jo_cV_I_p (pc := 18) (μ' := mu_X11_n) (fx := f_X11_n σ) (As := []) (c_X11_n hw hN) (ok_X11_n) (ltb rfl) (all3 gw_1444 gw_1446 gw_68) (ik_306 hw hN) (by decide) (q := (RX11, TX11, 39)) rfl rfl rfl rfl (Nat.le_of_ble_eq_true rfl) dX11_place_18 (fun v7 => ?_)
        refine jo_icmp_ge (pc := 21) dX11_place_21 (tgt := 63) rfl ?_ ?_
        · refine jo_lv (lv' := [(0, .ref (adr w 306)), (1, .int x0), (2, .int i2), (3, .int i5)]) [0, 1, 2, 3] rfl ?_
          exact jo_leaf (by rfl) (h63_4 i5)
        · refine jo_iload_n (pc := 24) 3 rfl dX11_place_24 rfl ?_
          refine jo_if_eq (pc := 25) dX11_place_25 (tgt := 63) rfl ?_ ?_
          · refine jo_lv (lv' := [(0, .ref (adr w 306)), (1, .int x0), (2, .int i2), (3, .int i5)]) [0, 1, 2, 3] rfl ?_
            exact jo_leaf (by rfl) (h63_4 i5)
          · refine jo_aload_n (pc := 28) 0 rfl dX11_place_28 rfl ?_
            refine jo_getrE (pc := 29) ok_11_28 (ik_306 hw hN) rf_306_28 gw_1324 dX11_place_29 ?_
            refine jo_bipush (pc := 32) dX11_place_32 (ic_b_6) ?_
            refine jo_iload_n (pc := 34) 2 rfl dX11_place_34 rfl ?_
            refine jo_imul (pc := 35) dX11_place_35 ?_
            refine jo_iload (pc := 36) 4 rfl dX11_place_36 ?_
            refine jo_iadd (pc := 38) dX11_place_38 ?_
            refine jo_lald (pc := 39) (ik_319 hw hN) dX11_place_39 (fun v8 => ?_)
            refine jo_aload_n (pc := 40) 0 rfl dX11_place_40 rfl ?_
            refine jo_iload_n (pc := 41) 1 rfl dX11_place_41 rfl ?_
            refine jo_iload (pc := 42) 4 rfl dX11_place_42 ?_
            refine jo_cV_J_p (pc := 44) (μ' := mu_X11_of) (fx := f_X11_of σ x0 i6) (As := [.int x0, .int i6]) (c_X11_of hw hN) (ok_X11_of) (ltb rfl) (all3 gw_1530 gw_1532 gw_87) (ik_306 hw hN) (by decide) (q := (RX11, TX11, 39)) rfl rfl rfl rfl (Nat.le_of_ble_eq_true rfl) dX11_place_44 (fun v9 => ?_)
            refine jo_join1 (S := Bool) (fun (z10 : Bool) => σ) (fun (z10 : Bool) => [(0, .ref (adr w 306)), (1, .int x0), (2, .int i2), (4, .int i6)]) (fun (z10 : Bool) => [.int (b2i z10)]) 56 ?_ (fun h56_10 => ?_)
            · intro b10
              show JO w mu_X11_place vI σ [(0, .ref (adr w 306)), (1, .int x0), (2, .int i2), (4, .int i6)] [.int (b2i b10)] 56 (j_X11_place_56 i6 b10) _
              unfold j_X11_place_56
              refine jo_istore_n (pc := 56) (lv' := [(3, .int (b2i b10)), (0, .ref (adr w 306)), (1, .int x0), (2, .int i2), (4, .int i6)]) dX11_place_56 rfl (ltb rfl) rfl ?_
              refine jo_iinc (pc := 57) (lv' := [(4, .int (i6 + 1)), (3, .int (b2i b10)), (0, .ref (adr w 306)), (1, .int x0), (2, .int i2)]) 4 rfl dX11_place_57 (congrArg (fun z => i6 + z) (ic_i_1)) (ltb rfl) rfl ?_
              refine jo_goto (pc := 60) dX11_place_60 (tgt := 15) rfl ?_
              refine jo_lv (lv' := [(0, .ref (adr w 306)), (1, .int x0), (2, .int i2), (3, .int (b2i b10)), (4, .int (i6 + 1))]) [2, 3, 4, 1, 0] rfl ?_
              exact jo_leaf (by rfl) (hF15_6 (b2i b10, i6 + 1))
            · refine jo_lcmp_ne (pc := 47) dX11_place_47 dX11_place_48 (tgt := 55) rfl ?_ ?_
              · refine jo_iconst (pc := 55) dX11_place_55 (ic_i_0) ?_
                refine jo_lv (lv' := [(0, .ref (adr w 306)), (1, .int x0), (2, .int i2), (4, .int i6)]) [0, 1, 2, 4] rfl ?_
                exact jo_leaf (by rfl) (h56_10 false)
              · refine jo_iconst (pc := 51) dX11_place_51 (ic_i_1) ?_
                refine jo_goto (pc := 52) dX11_place_52 (tgt := 56) rfl ?_
                refine jo_lv (lv' := [(0, .ref (adr w 306)), (1, .int x0), (2, .int i2), (4, .int i6)]) [0, 1, 2, 4] rfl ?_
                exact jo_leaf (by rfl) (h56_10 true)
theorem c_X11_place {w : Wd} (hw : WOK w) (hN : wn w = NT) {σ : Mem} {x0 : Int32} : ∀ r, f_X11_place σ x0 = some r → MC w mu_X11_place (vI r) [.ref (adr w 306), .int x0] σ σ := mc_ofP ok_X11_place rfl (Nat.le_of_ble_eq_true rfl) (t_X11_place hw hN)
abbrev mu_X11_meets : MD := (yX11_meets, cX11_meets, 4, none, 2)
theorem ok_X11_meets : MOK mu_X11_meets 1 := ⟨gw_1806, gw_171, by decide +kernel, ⟨by decide +kernel, by decide +kernel, by decide +kernel⟩, Nat.le_of_ble_eq_true rfl⟩
noncomputable def j_X11_meets_46 (σ3 : Mem) : Option Mem :=
  gF σ3 306 29 (fun (v4 : Int32) => pF σ3 306 29 (v4 + 1) (fun (σ5 : Mem) => some σ5))
noncomputable def l_X11_meets_17 (x0 : Int32) (v1 : Int32) (σ6 : Mem) (i7 : Int32) : Option ((Mem × Int32) ⊕ Mem) :=
  if 6 ≤ i7 then (some (Sum.inr σ6)) else ((f_X11_of σ6 x0 i7).bind (fun (v8 : Int64) => pL σ6 319 ((6 * v1) + i7) v8 (fun (σ9 : Mem) => some (Sum.inl (σ9, i7 + 1)))))
noncomputable def f_X11_meets (σ : Mem) (x0 : Int32) : Option Mem :=
  (f_X11_place σ x0).bind (fun (v1 : Int32) => gF σ 306 29 (fun (v2 : Int32) => if v2 ≤ v1 then ((loopO (fun (z7 : (Mem × Int32)) => l_X11_meets_17 x0 v1 z7.1 z7.2) (σ, 0) : Option Mem).bind (fun (z3 : Mem) => j_X11_meets_46 z3)) else (some σ)))
theorem t_X11_meets {w : Wd} (hw : WOK w) (hN : wn w = NT) {σ : Mem} {x0 : Int32} : JO w mu_X11_meets vV σ [(0, .ref (adr w 306)), (1, .int x0)] [] 0 (f_X11_meets σ x0) (fun z => some ((), z)) := by
  unfold f_X11_meets
  refine jo_aload_n (pc := 0) 0 rfl dX11_meets_0 rfl ?_
  refine jo_iload_n (pc := 1) 1 rfl dX11_meets_1 rfl ?_
  refine jo_cV_I_p (pc := 2) (μ' := mu_X11_place) (fx := f_X11_place σ x0) (As := [.int x0]) (c_X11_place hw hN) (ok_X11_place) (ltb rfl) (all3 gw_1807 gw_1809 gw_133) (ik_306 hw hN) (by decide) (q := (RX11, TX11, 39)) rfl rfl rfl rfl (Nat.le_of_ble_eq_true rfl) dX11_meets_2 (fun v1 => ?_)
  refine jo_istore_n (pc := 5) (lv' := [(2, .int v1), (0, .ref (adr w 306)), (1, .int x0)]) dX11_meets_5 rfl (ltb rfl) rfl ?_
  refine jo_iload_n (pc := 6) 0 rfl dX11_meets_6 rfl ?_
  refine jo_aload_n (pc := 7) 1 rfl dX11_meets_7 rfl ?_
  refine jo_getf (pc := 8) ok_11_29 (ik_306 hw hN) gw_1325 dX11_meets_8 (fun v2 => ?_)
  refine jo_icmp_ge (pc := 11) dX11_meets_11 (tgt := 15) rfl ?_ ?_
  · refine jo_iconst (pc := 15) dX11_meets_15 (ic_i_0) ?_
    refine jo_istore_n (pc := 16) (lv' := [(3, .int 0), (2, .int v1), (0, .ref (adr w 306)), (1, .int x0)]) dX11_meets_16 rfl (ltb rfl) rfl ?_
    refine jo_join1 (S := Mem) (fun (z3 : Mem) => z3) (fun (z3 : Mem) => [(0, .ref (adr w 306))]) (fun (z3 : Mem) => []) 46 ?_ (fun h46_3 => ?_)
    · intro σ3
      show JO w mu_X11_meets vV σ3 [(0, .ref (adr w 306))] [] 46 (j_X11_meets_46 σ3) _
      unfold j_X11_meets_46
      refine jo_aload_n (pc := 46) 0 rfl dX11_meets_46 rfl ?_
      refine jo_aload_n (pc := 47) 0 rfl dX11_meets_47 rfl ?_
      refine jo_getf (pc := 48) ok_11_29 (ik_306 hw hN) gw_1325 dX11_meets_48 (fun v4 => ?_)
      refine jo_iconst (pc := 51) dX11_meets_51 (ic_i_1) ?_
      refine jo_iadd (pc := 52) dX11_meets_52 ?_
      refine jo_putf (pc := 53) ok_11_29 okp_11_29 (ik_306 hw hN) gw_1325 dX11_meets_53 (fun σ5 => ?_)
      exact jo_return (pc := 56) rfl rfl dX11_meets_56
    · refine jo_lv (lv' := [(2, .int v1), (0, .ref (adr w 306)), (1, .int x0), (3, .int 0)]) [1, 2, 3, 0] rfl ?_
      refine jo_loop (X := Mem) (fun (z7 : (Mem × Int32)) => z7.1) (fun (z7 : (Mem × Int32)) => [(2, .int v1), (0, .ref (adr w 306)), (1, .int x0), (3, .int z7.2)]) (body := (fun (z7 : (Mem × Int32)) => l_X11_meets_17 x0 v1 z7.1 z7.2)) (fun F17_7 hF17_7 s => ?_) (σ, 0)
      obtain ⟨σ6, i7⟩ := s
      show JO w mu_X11_meets vV σ6 [(2, .int v1), (0, .ref (adr w 306)), (1, .int x0), (3, .int i7)] [] 17 (l_X11_meets_17 x0 v1 σ6 i7) _
      unfold l_X11_meets_17
      refine jo_iload_n (pc := 17) 3 rfl dX11_meets_17 rfl ?_
      refine jo_bipush (pc := 18) dX11_meets_18 (ic_b_6) ?_
      refine jo_icmp_ge (pc := 20) dX11_meets_20 (tgt := 46) rfl ?_ ?_
      · refine jo_lv (lv' := [(0, .ref (adr w 306))]) [1] rfl ?_
        exact jo_leaf (by rfl) (h46_3 σ6)
      · refine jo_aload_n (pc := 23) 1 rfl dX11_meets_23 rfl ?_
        refine jo_getrE (pc := 24) ok_11_28 (ik_306 hw hN) rf_306_28 gw_1324 dX11_meets_24 ?_
        refine jo_bipush (pc := 27) dX11_meets_27 (ic_b_6) ?_
        refine jo_iload_n (pc := 29) 0 rfl dX11_meets_29 rfl ?_
        refine jo_imul (pc := 30) dX11_meets_30 ?_
        refine jo_iload_n (pc := 31) 3 rfl dX11_meets_31 rfl ?_
        refine jo_iadd (pc := 32) dX11_meets_32 ?_
        refine jo_aload_n (pc := 33) 1 rfl dX11_meets_33 rfl ?_
        refine jo_iload_n (pc := 34) 2 rfl dX11_meets_34 rfl ?_
        refine jo_iload_n (pc := 35) 3 rfl dX11_meets_35 rfl ?_
        refine jo_cV_J_p (pc := 36) (μ' := mu_X11_of) (fx := f_X11_of σ6 x0 i7) (As := [.int x0, .int i7]) (c_X11_of hw hN) (ok_X11_of) (ltb rfl) (all3 gw_1530 gw_1532 gw_87) (ik_306 hw hN) (by decide) (q := (RX11, TX11, 39)) rfl rfl rfl rfl (Nat.le_of_ble_eq_true rfl) dX11_meets_36 (fun v8 => ?_)
        refine jo_last (pc := 39) (ik_319 hw hN) dX11_meets_39 (fun σ9 => ?_)
        refine jo_iinc (pc := 40) (lv' := [(3, .int (i7 + 1)), (2, .int v1), (0, .ref (adr w 306)), (1, .int x0)]) 3 rfl dX11_meets_40 (congrArg (fun z => i7 + z) (ic_i_1)) (ltb rfl) rfl ?_
        refine jo_goto (pc := 43) dX11_meets_43 (tgt := 17) rfl ?_
        refine jo_lv (lv' := [(2, .int v1), (0, .ref (adr w 306)), (1, .int x0), (3, .int (i7 + 1))]) [1, 2, 3, 0] rfl ?_
        exact jo_leaf (by rfl) (hF17_7 (σ9, i7 + 1))
  · exact jo_return (pc := 14) rfl rfl dX11_meets_14
theorem c_X11_meets {w : Wd} (hw : WOK w) (hN : wn w = NT) {σ : Mem} {x0 : Int32} : ∀ σ', f_X11_meets σ x0 = some σ' → MC w mu_X11_meets none [.ref (adr w 306), .int x0] σ σ' := mc_ofV ok_X11_meets rfl (Nat.le_of_ble_eq_true rfl) (t_X11_meets hw hN)
abbrev mu_X11_laysBall : MD := (yX11_laysBall, cX11_laysBall, 8, some .int, 3)
theorem ok_X11_laysBall : MOK mu_X11_laysBall 1 := ⟨gw_1802, gw_171, by decide +kernel, ⟨by decide +kernel, by decide +kernel, by decide +kernel⟩, Nat.le_of_ble_eq_true rfl⟩
noncomputable def j_X11_laysBall_174 (σ4 : Mem) : Option (Int32 × Mem) :=
  gF σ4 306 29 (fun (v5 : Int32) => some (v5, σ4))
noncomputable def j_X11_laysBall_148 (σ6 : Mem) : Option (Mem ⊕ (Int32 × Mem)) :=
  gF σ6 306 29 (fun (v7 : Int32) => some (Sum.inr (v7, σ6)))
noncomputable def j_X11_laysBall_165 (i10 : Int32) (v11 : Int32) (σ12 : Mem) : Option ((Mem × Int32 × Int32) ⊕ (Mem ⊕ (Mem ⊕ (Int32 × Mem)))) :=
  some (Sum.inl (σ12, v11, i10 + 1))
noncomputable def j_X11_laysBall_159 (i14 : Int32) (σ15 : Mem) : Option ((Mem × Int32) ⊕ (Mem ⊕ ((Mem × Int32 × Int32) ⊕ (Mem ⊕ (Mem ⊕ (Int32 × Mem)))))) :=
  some (Sum.inl (σ15, i14 + 1))
noncomputable def j_X11_laysBall_153 (i17 : Int32) (σ20 : Mem) : Option ((Mem × Int32) ⊕ (Mem ⊕ ((Mem × Int32) ⊕ (Mem ⊕ ((Mem × Int32 × Int32) ⊕ (Mem ⊕ (Mem ⊕ (Int32 × Mem)))))))) :=
  some (Sum.inl (σ20, i17 + 1))
noncomputable def j_X11_laysBall_129 (i17 : Int32) (σ21 : Mem) (l22 : Int64) : Option (Mem ⊕ ((Mem × Int32) ⊕ (Mem ⊕ ((Mem × Int32) ⊕ (Mem ⊕ ((Mem × Int32 × Int32) ⊕ (Mem ⊕ (Mem ⊕ (Int32 × Mem))))))))) :=
  (f_X11_timesLetter σ21 20 (i17 / 2) l22).bind (fun (σ23 : Mem) => (f_X11_meets σ23 20).bind (fun (σ24 : Mem) => gF σ24 306 29 (fun (v25 : Int32) => if v25 ≤ 1000 then (some (Sum.inl σ24)) else (some (Sum.inr (Sum.inr (Sum.inr (Sum.inr (Sum.inr (Sum.inr (Sum.inl σ24)))))))))))
noncomputable def j_X11_laysBall_108 (i17 : Int32) (σ21 : Mem) : Option (Mem ⊕ ((Mem × Int32) ⊕ (Mem ⊕ ((Mem × Int32) ⊕ (Mem ⊕ ((Mem × Int32 × Int32) ⊕ (Mem ⊕ (Mem ⊕ (Int32 × Mem))))))))) :=
  nzI 2 (nzI 2 ((if (i17 - i17 / 2 * 2) = 0 then (some 1) else (some (-1)) : Option Int64).bind (fun (z22 : Int64) => j_X11_laysBall_129 i17 σ21 z22)))
noncomputable def l_X11_laysBall_74 (i14 : Int32) (σ26 : Mem) (i27 : Int32) : Option ((Mem × Int32) ⊕ Mem) :=
  if 6 ≤ i27 then (some (Sum.inr σ26)) else (gL σ26 319 ((6 * i14) + i27) (fun (v28 : Int64) => (f_X11_puts σ26 20 i27 v28).bind (fun (σ29 : Mem) => some (Sum.inl (σ29, i27 + 1)))))
noncomputable def l_X11_laysBall_45 (i14 : Int32) (σ16 : Mem) (i17 : Int32) : Option ((Mem × Int32) ⊕ (Mem ⊕ ((Mem × Int32) ⊕ (Mem ⊕ ((Mem × Int32 × Int32) ⊕ (Mem ⊕ (Mem ⊕ (Int32 × Mem)))))))) :=
  (f_X11_n σ16).bind (fun (v18 : Int32) => if (2 * v18) ≤ i17 then (some (Sum.inr (Sum.inl σ16))) else (nzI 2 ((f_X11_weight σ16 (i17 / 2)).bind (fun (v19 : Int32) => (if v19 ≤ 1 then ((loopO (fun (z27 : (Mem × Int32)) => l_X11_laysBall_74 i14 z27.1 z27.2) (σ16, 0) : Option Mem).bind (fun (z21 : Mem) => j_X11_laysBall_108 i17 z21)) else (some (Sum.inl σ16)) : Option (Mem ⊕ ((Mem × Int32) ⊕ (Mem ⊕ ((Mem × Int32) ⊕ (Mem ⊕ ((Mem × Int32 × Int32) ⊕ (Mem ⊕ (Mem ⊕ (Int32 × Mem)))))))))).bind (Sum.elim (fun (z20 : Mem) => j_X11_laysBall_153 i17 z20) some)))))
noncomputable def l_X11_laysBall_35 (v11 : Int32) (σ13 : Mem) (i14 : Int32) : Option ((Mem × Int32) ⊕ (Mem ⊕ ((Mem × Int32 × Int32) ⊕ (Mem ⊕ (Mem ⊕ (Int32 × Mem)))))) :=
  if v11 ≤ i14 then (some (Sum.inr (Sum.inl σ13))) else ((loopO (fun (z17 : (Mem × Int32)) => l_X11_laysBall_45 i14 z17.1 z17.2) (σ13, 0) : Option (Mem ⊕ ((Mem × Int32) ⊕ (Mem ⊕ ((Mem × Int32 × Int32) ⊕ (Mem ⊕ (Mem ⊕ (Int32 × Mem)))))))).bind (Sum.elim (fun (z15 : Mem) => j_X11_laysBall_159 i14 z15) some))
noncomputable def l_X11_laysBall_21 (x0 : Int32) (σ8 : Mem) (i9 : Int32) (i10 : Int32) : Option ((Mem × Int32 × Int32) ⊕ (Mem ⊕ (Mem ⊕ (Int32 × Mem)))) :=
  if x0 ≤ i10 then (some (Sum.inr (Sum.inr (Sum.inl σ8)))) else (gF σ8 306 29 (fun (v11 : Int32) => (loopO (fun (z14 : (Mem × Int32)) => l_X11_laysBall_35 v11 z14.1 z14.2) (σ8, i9) : Option (Mem ⊕ ((Mem × Int32 × Int32) ⊕ (Mem ⊕ (Mem ⊕ (Int32 × Mem)))))).bind (Sum.elim (fun (z12 : Mem) => j_X11_laysBall_165 i10 v11 z12) some)))
noncomputable def f_X11_laysBall (σ : Mem) (x0 : Int32) : Option (Int32 × Mem) :=
  pF σ 306 29 0 (fun (σ1 : Mem) => (f_X11_ones σ1 20).bind (fun (σ2 : Mem) => (f_X11_meets σ2 20).bind (fun (σ3 : Mem) => ((loopO (fun (z10 : (Mem × Int32 × Int32)) => l_X11_laysBall_21 x0 z10.1 z10.2.1 z10.2.2) (σ3, 0, 0) : Option (Mem ⊕ (Mem ⊕ (Int32 × Mem)))).bind (Sum.elim (fun (z6 : Mem) => j_X11_laysBall_148 z6) some) : Option (Mem ⊕ (Int32 × Mem))).bind (Sum.elim (fun (z4 : Mem) => j_X11_laysBall_174 z4) some))))
theorem t_X11_laysBall {w : Wd} (hw : WOK w) (hN : wn w = NT) {σ : Mem} {x0 : Int32} : JO w mu_X11_laysBall vI σ [(0, .ref (adr w 306)), (1, .int x0)] [] 0 (f_X11_laysBall σ x0) some := by
  unfold f_X11_laysBall
  refine jo_aload_n (pc := 0) 0 rfl dX11_laysBall_0 rfl ?_
  refine jo_iconst (pc := 1) dX11_laysBall_1 (ic_i_0) ?_
  refine jo_putf (pc := 2) ok_11_29 okp_11_29 (ik_306 hw hN) gw_1325 dX11_laysBall_2 (fun σ1 => ?_)
  refine jo_aload_n (pc := 5) 0 rfl dX11_laysBall_5 rfl ?_
  refine jo_bipush (pc := 6) dX11_laysBall_6 (ic_b_20) ?_
  refine jo_cV_V_i (pc := 8) (μ' := mu_X11_ones) (fx := f_X11_ones σ1 20) (As := [.int 20]) (c_X11_ones hw hN) (ok_X11_ones) (ltb rfl) (all3 gw_1590 gw_1592 gw_99) (ik_306 hw hN) (by decide) (q := (RX11, TX11, 39)) rfl rfl rfl rfl (Nat.le_of_ble_eq_true rfl) dX11_laysBall_8 (fun σ2 => ?_)
  refine jo_aload_n (pc := 11) 0 rfl dX11_laysBall_11 rfl ?_
  refine jo_bipush (pc := 12) dX11_laysBall_12 (ic_b_20) ?_
  refine jo_cV_V_i (pc := 14) (μ' := mu_X11_meets) (fx := f_X11_meets σ2 20) (As := [.int 20]) (c_X11_meets hw hN) (ok_X11_meets) (ltb rfl) (all3 gw_1803 gw_1805 gw_132) (ik_306 hw hN) (by decide) (q := (RX11, TX11, 39)) rfl rfl rfl rfl (Nat.le_of_ble_eq_true rfl) dX11_laysBall_14 (fun σ3 => ?_)
  refine jo_iconst (pc := 17) dX11_laysBall_17 (ic_i_0) ?_
  refine jo_istore_n (pc := 18) (lv' := [(2, .int 0), (0, .ref (adr w 306)), (1, .int x0)]) dX11_laysBall_18 rfl (ltb rfl) rfl ?_
  refine jo_iconst (pc := 19) dX11_laysBall_19 (ic_i_0) ?_
  refine jo_istore_n (pc := 20) (lv' := [(3, .int 0), (2, .int 0), (0, .ref (adr w 306)), (1, .int x0)]) dX11_laysBall_20 rfl (ltb rfl) rfl ?_
  refine jo_joinS (S := Mem) (fun (z4 : Mem) => z4) (fun (z4 : Mem) => [(0, .ref (adr w 306))]) (fun (z4 : Mem) => []) 174 ?_ (fun h174_4 => ?_)
  · intro σ4
    show JO w mu_X11_laysBall vI σ4 [(0, .ref (adr w 306))] [] 174 (j_X11_laysBall_174 σ4) _
    unfold j_X11_laysBall_174
    refine jo_aload_n (pc := 174) 0 rfl dX11_laysBall_174 rfl ?_
    refine jo_getf (pc := 175) ok_11_29 (ik_306 hw hN) gw_1325 dX11_laysBall_175 (fun v5 => ?_)
    exact jo_ireturn (pc := 178) rfl rfl dX11_laysBall_178
  · refine jo_joinS (S := Mem) (fun (z6 : Mem) => z6) (fun (z6 : Mem) => [(0, .ref (adr w 306))]) (fun (z6 : Mem) => []) 148 ?_ (fun h148_6 => ?_)
    · intro σ6
      show JO w mu_X11_laysBall vI σ6 [(0, .ref (adr w 306))] [] 148 (j_X11_laysBall_148 σ6) _
      unfold j_X11_laysBall_148
      refine jo_aload_n (pc := 148) 0 rfl dX11_laysBall_148 rfl ?_
      refine jo_getf (pc := 149) ok_11_29 (ik_306 hw hN) gw_1325 dX11_laysBall_149 (fun v7 => ?_)
      exact jo_ireturn (pc := 152) rfl rfl dX11_laysBall_152
    · refine jo_lv (lv' := [(0, .ref (adr w 306)), (1, .int x0), (2, .int 0), (3, .int 0)]) [2, 3, 1, 0] rfl ?_
      refine jo_loop (X := Mem ⊕ (Mem ⊕ (Int32 × Mem))) (fun (z10 : (Mem × Int32 × Int32)) => z10.1) (fun (z10 : (Mem × Int32 × Int32)) => [(0, .ref (adr w 306)), (1, .int x0), (2, .int z10.2.1), (3, .int z10.2.2)]) (body := (fun (z10 : (Mem × Int32 × Int32)) => l_X11_laysBall_21 x0 z10.1 z10.2.1 z10.2.2)) (fun F21_10 hF21_10 s => ?_) (σ3, 0, 0)
      obtain ⟨σ8, i9, i10⟩ := s
      show JO w mu_X11_laysBall vI σ8 [(0, .ref (adr w 306)), (1, .int x0), (2, .int i9), (3, .int i10)] [] 21 (l_X11_laysBall_21 x0 σ8 i9 i10) _
      unfold l_X11_laysBall_21
      refine jo_iload_n (pc := 21) 3 rfl dX11_laysBall_21 rfl ?_
      refine jo_iload_n (pc := 22) 1 rfl dX11_laysBall_22 rfl ?_
      refine jo_icmp_ge (pc := 23) dX11_laysBall_23 (tgt := 174) rfl ?_ ?_
      · refine jo_lv (lv' := [(0, .ref (adr w 306))]) [0] rfl ?_
        exact jo_leaf (by rfl) (h174_4 σ8)
      · refine jo_aload_n (pc := 26) 0 rfl dX11_laysBall_26 rfl ?_
        refine jo_getf (pc := 27) ok_11_29 (ik_306 hw hN) gw_1325 dX11_laysBall_27 (fun v11 => ?_)
        refine jo_istore (pc := 30) (lv' := [(4, .int v11), (0, .ref (adr w 306)), (1, .int x0), (2, .int i9), (3, .int i10)]) dX11_laysBall_30 (ltb rfl) rfl ?_
        refine jo_iload_n (pc := 32) 3 rfl dX11_laysBall_32 rfl ?_
        refine jo_istore (pc := 33) (lv' := [(5, .int i9), (4, .int v11), (0, .ref (adr w 306)), (1, .int x0), (2, .int i9), (3, .int i10)]) dX11_laysBall_33 (ltb rfl) rfl ?_
        refine jo_joinS (S := Mem) (fun (z12 : Mem) => z12) (fun (z12 : Mem) => [(4, .int v11), (0, .ref (adr w 306)), (1, .int x0), (3, .int i10)]) (fun (z12 : Mem) => []) 165 ?_ (fun h165_12 => ?_)
        · intro σ12
          show JO w mu_X11_laysBall vI σ12 [(4, .int v11), (0, .ref (adr w 306)), (1, .int x0), (3, .int i10)] [] 165 (j_X11_laysBall_165 i10 v11 σ12) _
          unfold j_X11_laysBall_165
          refine jo_iload (pc := 165) 0 rfl dX11_laysBall_165 ?_
          refine jo_istore_n (pc := 167) (lv' := [(2, .int v11), (4, .int v11), (0, .ref (adr w 306)), (1, .int x0), (3, .int i10)]) dX11_laysBall_167 rfl (ltb rfl) rfl ?_
          refine jo_iinc (pc := 168) (lv' := [(3, .int (i10 + 1)), (2, .int v11), (4, .int v11), (0, .ref (adr w 306)), (1, .int x0)]) 4 rfl dX11_laysBall_168 (congrArg (fun z => i10 + z) (ic_i_1)) (ltb rfl) rfl ?_
          refine jo_goto (pc := 171) dX11_laysBall_171 (tgt := 21) rfl ?_
          refine jo_lv (lv' := [(0, .ref (adr w 306)), (1, .int x0), (2, .int v11), (3, .int (i10 + 1))]) [3, 4, 1, 0] rfl ?_
          exact jo_leaf (by rfl) (hF21_10 (σ12, v11, i10 + 1))
        · refine jo_lv (lv' := [(4, .int v11), (0, .ref (adr w 306)), (1, .int x0), (3, .int i10), (5, .int i9)]) [1, 2, 3, 5, 0] rfl ?_
          refine jo_loop (X := Mem ⊕ ((Mem × Int32 × Int32) ⊕ (Mem ⊕ (Mem ⊕ (Int32 × Mem))))) (fun (z14 : (Mem × Int32)) => z14.1) (fun (z14 : (Mem × Int32)) => [(4, .int v11), (0, .ref (adr w 306)), (1, .int x0), (3, .int i10), (5, .int z14.2)]) (body := (fun (z14 : (Mem × Int32)) => l_X11_laysBall_35 v11 z14.1 z14.2)) (fun F35_14 hF35_14 s => ?_) (σ8, i9)
          obtain ⟨σ13, i14⟩ := s
          show JO w mu_X11_laysBall vI σ13 [(4, .int v11), (0, .ref (adr w 306)), (1, .int x0), (3, .int i10), (5, .int i14)] [] 35 (l_X11_laysBall_35 v11 σ13 i14) _
          unfold l_X11_laysBall_35
          refine jo_iload (pc := 35) 4 rfl dX11_laysBall_35 ?_
          refine jo_iload (pc := 37) 0 rfl dX11_laysBall_37 ?_
          refine jo_icmp_ge (pc := 39) dX11_laysBall_39 (tgt := 165) rfl ?_ ?_
          · refine jo_lv (lv' := [(4, .int v11), (0, .ref (adr w 306)), (1, .int x0), (3, .int i10)]) [0, 1, 2, 3] rfl ?_
            exact jo_leaf (by rfl) (h165_12 σ13)
          · refine jo_iconst (pc := 42) dX11_laysBall_42 (ic_i_0) ?_
            refine jo_istore (pc := 43) (lv' := [(6, .int 0), (4, .int v11), (0, .ref (adr w 306)), (1, .int x0), (3, .int i10), (5, .int i14)]) dX11_laysBall_43 (ltb rfl) rfl ?_
            refine jo_joinS (S := Mem) (fun (z15 : Mem) => z15) (fun (z15 : Mem) => [(4, .int v11), (0, .ref (adr w 306)), (1, .int x0), (3, .int i10), (5, .int i14)]) (fun (z15 : Mem) => []) 159 ?_ (fun h159_15 => ?_)
            · intro σ15
              show JO w mu_X11_laysBall vI σ15 [(4, .int v11), (0, .ref (adr w 306)), (1, .int x0), (3, .int i10), (5, .int i14)] [] 159 (j_X11_laysBall_159 i14 σ15) _
              unfold j_X11_laysBall_159
              refine jo_iinc (pc := 159) (lv' := [(5, .int (i14 + 1)), (4, .int v11), (0, .ref (adr w 306)), (1, .int x0), (3, .int i10)]) 4 rfl dX11_laysBall_159 (congrArg (fun z => i14 + z) (ic_i_1)) (ltb rfl) rfl ?_
              refine jo_goto (pc := 162) dX11_laysBall_162 (tgt := 35) rfl ?_
              refine jo_lv (lv' := [(4, .int v11), (0, .ref (adr w 306)), (1, .int x0), (3, .int i10), (5, .int (i14 + 1))]) [1, 2, 3, 4, 0] rfl ?_
              exact jo_leaf (by rfl) (hF35_14 (σ15, i14 + 1))
            · refine jo_lv (lv' := [(4, .int v11), (0, .ref (adr w 306)), (1, .int x0), (3, .int i10), (5, .int i14), (6, .int 0)]) [1, 2, 3, 4, 5, 0] rfl ?_
              refine jo_loop (X := Mem ⊕ ((Mem × Int32) ⊕ (Mem ⊕ ((Mem × Int32 × Int32) ⊕ (Mem ⊕ (Mem ⊕ (Int32 × Mem))))))) (fun (z17 : (Mem × Int32)) => z17.1) (fun (z17 : (Mem × Int32)) => [(4, .int v11), (0, .ref (adr w 306)), (1, .int x0), (3, .int i10), (5, .int i14), (6, .int z17.2)]) (body := (fun (z17 : (Mem × Int32)) => l_X11_laysBall_45 i14 z17.1 z17.2)) (fun F45_17 hF45_17 s => ?_) (σ13, 0)
              obtain ⟨σ16, i17⟩ := s
              show JO w mu_X11_laysBall vI σ16 [(4, .int v11), (0, .ref (adr w 306)), (1, .int x0), (3, .int i10), (5, .int i14), (6, .int i17)] [] 45 (l_X11_laysBall_45 i14 σ16 i17) _
              unfold l_X11_laysBall_45
              refine jo_iload (pc := 45) 5 rfl dX11_laysBall_45 ?_
              refine jo_iconst (pc := 47) dX11_laysBall_47 (ic_i_2) ?_
              refine jo_aload_n (pc := 48) 1 rfl dX11_laysBall_48 rfl ?_
              refine jo_cV_I_p (pc := 49) (μ' := mu_X11_n) (fx := f_X11_n σ16) (As := []) (c_X11_n hw hN) (ok_X11_n) (ltb rfl) (all3 gw_1444 gw_1446 gw_68) (ik_306 hw hN) (by decide) (q := (RX11, TX11, 39)) rfl rfl rfl rfl (Nat.le_of_ble_eq_true rfl) dX11_laysBall_49 (fun v18 => ?_)
              refine jo_imul (pc := 52) dX11_laysBall_52 ?_
              refine jo_icmp_ge (pc := 53) dX11_laysBall_53 (tgt := 159) rfl ?_ ?_
              · refine jo_lv (lv' := [(4, .int v11), (0, .ref (adr w 306)), (1, .int x0), (3, .int i10), (5, .int i14)]) [0, 1, 2, 3, 4] rfl ?_
                exact jo_leaf (by rfl) (h159_15 σ16)
              · refine jo_aload_n (pc := 56) 1 rfl dX11_laysBall_56 rfl ?_
                refine jo_iload (pc := 57) 5 rfl dX11_laysBall_57 ?_
                refine jo_iconst (pc := 59) dX11_laysBall_59 (ic_i_2) ?_
                refine jo_idiv (pc := 60) dX11_laysBall_60 ?_
                refine jo_cV_I_p (pc := 61) (μ' := mu_X11_weight) (fx := f_X11_weight σ16 (i17 / 2)) (As := [.int (i17 / 2)]) (c_X11_weight hw hN) (ok_X11_weight) (ltb rfl) (all3 gw_1449 gw_1451 gw_69) (ik_306 hw hN) (by decide) (q := (RX11, TX11, 39)) rfl rfl rfl rfl (Nat.le_of_ble_eq_true rfl) dX11_laysBall_61 (fun v19 => ?_)
                refine jo_iconst (pc := 64) dX11_laysBall_64 (ic_i_1) ?_
                refine jo_joinS (S := Mem) (fun (z20 : Mem) => z20) (fun (z20 : Mem) => [(4, .int v11), (0, .ref (adr w 306)), (1, .int x0), (3, .int i10), (5, .int i14), (6, .int i17)]) (fun (z20 : Mem) => []) 153 ?_ (fun h153_20 => ?_)
                · intro σ20
                  show JO w mu_X11_laysBall vI σ20 [(4, .int v11), (0, .ref (adr w 306)), (1, .int x0), (3, .int i10), (5, .int i14), (6, .int i17)] [] 153 (j_X11_laysBall_153 i17 σ20) _
                  unfold j_X11_laysBall_153
                  refine jo_iinc (pc := 153) (lv' := [(6, .int (i17 + 1)), (4, .int v11), (0, .ref (adr w 306)), (1, .int x0), (3, .int i10), (5, .int i14)]) 5 rfl dX11_laysBall_153 (congrArg (fun z => i17 + z) (ic_i_1)) (ltb rfl) rfl ?_
                  refine jo_goto (pc := 156) dX11_laysBall_156 (tgt := 45) rfl ?_
                  refine jo_lv (lv' := [(4, .int v11), (0, .ref (adr w 306)), (1, .int x0), (3, .int i10), (5, .int i14), (6, .int (i17 + 1))]) [1, 2, 3, 4, 5, 0] rfl ?_
                  exact jo_leaf (by rfl) (hF45_17 (σ20, i17 + 1))
                · refine jo_icmp_le (pc := 65) dX11_laysBall_65 (tgt := 71) rfl ?_ ?_
                  · refine jo_iconst (pc := 71) dX11_laysBall_71 (ic_i_0) ?_
                    refine jo_istore (pc := 72) (lv' := [(7, .int 0), (4, .int v11), (0, .ref (adr w 306)), (1, .int x0), (3, .int i10), (5, .int i14), (6, .int i17)]) dX11_laysBall_72 (ltb rfl) rfl ?_
                    refine jo_join1 (S := Mem) (fun (z21 : Mem) => z21) (fun (z21 : Mem) => [(4, .int v11), (0, .ref (adr w 306)), (1, .int x0), (3, .int i10), (5, .int i14), (6, .int i17)]) (fun (z21 : Mem) => []) 108 ?_ (fun h108_21 => ?_)
                    · intro σ21
                      show JO w mu_X11_laysBall vI σ21 [(4, .int v11), (0, .ref (adr w 306)), (1, .int x0), (3, .int i10), (5, .int i14), (6, .int i17)] [] 108 (j_X11_laysBall_108 i17 σ21) _
                      unfold j_X11_laysBall_108
                      refine jo_aload_n (pc := 108) 1 rfl dX11_laysBall_108 rfl ?_
                      refine jo_bipush (pc := 109) dX11_laysBall_109 (ic_b_20) ?_
                      refine jo_iload (pc := 111) 5 rfl dX11_laysBall_111 ?_
                      refine jo_iconst (pc := 113) dX11_laysBall_113 (ic_i_2) ?_
                      refine jo_idiv (pc := 114) dX11_laysBall_114 ?_
                      refine jo_iload (pc := 115) 5 rfl dX11_laysBall_115 ?_
                      refine jo_iconst (pc := 117) dX11_laysBall_117 (ic_i_2) ?_
                      refine jo_irem (pc := 118) dX11_laysBall_118 ?_
                      refine jo_join1 (S := Int64) (fun (z22 : Int64) => σ21) (fun (z22 : Int64) => [(4, .int v11), (0, .ref (adr w 306)), (1, .int x0), (3, .int i10), (5, .int i14), (6, .int i17)]) (fun (z22 : Int64) => [.long z22, .int (i17 / 2), .int 20, .ref (adr w 306)]) 129 ?_ (fun h129_22 => ?_)
                      · intro l22
                        show JO w mu_X11_laysBall vI σ21 [(4, .int v11), (0, .ref (adr w 306)), (1, .int x0), (3, .int i10), (5, .int i14), (6, .int i17)] [.long l22, .int (i17 / 2), .int 20, .ref (adr w 306)] 129 (j_X11_laysBall_129 i17 σ21 l22) _
                        unfold j_X11_laysBall_129
                        refine jo_cV_V_i (pc := 129) (μ' := mu_X11_timesLetter) (fx := f_X11_timesLetter σ21 20 (i17 / 2) l22) (As := [.int 20, .int (i17 / 2), .long l22]) (c_X11_timesLetter hw hN) (ok_X11_timesLetter) (ltb rfl) (all3 gw_1534 gw_1536 gw_88) (ik_306 hw hN) (by decide) (q := (RX11, TX11, 39)) rfl rfl rfl rfl (Nat.le_of_ble_eq_true rfl) dX11_laysBall_129 (fun σ23 => ?_)
                        refine jo_aload_n (pc := 132) 1 rfl dX11_laysBall_132 rfl ?_
                        refine jo_bipush (pc := 133) dX11_laysBall_133 (ic_b_20) ?_
                        refine jo_cV_V_i (pc := 135) (μ' := mu_X11_meets) (fx := f_X11_meets σ23 20) (As := [.int 20]) (c_X11_meets hw hN) (ok_X11_meets) (ltb rfl) (all3 gw_1803 gw_1805 gw_132) (ik_306 hw hN) (by decide) (q := (RX11, TX11, 39)) rfl rfl rfl rfl (Nat.le_of_ble_eq_true rfl) dX11_laysBall_135 (fun σ24 => ?_)
                        refine jo_aload_n (pc := 138) 1 rfl dX11_laysBall_138 rfl ?_
                        refine jo_getf (pc := 139) ok_11_29 (ik_306 hw hN) gw_1325 dX11_laysBall_139 (fun v25 => ?_)
                        refine jo_sipush (pc := 142) dX11_laysBall_142 (ic_s_1000) ?_
                        refine jo_icmp_le (pc := 145) dX11_laysBall_145 (tgt := 153) rfl ?_ ?_
                        · exact jo_leaf (by rfl) (h153_20 σ24)
                        · refine jo_lv (lv' := [(0, .ref (adr w 306))]) [1] rfl ?_
                          exact jo_leaf (by rfl) (h148_6 σ24)
                      · refine jo_if_ne (pc := 119) dX11_laysBall_119 (tgt := 126) rfl ?_ ?_
                        · refine jo_ldc2 (pc := 126) dX11_laysBall_126 gw_1555 ?_
                          exact jo_leaf (by rfl) (h129_22 (-1))
                        · refine jo_lconst (pc := 122) dX11_laysBall_122 (ic_l_1) ?_
                          refine jo_goto (pc := 123) dX11_laysBall_123 (tgt := 129) rfl ?_
                          exact jo_leaf (by rfl) (h129_22 1)
                    · refine jo_lv (lv' := [(4, .int v11), (0, .ref (adr w 306)), (1, .int x0), (3, .int i10), (5, .int i14), (6, .int i17), (7, .int 0)]) [1, 2, 3, 4, 5, 6, 0] rfl ?_
                      refine jo_loop (X := Mem) (fun (z27 : (Mem × Int32)) => z27.1) (fun (z27 : (Mem × Int32)) => [(4, .int v11), (0, .ref (adr w 306)), (1, .int x0), (3, .int i10), (5, .int i14), (6, .int i17), (7, .int z27.2)]) (body := (fun (z27 : (Mem × Int32)) => l_X11_laysBall_74 i14 z27.1 z27.2)) (fun F74_27 hF74_27 s => ?_) (σ16, 0)
                      obtain ⟨σ26, i27⟩ := s
                      show JO w mu_X11_laysBall vI σ26 [(4, .int v11), (0, .ref (adr w 306)), (1, .int x0), (3, .int i10), (5, .int i14), (6, .int i17), (7, .int i27)] [] 74 (l_X11_laysBall_74 i14 σ26 i27) _
                      unfold l_X11_laysBall_74
                      refine jo_iload (pc := 74) 6 rfl dX11_laysBall_74 ?_
                      refine jo_bipush (pc := 76) dX11_laysBall_76 (ic_b_6) ?_
                      refine jo_icmp_ge (pc := 78) dX11_laysBall_78 (tgt := 108) rfl ?_ ?_
                      · refine jo_lv (lv' := [(4, .int v11), (0, .ref (adr w 306)), (1, .int x0), (3, .int i10), (5, .int i14), (6, .int i17)]) [0, 1, 2, 3, 4, 5] rfl ?_
                        exact jo_leaf (by rfl) (h108_21 σ26)
                      · refine jo_aload_n (pc := 81) 1 rfl dX11_laysBall_81 rfl ?_
                        refine jo_bipush (pc := 82) dX11_laysBall_82 (ic_b_20) ?_
                        refine jo_iload (pc := 84) 6 rfl dX11_laysBall_84 ?_
                        refine jo_aload_n (pc := 86) 1 rfl dX11_laysBall_86 rfl ?_
                        refine jo_getrE (pc := 87) ok_11_28 (ik_306 hw hN) rf_306_28 gw_1324 dX11_laysBall_87 ?_
                        refine jo_bipush (pc := 90) dX11_laysBall_90 (ic_b_6) ?_
                        refine jo_iload (pc := 92) 4 rfl dX11_laysBall_92 ?_
                        refine jo_imul (pc := 94) dX11_laysBall_94 ?_
                        refine jo_iload (pc := 95) 6 rfl dX11_laysBall_95 ?_
                        refine jo_iadd (pc := 97) dX11_laysBall_97 ?_
                        refine jo_lald (pc := 98) (ik_319 hw hN) dX11_laysBall_98 (fun v28 => ?_)
                        refine jo_cV_V_i (pc := 99) (μ' := mu_X11_puts) (fx := f_X11_puts σ26 20 i27 v28) (As := [.int 20, .int i27, .long v28]) (c_X11_puts hw hN) (ok_X11_puts) (ltb rfl) (all3 gw_1522 gw_1524 gw_85) (ik_306 hw hN) (by decide) (q := (RX11, TX11, 39)) rfl rfl rfl rfl (Nat.le_of_ble_eq_true rfl) dX11_laysBall_99 (fun σ29 => ?_)
                        refine jo_iinc (pc := 102) (lv' := [(7, .int (i27 + 1)), (4, .int v11), (0, .ref (adr w 306)), (1, .int x0), (3, .int i10), (5, .int i14), (6, .int i17)]) 6 rfl dX11_laysBall_102 (congrArg (fun z => i27 + z) (ic_i_1)) (ltb rfl) rfl ?_
                        refine jo_goto (pc := 105) dX11_laysBall_105 (tgt := 74) rfl ?_
                        refine jo_lv (lv' := [(4, .int v11), (0, .ref (adr w 306)), (1, .int x0), (3, .int i10), (5, .int i14), (6, .int i17), (7, .int (i27 + 1))]) [1, 2, 3, 4, 5, 6, 0] rfl ?_
                        exact jo_leaf (by rfl) (hF74_27 (σ29, i27 + 1))
                  · refine jo_goto (pc := 68) dX11_laysBall_68 (tgt := 153) rfl ?_
                    exact jo_leaf (by rfl) (h153_20 σ16)
theorem c_X11_laysBall {w : Wd} (hw : WOK w) (hN : wn w = NT) {σ : Mem} {x0 : Int32} : ∀ r σ', f_X11_laysBall σ x0 = some (r, σ') → MC w mu_X11_laysBall (vI r) [.ref (adr w 306), .int x0] σ σ' := mc_of ok_X11_laysBall rfl (Nat.le_of_ble_eq_true rfl) (t_X11_laysBall hw hN)
