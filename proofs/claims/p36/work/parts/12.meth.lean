abbrev mu_X6_mayBe : MD := (yX6_mayBe, cX6_mayBe, 5, some .boolean, 1)
theorem ok_X6_mayBe : MOK mu_X6_mayBe 4 := ⟨gw_697, gw_22, (by decide +kernel : plainFor yX6_mayBe = true), ⟨(by decide +kernel : yX6_mayBe.cls ≠ "java/lang/invoke/MethodHandle"), (by decide +kernel : yX6_mayBe.cls ≠ "java/lang/invoke/VarHandle"), (by decide +kernel : (parseMethodDescriptor yX6_mayBe.desc).map (fun d => d.parameters.length) = some 4)⟩, Nat.le_of_ble_eq_true rfl⟩
noncomputable def j_X6_mayBe_50  : Option Bool :=
  some true
noncomputable def f_X6_mayBe (σ : Mem) (a : Nat) (x0 : Int32) (x1 : Int32) (x2 : Int32) (x3 : Int32) : Option Bool :=
  (f_X6_isTail σ a x0 x1 x2).bind (fun (b1 : Bool) => if b1 then if x3 < 0 then (some false) else (if x3 ≤ 3 then ((if x3 = 0 then (some (Sum.inl ())) else (gI σ (rf a 1) x2 (fun (v2 : Int32) => gI σ (rf a 1) x1 (fun (v3 : Int32) => gI σ (rf a 1) x0 (fun (v4 : Int32) => if v2 < (v3 + v4) then (some (Sum.inr false)) else (some (Sum.inl ())))))) : Option (Unit ⊕ Bool)).bind (Sum.elim (fun (z1 : Unit) => j_X6_mayBe_50) some)) else (some false)) else some false)
theorem t_X6_mayBe {w : Wd} (hw : WOK w) {σ : Mem} {a : Nat} {x0 : Int32} {x1 : Int32} {x2 : Int32} {x3 : Int32} (ha : isk w a 6) : JO w mu_X6_mayBe vB σ [(0, .ref (adr w a)), (1, .int x0), (2, .int x1), (3, .int x2), (4, .int x3)] [] 0 (f_X6_mayBe σ a x0 x1 x2 x3) (fun z => some (z, σ)) := by
  unfold f_X6_mayBe
  refine jo_aload_n (pc := 0) 0 rfl dX6_mayBe_0 rfl ?_
  refine jo_iload_n (pc := 1) 1 rfl dX6_mayBe_1 rfl ?_
  refine jo_iload_n (pc := 2) 2 rfl dX6_mayBe_2 rfl ?_
  refine jo_iload_n (pc := 3) 3 rfl dX6_mayBe_3 rfl ?_
  refine jo_cV_Z_p (pc := 4) (μ' := mu_X6_isTail) (fx := f_X6_isTail σ a x0 x1 x2) (As := [.int x0, .int x1, .int x2]) (c_X6_isTail hw (ha)) (ok_X6_isTail) (ltb rfl) (all3 gw_375 gw_376 gw_377) (ha) (by decide) (q := (RX6, TX6, 3)) rfl rfl rfl rfl (Nat.le_of_ble_eq_true rfl) dX6_mayBe_4 (fun b1 => ?_)
  refine jo_ifz_eq (pc := 7) dX6_mayBe_7 (tgt := 21) rfl ?_ ?_
  · refine jo_iconst (pc := 21) dX6_mayBe_21 (ic_i_0) ?_
    exact jo_breturn (pc := 22) (b := false) rfl rfl dX6_mayBe_22
  · refine jo_iload (pc := 10) 4 rfl dX6_mayBe_10 ?_
    refine jo_if_lt (pc := 12) dX6_mayBe_12 (tgt := 21) rfl ?_ ?_
    · refine jo_iconst (pc := 21) dX6_mayBe_21 (ic_i_0) ?_
      exact jo_breturn (pc := 22) (b := false) rfl rfl dX6_mayBe_22
    · refine jo_iload (pc := 15) 4 rfl dX6_mayBe_15 ?_
      refine jo_iconst (pc := 17) dX6_mayBe_17 (ic_i_3) ?_
      refine jo_icmp_le (pc := 18) dX6_mayBe_18 (tgt := 23) rfl ?_ ?_
      · refine jo_iload (pc := 23) 4 rfl dX6_mayBe_23 ?_
        refine jo_joinS (S := Unit) (fun (z1 : Unit) => σ) (fun (z1 : Unit) => []) (fun (z1 : Unit) => []) 50 ?_ (fun h50_1 => ?_)
        · intro _
          show JO w mu_X6_mayBe vB σ [] [] 50 (j_X6_mayBe_50) _
          unfold j_X6_mayBe_50
          refine jo_iconst (pc := 50) dX6_mayBe_50 (ic_i_1) ?_
          refine jo_goto (pc := 51) dX6_mayBe_51 (tgt := 55) rfl ?_
          exact jo_breturn (pc := 55) (b := true) rfl rfl dX6_mayBe_55
        · refine jo_if_eq (pc := 25) dX6_mayBe_25 (tgt := 50) rfl ?_ ?_
          · refine jo_lv (lv' := []) [] rfl ?_
            exact jo_leaf (by rfl) (h50_1 ())
          · refine jo_aload_n (pc := 28) 0 rfl dX6_mayBe_28 rfl ?_
            refine jo_getr (pc := 29) ok_6_1 (ha) gw_65 dX6_mayBe_29 ?_
            refine jo_iload_n (pc := 32) 3 rfl dX6_mayBe_32 rfl ?_
            refine jo_iald (pc := 33) (wf_6_1 hw (ha)) dX6_mayBe_33 (fun v2 => ?_)
            refine jo_aload_n (pc := 34) 0 rfl dX6_mayBe_34 rfl ?_
            refine jo_getr (pc := 35) ok_6_1 (ha) gw_65 dX6_mayBe_35 ?_
            refine jo_iload_n (pc := 38) 2 rfl dX6_mayBe_38 rfl ?_
            refine jo_iald (pc := 39) (wf_6_1 hw (ha)) dX6_mayBe_39 (fun v3 => ?_)
            refine jo_aload_n (pc := 40) 0 rfl dX6_mayBe_40 rfl ?_
            refine jo_getr (pc := 41) ok_6_1 (ha) gw_65 dX6_mayBe_41 ?_
            refine jo_iload_n (pc := 44) 1 rfl dX6_mayBe_44 rfl ?_
            refine jo_iald (pc := 45) (wf_6_1 hw (ha)) dX6_mayBe_45 (fun v4 => ?_)
            refine jo_iadd (pc := 46) dX6_mayBe_46 ?_
            refine jo_icmp_lt (pc := 47) dX6_mayBe_47 (tgt := 54) rfl ?_ ?_
            · refine jo_iconst (pc := 54) dX6_mayBe_54 (ic_i_0) ?_
              exact jo_breturn (pc := 55) (b := false) rfl rfl dX6_mayBe_55
            · refine jo_lv (lv' := []) [] rfl ?_
              exact jo_leaf (by rfl) (h50_1 ())
      · refine jo_iconst (pc := 21) dX6_mayBe_21 (ic_i_0) ?_
        exact jo_breturn (pc := 22) (b := false) rfl rfl dX6_mayBe_22
theorem c_X6_mayBe {w : Wd} (hw : WOK w) {σ : Mem} {a : Nat} {x0 : Int32} {x1 : Int32} {x2 : Int32} {x3 : Int32} (ha : isk w a 6) : ∀ r, f_X6_mayBe σ a x0 x1 x2 x3 = some r → MC w mu_X6_mayBe (vB r) [.ref (adr w a), .int x0, .int x1, .int x2, .int x3] σ σ := mc_ofP ok_X6_mayBe rfl (Nat.le_of_ble_eq_true rfl) (t_X6_mayBe hw ha)
abbrev mu_X6_tailsAboveZero : MD := (yX6_tailsAboveZero, cX6_tailsAboveZero, 3, some .int, 0)
theorem ok_X6_tailsAboveZero : MOK mu_X6_tailsAboveZero 0 := ⟨gw_656, gw_22, (by decide +kernel : plainFor yX6_tailsAboveZero = true), ⟨(by decide +kernel : yX6_tailsAboveZero.cls ≠ "java/lang/invoke/MethodHandle"), (by decide +kernel : yX6_tailsAboveZero.cls ≠ "java/lang/invoke/VarHandle"), (by decide +kernel : (parseMethodDescriptor yX6_tailsAboveZero.desc).map (fun d => d.parameters.length) = some 0)⟩, Nat.le_of_ble_eq_true rfl⟩
noncomputable def j_X6_tailsAboveZero_28 (i1 : Int32) (i2 : Int32) (b4 : Bool) : Option ((Int32 × Int32) ⊕ Int32) :=
  bd (i1 + (b2i b4)) (fun (v5 : Int32) => some (Sum.inl (v5, i2 + 1)))
noncomputable def l_X6_tailsAboveZero_4 (σ : Mem) (a : Nat) (i1 : Int32) (i2 : Int32) : Option ((Int32 × Int32) ⊕ Int32) :=
  if (Int32.ofNat (ln (rf a 2))) ≤ i2 then (some (Sum.inr i1)) else (gI σ (rf a 2) i2 (fun (v3 : Int32) => (if v3 ≤ 0 then (some false) else (some true) : Option Bool).bind (fun (z4 : Bool) => j_X6_tailsAboveZero_28 i1 i2 z4)))
noncomputable def f_X6_tailsAboveZero (σ : Mem) (a : Nat) : Option Int32 :=
  loopO (fun (z2 : (Int32 × Int32)) => l_X6_tailsAboveZero_4 σ a z2.1 z2.2) (0, 0)
theorem t_X6_tailsAboveZero {w : Wd} (hw : WOK w) {σ : Mem} {a : Nat} (ha : isk w a 6) : JO w mu_X6_tailsAboveZero vI σ [(0, .ref (adr w a))] [] 0 (f_X6_tailsAboveZero σ a) (fun z => some (z, σ)) := by
  unfold f_X6_tailsAboveZero
  refine jo_iconst (pc := 0) dX6_tailsAboveZero_0 (ic_i_0) ?_
  refine jo_istore_n (pc := 1) (lv' := [(1, .int 0), (0, .ref (adr w a))]) dX6_tailsAboveZero_1 rfl (ltb rfl) rfl ?_
  refine jo_iconst (pc := 2) dX6_tailsAboveZero_2 (ic_i_0) ?_
  refine jo_istore_n (pc := 3) (lv' := [(2, .int 0), (1, .int 0), (0, .ref (adr w a))]) dX6_tailsAboveZero_3 rfl (ltb rfl) rfl ?_
  refine jo_lv (lv' := [(0, .ref (adr w a)), (1, .int 0), (2, .int 0)]) [2, 1, 0] rfl ?_
  refine jo_loop (X := Int32) (fun (z2 : (Int32 × Int32)) => σ) (fun (z2 : (Int32 × Int32)) => [(0, .ref (adr w a)), (1, .int z2.1), (2, .int z2.2)]) (body := (fun (z2 : (Int32 × Int32)) => l_X6_tailsAboveZero_4 σ a z2.1 z2.2)) (fun F4_2 hF4_2 s => ?_) (0, 0)
  obtain ⟨i1, i2⟩ := s
  show JO w mu_X6_tailsAboveZero vI σ [(0, .ref (adr w a)), (1, .int i1), (2, .int i2)] [] 4 (l_X6_tailsAboveZero_4 σ a i1 i2) _
  unfold l_X6_tailsAboveZero_4
  refine jo_iload_n (pc := 4) 2 rfl dX6_tailsAboveZero_4 rfl ?_
  refine jo_aload_n (pc := 5) 0 rfl dX6_tailsAboveZero_5 rfl ?_
  refine jo_getr (pc := 6) ok_6_2 (ha) gw_67 dX6_tailsAboveZero_6 ?_
  refine jo_alenI (pc := 9) (wf_6_2 hw (ha)) (by decide) (t := 0) rfl dX6_tailsAboveZero_9 ?_
  refine jo_icmp_ge (pc := 10) dX6_tailsAboveZero_10 (tgt := 36) rfl ?_ ?_
  · refine jo_iload_n (pc := 36) 1 rfl dX6_tailsAboveZero_36 rfl ?_
    exact jo_ireturn (pc := 37) rfl rfl dX6_tailsAboveZero_37
  · refine jo_iload_n (pc := 13) 1 rfl dX6_tailsAboveZero_13 rfl ?_
    refine jo_aload_n (pc := 14) 0 rfl dX6_tailsAboveZero_14 rfl ?_
    refine jo_getr (pc := 15) ok_6_2 (ha) gw_67 dX6_tailsAboveZero_15 ?_
    refine jo_iload_n (pc := 18) 2 rfl dX6_tailsAboveZero_18 rfl ?_
    refine jo_iald (pc := 19) (wf_6_2 hw (ha)) dX6_tailsAboveZero_19 (fun v3 => ?_)
    refine jo_join1 (S := Bool) (fun (z4 : Bool) => σ) (fun (z4 : Bool) => [(0, .ref (adr w a)), (2, .int i2)]) (fun (z4 : Bool) => [.int (b2i z4), .int i1]) 28 ?_ (fun h28_4 => ?_)
    · intro b4
      show JO w mu_X6_tailsAboveZero vI σ [(0, .ref (adr w a)), (2, .int i2)] [.int (b2i b4), .int i1] 28 (j_X6_tailsAboveZero_28 i1 i2 b4) _
      unfold j_X6_tailsAboveZero_28
      refine jo_iadd (pc := 28) dX6_tailsAboveZero_28 ?_
      refine jo_bd ?_
      refine jo_istore_n (pc := 29) (lv' := [(1, .int (i1 + (b2i b4))), (0, .ref (adr w a)), (2, .int i2)]) dX6_tailsAboveZero_29 rfl (ltb rfl) rfl ?_
      generalize (i1 + (b2i b4)) = v5
      refine jo_iinc (pc := 30) (lv' := [(2, .int (i2 + 1)), (1, .int v5), (0, .ref (adr w a))]) 2 rfl dX6_tailsAboveZero_30 (congrArg (fun z => i2 + z) (ic_i_1)) (ltb rfl) rfl ?_
      refine jo_goto (pc := 33) dX6_tailsAboveZero_33 (tgt := 4) rfl ?_
      refine jo_lv (lv' := [(0, .ref (adr w a)), (1, .int v5), (2, .int (i2 + 1))]) [2, 1, 0] rfl ?_
      exact jo_leaf (by rfl) (hF4_2 (v5, i2 + 1))
    · refine jo_if_le (pc := 20) dX6_tailsAboveZero_20 (tgt := 27) rfl ?_ ?_
      · refine jo_iconst (pc := 27) dX6_tailsAboveZero_27 (ic_i_0) ?_
        refine jo_lv (lv' := [(0, .ref (adr w a)), (2, .int i2)]) [0, 2] rfl ?_
        exact jo_leaf (by rfl) (h28_4 false)
      · refine jo_iconst (pc := 23) dX6_tailsAboveZero_23 (ic_i_1) ?_
        refine jo_goto (pc := 24) dX6_tailsAboveZero_24 (tgt := 28) rfl ?_
        refine jo_lv (lv' := [(0, .ref (adr w a)), (2, .int i2)]) [0, 2] rfl ?_
        exact jo_leaf (by rfl) (h28_4 true)
theorem c_X6_tailsAboveZero {w : Wd} (hw : WOK w) {σ : Mem} {a : Nat} (ha : isk w a 6) : ∀ r, f_X6_tailsAboveZero σ a = some r → MC w mu_X6_tailsAboveZero (vI r) [.ref (adr w a)] σ σ := mc_ofP ok_X6_tailsAboveZero rfl (Nat.le_of_ble_eq_true rfl) (t_X6_tailsAboveZero hw ha)
abbrev mu_J9_max_7cf53 : MD := (yJ9_max_7cf53, cJ9_max_7cf53, 2, some .int, 0)
theorem ok_J9_max_7cf53 : MOK mu_J9_max_7cf53 2 := ⟨gw_679, gw_33, (by decide +kernel : plainFor yJ9_max_7cf53 = true), ⟨(by decide +kernel : yJ9_max_7cf53.cls ≠ "java/lang/invoke/MethodHandle"), (by decide +kernel : yJ9_max_7cf53.cls ≠ "java/lang/invoke/VarHandle"), (by decide +kernel : (parseMethodDescriptor yJ9_max_7cf53.desc).map (fun d => d.parameters.length) = some 2)⟩, Nat.le_of_ble_eq_true rfl⟩
noncomputable def f_J9_max_7cf53 (σ : Mem) (x0 : Int32) (x1 : Int32) : Option Int32 :=
  if x0 < x1 then (some x1) else (some x0)
theorem t_J9_max_7cf53 {w : Wd} (hw : WOK w) {σ : Mem} {x0 : Int32} {x1 : Int32} : JO w mu_J9_max_7cf53 vI σ [(0, .int x0), (1, .int x1)] [] 0 (f_J9_max_7cf53 σ x0 x1) (fun z => some (z, σ)) := by
  unfold f_J9_max_7cf53
  refine jo_iload_n (pc := 0) 0 rfl dJ9_max_7cf53_0 rfl ?_
  refine jo_iload_n (pc := 1) 1 rfl dJ9_max_7cf53_1 rfl ?_
  refine jo_icmp_lt (pc := 2) dJ9_max_7cf53_2 (tgt := 9) rfl ?_ ?_
  · refine jo_iload_n (pc := 9) 1 rfl dJ9_max_7cf53_9 rfl ?_
    exact jo_ireturn (pc := 10) rfl rfl dJ9_max_7cf53_10
  · refine jo_iload_n (pc := 5) 0 rfl dJ9_max_7cf53_5 rfl ?_
    refine jo_goto (pc := 6) dJ9_max_7cf53_6 (tgt := 10) rfl ?_
    exact jo_ireturn (pc := 10) rfl rfl dJ9_max_7cf53_10
theorem c_J9_max_7cf53 {w : Wd} (hw : WOK w) {σ : Mem} {x0 : Int32} {x1 : Int32} : ∀ r, f_J9_max_7cf53 σ x0 x1 = some r → MC w mu_J9_max_7cf53 (vI r) [.int x0, .int x1] σ σ := mc_ofP ok_J9_max_7cf53 rfl (Nat.le_of_ble_eq_true rfl) (t_J9_max_7cf53 hw)
abbrev mu_J9_min_7cf53 : MD := (yJ9_min_7cf53, cJ9_min_7cf53, 2, some .int, 0)
theorem ok_J9_min_7cf53 : MOK mu_J9_min_7cf53 2 := ⟨gw_570, gw_33, (by decide +kernel : plainFor yJ9_min_7cf53 = true), ⟨(by decide +kernel : yJ9_min_7cf53.cls ≠ "java/lang/invoke/MethodHandle"), (by decide +kernel : yJ9_min_7cf53.cls ≠ "java/lang/invoke/VarHandle"), (by decide +kernel : (parseMethodDescriptor yJ9_min_7cf53.desc).map (fun d => d.parameters.length) = some 2)⟩, Nat.le_of_ble_eq_true rfl⟩
noncomputable def f_J9_min_7cf53 (σ : Mem) (x0 : Int32) (x1 : Int32) : Option Int32 :=
  if x1 < x0 then (some x1) else (some x0)
theorem t_J9_min_7cf53 {w : Wd} (hw : WOK w) {σ : Mem} {x0 : Int32} {x1 : Int32} : JO w mu_J9_min_7cf53 vI σ [(0, .int x0), (1, .int x1)] [] 0 (f_J9_min_7cf53 σ x0 x1) (fun z => some (z, σ)) := by
  unfold f_J9_min_7cf53
  refine jo_iload_n (pc := 0) 0 rfl dJ9_min_7cf53_0 rfl ?_
  refine jo_iload_n (pc := 1) 1 rfl dJ9_min_7cf53_1 rfl ?_
  refine jo_icmp_gt (pc := 2) dJ9_min_7cf53_2 (tgt := 9) rfl ?_ ?_
  · refine jo_iload_n (pc := 9) 1 rfl dJ9_min_7cf53_9 rfl ?_
    exact jo_ireturn (pc := 10) rfl rfl dJ9_min_7cf53_10
  · refine jo_iload_n (pc := 5) 0 rfl dJ9_min_7cf53_5 rfl ?_
    refine jo_goto (pc := 6) dJ9_min_7cf53_6 (tgt := 10) rfl ?_
    exact jo_ireturn (pc := 10) rfl rfl dJ9_min_7cf53_10
theorem c_J9_min_7cf53 {w : Wd} (hw : WOK w) {σ : Mem} {x0 : Int32} {x1 : Int32} : ∀ r, f_J9_min_7cf53 σ x0 x1 = some r → MC w mu_J9_min_7cf53 (vI r) [.int x0, .int x1] σ σ := mc_ofP ok_J9_min_7cf53 rfl (Nat.le_of_ble_eq_true rfl) (t_J9_min_7cf53 hw)
abbrev mu_X6_isCentral : MD := (yX6_isCentral, cX6_isCentral, 4, some .boolean, 2)
theorem ok_X6_isCentral : MOK mu_X6_isCentral 1 := ⟨gw_676, gw_22, (by decide +kernel : plainFor yX6_isCentral = true), ⟨(by decide +kernel : yX6_isCentral.cls ≠ "java/lang/invoke/MethodHandle"), (by decide +kernel : yX6_isCentral.cls ≠ "java/lang/invoke/VarHandle"), (by decide +kernel : (parseMethodDescriptor yX6_isCentral.desc).map (fun d => d.parameters.length) = some 1)⟩, Nat.le_of_ble_eq_true rfl⟩
noncomputable def j_X6_isCentral_46 (i1 : Int32) : Option (Int32 ⊕ Bool) :=
  some (Sum.inl (i1 + 1))
noncomputable def l_X6_isCentral_12 (σ : Mem) (a : Nat) (x0 : Int32) (i1 : Int32) (i3 : Int32) : Option (Int32 ⊕ (Unit ⊕ (Int32 ⊕ Bool))) :=
  gF σ a 0 (fun (v4 : Int32) => if v4 ≤ i3 then (some (Sum.inr (Sum.inl ()))) else ((f_J9_max_7cf53 σ i1 x0).bind (fun (v5 : Int32) => (f_J9_min_7cf53 σ i1 x0).bind (fun (v6 : Int32) => (f_X6_read σ a v5 v6 i3).bind (fun (v7 : Int32) => if v7 = 0 then (some (Sum.inl (i3 + 1))) else (some (Sum.inr (Sum.inr (Sum.inr false)))))))))
noncomputable def l_X6_isCentral_2 (σ : Mem) (a : Nat) (x0 : Int32) (i1 : Int32) : Option (Int32 ⊕ Bool) :=
  gF σ a 0 (fun (v2 : Int32) => if v2 ≤ i1 then (some (Sum.inr true)) else ((loopO (fun (z3 : Int32) => l_X6_isCentral_12 σ a x0 i1 z3) 0 : Option (Unit ⊕ (Int32 ⊕ Bool))).bind (Sum.elim (fun (z2 : Unit) => j_X6_isCentral_46 i1) some)))
noncomputable def f_X6_isCentral (σ : Mem) (a : Nat) (x0 : Int32) : Option Bool :=
  loopO (fun (z1 : Int32) => l_X6_isCentral_2 σ a x0 z1) 0
theorem t_X6_isCentral {w : Wd} (hw : WOK w) {σ : Mem} {a : Nat} {x0 : Int32} (ha : isk w a 6) : JO w mu_X6_isCentral vB σ [(0, .ref (adr w a)), (1, .int x0)] [] 0 (f_X6_isCentral σ a x0) (fun z => some (z, σ)) := by
  unfold f_X6_isCentral
  refine jo_iconst (pc := 0) dX6_isCentral_0 (ic_i_0) ?_
  refine jo_istore_n (pc := 1) (lv' := [(2, .int 0), (0, .ref (adr w a)), (1, .int x0)]) dX6_isCentral_1 rfl (ltb rfl) rfl ?_
  refine jo_lv (lv' := [(0, .ref (adr w a)), (1, .int x0), (2, .int 0)]) [1, 2, 0] rfl ?_
  refine jo_loop (X := Bool) (fun (z1 : Int32) => σ) (fun (z1 : Int32) => [(0, .ref (adr w a)), (1, .int x0), (2, .int z1)]) (body := (fun (z1 : Int32) => l_X6_isCentral_2 σ a x0 z1)) (fun F2_1 hF2_1 s => ?_) 0
  revert s; intro i1
  show JO w mu_X6_isCentral vB σ [(0, .ref (adr w a)), (1, .int x0), (2, .int i1)] [] 2 (l_X6_isCentral_2 σ a x0 i1) _
  unfold l_X6_isCentral_2
  refine jo_iload_n (pc := 2) 2 rfl dX6_isCentral_2 rfl ?_
  refine jo_aload_n (pc := 3) 0 rfl dX6_isCentral_3 rfl ?_
  refine jo_getf (pc := 4) ok_6_0 (ha) gw_61 dX6_isCentral_4 (fun v2 => ?_)
  refine jo_icmp_ge (pc := 7) dX6_isCentral_7 (tgt := 52) rfl ?_ ?_
  · refine jo_iconst (pc := 52) dX6_isCentral_52 (ic_i_1) ?_
    exact jo_breturn (pc := 53) (b := true) rfl rfl dX6_isCentral_53
  · refine jo_iconst (pc := 10) dX6_isCentral_10 (ic_i_0) ?_
    refine jo_istore_n (pc := 11) (lv' := [(3, .int 0), (0, .ref (adr w a)), (1, .int x0), (2, .int i1)]) dX6_isCentral_11 rfl (ltb rfl) rfl ?_
    refine jo_joinS (S := Unit) (fun (z2 : Unit) => σ) (fun (z2 : Unit) => [(0, .ref (adr w a)), (1, .int x0), (2, .int i1)]) (fun (z2 : Unit) => []) 46 ?_ (fun h46_2 => ?_)
    · intro _
      show JO w mu_X6_isCentral vB σ [(0, .ref (adr w a)), (1, .int x0), (2, .int i1)] [] 46 (j_X6_isCentral_46 i1) _
      unfold j_X6_isCentral_46
      refine jo_iinc (pc := 46) (lv' := [(2, .int (i1 + 1)), (0, .ref (adr w a)), (1, .int x0)]) 2 rfl dX6_isCentral_46 (congrArg (fun z => i1 + z) (ic_i_1)) (ltb rfl) rfl ?_
      refine jo_goto (pc := 49) dX6_isCentral_49 (tgt := 2) rfl ?_
      refine jo_lv (lv' := [(0, .ref (adr w a)), (1, .int x0), (2, .int (i1 + 1))]) [1, 2, 0] rfl ?_
      exact jo_leaf (by rfl) (hF2_1 (i1 + 1))
    · refine jo_lv (lv' := [(0, .ref (adr w a)), (1, .int x0), (2, .int i1), (3, .int 0)]) [1, 2, 3, 0] rfl ?_
      refine jo_loop (X := Unit ⊕ (Int32 ⊕ Bool)) (fun (z3 : Int32) => σ) (fun (z3 : Int32) => [(0, .ref (adr w a)), (1, .int x0), (2, .int i1), (3, .int z3)]) (body := (fun (z3 : Int32) => l_X6_isCentral_12 σ a x0 i1 z3)) (fun F12_3 hF12_3 s => ?_) 0
      revert s; intro i3
      show JO w mu_X6_isCentral vB σ [(0, .ref (adr w a)), (1, .int x0), (2, .int i1), (3, .int i3)] [] 12 (l_X6_isCentral_12 σ a x0 i1 i3) _
      unfold l_X6_isCentral_12
      refine jo_iload_n (pc := 12) 3 rfl dX6_isCentral_12 rfl ?_
      refine jo_aload_n (pc := 13) 0 rfl dX6_isCentral_13 rfl ?_
      refine jo_getf (pc := 14) ok_6_0 (ha) gw_61 dX6_isCentral_14 (fun v4 => ?_)
      refine jo_icmp_ge (pc := 17) dX6_isCentral_17 (tgt := 46) rfl ?_ ?_
      · refine jo_lv (lv' := [(0, .ref (adr w a)), (1, .int x0), (2, .int i1)]) [0, 1, 2] rfl ?_
        exact jo_leaf (by rfl) (h46_2 ())
      · refine jo_aload_n (pc := 20) 0 rfl dX6_isCentral_20 rfl ?_
        refine jo_iload_n (pc := 21) 2 rfl dX6_isCentral_21 rfl ?_
        refine jo_iload_n (pc := 22) 1 rfl dX6_isCentral_22 rfl ?_
        refine jo_cS_I_p (pc := 23) (μ' := mu_J9_max_7cf53) (fx := f_J9_max_7cf53 σ i1 x0) (As := [.int i1, .int x0]) (c_J9_max_7cf53 hw) (ok_J9_max_7cf53) (ltb rfl) (all2 gw_677 gw_678) rfl rfl (Nat.le_of_ble_eq_true rfl) dX6_isCentral_23 (fun v5 => ?_)
        refine jo_iload_n (pc := 26) 2 rfl dX6_isCentral_26 rfl ?_
        refine jo_iload_n (pc := 27) 1 rfl dX6_isCentral_27 rfl ?_
        refine jo_cS_I_p (pc := 28) (μ' := mu_J9_min_7cf53) (fx := f_J9_min_7cf53 σ i1 x0) (As := [.int i1, .int x0]) (c_J9_min_7cf53 hw) (ok_J9_min_7cf53) (ltb rfl) (all2 gw_680 gw_569) rfl rfl (Nat.le_of_ble_eq_true rfl) dX6_isCentral_28 (fun v6 => ?_)
        refine jo_iload_n (pc := 31) 3 rfl dX6_isCentral_31 rfl ?_
        refine jo_cV_I_p (pc := 32) (μ' := mu_X6_read) (fx := f_X6_read σ a v5 v6 i3) (As := [.int v5, .int v6, .int i3]) (c_X6_read hw (ha)) (ok_X6_read) (ltb rfl) (all3 gw_681 gw_415 gw_416) (ha) (by decide) (q := (RX6, TX6, 3)) rfl rfl rfl rfl (Nat.le_of_ble_eq_true rfl) dX6_isCentral_32 (fun v7 => ?_)
        refine jo_if_eq (pc := 35) dX6_isCentral_35 (tgt := 40) rfl ?_ ?_
        · refine jo_iinc (pc := 40) (lv' := [(3, .int (i3 + 1)), (0, .ref (adr w a)), (1, .int x0), (2, .int i1)]) 3 rfl dX6_isCentral_40 (congrArg (fun z => i3 + z) (ic_i_1)) (ltb rfl) rfl ?_
          refine jo_goto (pc := 43) dX6_isCentral_43 (tgt := 12) rfl ?_
          refine jo_lv (lv' := [(0, .ref (adr w a)), (1, .int x0), (2, .int i1), (3, .int (i3 + 1))]) [1, 2, 3, 0] rfl ?_
          exact jo_leaf (by rfl) (hF12_3 (i3 + 1))
        · refine jo_iconst (pc := 38) dX6_isCentral_38 (ic_i_0) ?_
          exact jo_breturn (pc := 39) (b := false) rfl rfl dX6_isCentral_39
theorem c_X6_isCentral {w : Wd} (hw : WOK w) {σ : Mem} {a : Nat} {x0 : Int32} (ha : isk w a 6) : ∀ r, f_X6_isCentral σ a x0 = some r → MC w mu_X6_isCentral (vB r) [.ref (adr w a), .int x0] σ σ := mc_ofP ok_X6_isCentral rfl (Nat.le_of_ble_eq_true rfl) (t_X6_isCentral hw ha)
abbrev mu_J7_fill_d0a16 : MD := (yJ7_fill_d0a16, cJ7_fill_d0a16, 5, none, 0)
theorem ok_J7_fill_d0a16 : MOK mu_J7_fill_d0a16 2 := ⟨gw_647, gw_31, (by decide +kernel : plainFor yJ7_fill_d0a16 = true), ⟨(by decide +kernel : yJ7_fill_d0a16.cls ≠ "java/lang/invoke/MethodHandle"), (by decide +kernel : yJ7_fill_d0a16.cls ≠ "java/lang/invoke/VarHandle"), (by decide +kernel : (parseMethodDescriptor yJ7_fill_d0a16.desc).map (fun d => d.parameters.length) = some 2)⟩, Nat.le_of_ble_eq_true rfl⟩
noncomputable def l_J7_fill_d0a16_6 (x0 : Nat) (x1 : Int64) (v1 : Int32) (σ2 : Mem) (i3 : Int32) : Option ((Mem × Int32) ⊕ Mem) :=
  if v1 ≤ i3 then (some (Sum.inr σ2)) else (pL σ2 x0 i3 x1 (fun (σ4 : Mem) => some (Sum.inl (σ4, i3 + 1))))
noncomputable def f_J7_fill_d0a16 (σ : Mem) (x0 : Nat) (x1 : Int64) : Option Mem :=
  bd (Int32.ofNat (ln x0)) (fun (v1 : Int32) => loopO (fun (z3 : (Mem × Int32)) => l_J7_fill_d0a16_6 x0 x1 v1 z3.1 z3.2) (σ, 0))
theorem t_J7_fill_d0a16 {w : Wd} (hw : WOK w) {σ : Mem} {x0 : Nat} {x1 : Int64} (hx0 : isk w x0 13) : JO w mu_J7_fill_d0a16 vV σ [(0, .ref (adr w x0)), (1, .long x1)] [] 0 (f_J7_fill_d0a16 σ x0 x1) (fun z => some ((), z)) := by
  unfold f_J7_fill_d0a16
  refine jo_iconst (pc := 0) dJ7_fill_d0a16_0 (ic_i_0) ?_
  refine jo_istore_n (pc := 1) (lv' := [(3, .int 0), (0, .ref (adr w x0)), (1, .long x1)]) dJ7_fill_d0a16_1 rfl (ltb rfl) rfl ?_
  refine jo_aload_n (pc := 2) 1 rfl dJ7_fill_d0a16_2 rfl ?_
  refine jo_alenI (pc := 3) (hx0) (by decide) (t := 1) rfl dJ7_fill_d0a16_3 ?_
  refine jo_bd ?_
  refine jo_istore (pc := 4) (lv' := [(4, .int (Int32.ofNat (ln x0))), (3, .int 0), (0, .ref (adr w x0)), (1, .long x1)]) dJ7_fill_d0a16_4 (ltb rfl) rfl ?_
  generalize (Int32.ofNat (ln x0)) = v1
  refine jo_lv (lv' := [(4, .int v1), (0, .ref (adr w x0)), (1, .long x1), (3, .int 0)]) [0, 2, 3, 1] rfl ?_
  refine jo_loop (X := Mem) (fun (z3 : (Mem × Int32)) => z3.1) (fun (z3 : (Mem × Int32)) => [(4, .int v1), (0, .ref (adr w x0)), (1, .long x1), (3, .int z3.2)]) (body := (fun (z3 : (Mem × Int32)) => l_J7_fill_d0a16_6 x0 x1 v1 z3.1 z3.2)) (fun F6_3 hF6_3 s => ?_) (σ, 0)
  obtain ⟨σ2, i3⟩ := s
  show JO w mu_J7_fill_d0a16 vV σ2 [(4, .int v1), (0, .ref (adr w x0)), (1, .long x1), (3, .int i3)] [] 6 (l_J7_fill_d0a16_6 x0 x1 v1 σ2 i3) _
  unfold l_J7_fill_d0a16_6
  refine jo_iload_n (pc := 6) 3 rfl dJ7_fill_d0a16_6 rfl ?_
  refine jo_iload (pc := 7) 0 rfl dJ7_fill_d0a16_7 ?_
  refine jo_icmp_ge (pc := 9) dJ7_fill_d0a16_9 (tgt := 22) rfl ?_ ?_
  · exact jo_return (pc := 22) rfl rfl dJ7_fill_d0a16_22
  · refine jo_aload_n (pc := 12) 1 rfl dJ7_fill_d0a16_12 rfl ?_
    refine jo_iload_n (pc := 13) 3 rfl dJ7_fill_d0a16_13 rfl ?_
    refine jo_lload_n (pc := 14) 2 rfl dJ7_fill_d0a16_14 rfl ?_
    refine jo_last (pc := 15) (hx0) dJ7_fill_d0a16_15 (fun σ4 => ?_)
    refine jo_iinc (pc := 16) (lv' := [(3, .int (i3 + 1)), (4, .int v1), (0, .ref (adr w x0)), (1, .long x1)]) 3 rfl dJ7_fill_d0a16_16 (congrArg (fun z => i3 + z) (ic_i_1)) (ltb rfl) rfl ?_
    refine jo_goto (pc := 19) dJ7_fill_d0a16_19 (tgt := 6) rfl ?_
    refine jo_lv (lv' := [(4, .int v1), (0, .ref (adr w x0)), (1, .long x1), (3, .int (i3 + 1))]) [1, 2, 3, 0] rfl ?_
    exact jo_leaf (by rfl) (hF6_3 (σ4, i3 + 1))
theorem c_J7_fill_d0a16 {w : Wd} (hw : WOK w) {σ : Mem} {x0 : Nat} {x1 : Int64} (hx0 : isk w x0 13) : ∀ σ', f_J7_fill_d0a16 σ x0 x1 = some σ' → MC w mu_J7_fill_d0a16 none [.ref (adr w x0), .long x1] σ σ' := mc_ofV ok_J7_fill_d0a16 rfl (Nat.le_of_ble_eq_true rfl) (t_J7_fill_d0a16 hw hx0)
abbrev mu_X8_clearRegisters : MD := (yX8_clearRegisters, cX8_clearRegisters, 2, none, 1)
theorem ok_X8_clearRegisters : MOK mu_X8_clearRegisters 0 := ⟨gw_644, gw_21, (by decide +kernel : plainFor yX8_clearRegisters = true), ⟨(by decide +kernel : yX8_clearRegisters.cls ≠ "java/lang/invoke/MethodHandle"), (by decide +kernel : yX8_clearRegisters.cls ≠ "java/lang/invoke/VarHandle"), (by decide +kernel : (parseMethodDescriptor yX8_clearRegisters.desc).map (fun d => d.parameters.length) = some 0)⟩, Nat.le_of_ble_eq_true rfl⟩
noncomputable def l_X8_clearRegisters_2 (a : Nat) (σ1 : Mem) (i2 : Int32) : Option ((Mem × Int32) ⊕ Mem) :=
  if 10 ≤ i2 then (some (Sum.inr σ1)) else (gR (rf a 1) i2 (fun (p3 : Nat) => (f_J7_fill_d0a16 σ1 p3 0).bind (fun (σ4 : Mem) => some (Sum.inl (σ4, i2 + 1)))))
noncomputable def f_X8_clearRegisters (σ : Mem) (a : Nat) : Option Mem :=
  loopO (fun (z2 : (Mem × Int32)) => l_X8_clearRegisters_2 a z2.1 z2.2) (σ, 0)
theorem t_X8_clearRegisters {w : Wd} (hw : WOK w) {σ : Mem} {a : Nat} (ha : isk w a 8) : JO w mu_X8_clearRegisters vV σ [(0, .ref (adr w a))] [] 0 (f_X8_clearRegisters σ a) (fun z => some ((), z)) := by
  unfold f_X8_clearRegisters
  refine jo_iconst (pc := 0) dX8_clearRegisters_0 (ic_i_0) ?_
  refine jo_istore_n (pc := 1) (lv' := [(1, .int 0), (0, .ref (adr w a))]) dX8_clearRegisters_1 rfl (ltb rfl) rfl ?_
  refine jo_lv (lv' := [(0, .ref (adr w a)), (1, .int 0)]) [1, 0] rfl ?_
  refine jo_loop (X := Mem) (fun (z2 : (Mem × Int32)) => z2.1) (fun (z2 : (Mem × Int32)) => [(0, .ref (adr w a)), (1, .int z2.2)]) (body := (fun (z2 : (Mem × Int32)) => l_X8_clearRegisters_2 a z2.1 z2.2)) (fun F2_2 hF2_2 s => ?_) (σ, 0)
  obtain ⟨σ1, i2⟩ := s
  show JO w mu_X8_clearRegisters vV σ1 [(0, .ref (adr w a)), (1, .int i2)] [] 2 (l_X8_clearRegisters_2 a σ1 i2) _
  unfold l_X8_clearRegisters_2
  refine jo_iload_n (pc := 2) 1 rfl dX8_clearRegisters_2 rfl ?_
  refine jo_bipush (pc := 3) dX8_clearRegisters_3 (ic_b_10) ?_
  refine jo_icmp_ge (pc := 5) dX8_clearRegisters_5 (tgt := 24) rfl ?_ ?_
  · exact jo_return (pc := 24) rfl rfl dX8_clearRegisters_24
  · refine jo_aload_n (pc := 8) 0 rfl dX8_clearRegisters_8 rfl ?_
    refine jo_getr (pc := 9) ok_8_1 (ha) gw_80 dX8_clearRegisters_9 ?_
    refine jo_iload_n (pc := 12) 1 rfl dX8_clearRegisters_12 rfl ?_
    refine jo_aaldG (pc := 13) (z := 13) hw (wf_8_1 hw (ha)) (by decide) (t := 4) rfl rfl (by decide) dX8_clearRegisters_13 (fun p3 hp3 => ?_)
    refine jo_lconst (pc := 14) dX8_clearRegisters_14 (ic_l_0) ?_
    refine jo_cS_V_i (pc := 15) (μ' := mu_J7_fill_d0a16) (fx := f_J7_fill_d0a16 σ1 p3 0) (As := [.ref (adr w p3), .long 0]) (c_J7_fill_d0a16 hw (hp3)) (ok_J7_fill_d0a16) (ltb rfl) (all2 gw_645 gw_646) rfl rfl (Nat.le_of_ble_eq_true rfl) dX8_clearRegisters_15 (fun σ4 => ?_)
    refine jo_iinc (pc := 18) (lv' := [(1, .int (i2 + 1)), (0, .ref (adr w a))]) 1 rfl dX8_clearRegisters_18 (congrArg (fun z => i2 + z) (ic_i_1)) (ltb rfl) rfl ?_
    refine jo_goto (pc := 21) dX8_clearRegisters_21 (tgt := 2) rfl ?_
    refine jo_lv (lv' := [(0, .ref (adr w a)), (1, .int (i2 + 1))]) [1, 0] rfl ?_
    exact jo_leaf (by rfl) (hF2_2 (σ4, i2 + 1))
theorem c_X8_clearRegisters {w : Wd} (hw : WOK w) {σ : Mem} {a : Nat} (ha : isk w a 8) : ∀ σ', f_X8_clearRegisters σ a = some σ' → MC w mu_X8_clearRegisters none [.ref (adr w a)] σ σ' := mc_ofV ok_X8_clearRegisters rfl (Nat.le_of_ble_eq_true rfl) (t_X8_clearRegisters hw ha)
abbrev mu_X8_takeActed : MD := (yX8_takeActed, cX8_takeActed, 3, none, 2)
theorem ok_X8_takeActed : MOK mu_X8_takeActed 1 := ⟨gw_562, gw_21, (by decide +kernel : plainFor yX8_takeActed = true), ⟨(by decide +kernel : yX8_takeActed.cls ≠ "java/lang/invoke/MethodHandle"), (by decide +kernel : yX8_takeActed.cls ≠ "java/lang/invoke/VarHandle"), (by decide +kernel : (parseMethodDescriptor yX8_takeActed.desc).map (fun d => d.parameters.length) = some 1)⟩, Nat.le_of_ble_eq_true rfl⟩
noncomputable def l_X8_takeActed_13 (a : Nat) (x0 : Nat) (σ2 : Mem) (i3 : Int32) : Option ((Mem × Int32) ⊕ Mem) :=
  if 10 ≤ i3 then (some (Sum.inr σ2)) else (gR (rf x0 1) i3 (fun (p4 : Nat) => gR (rf a 1) i3 (fun (p5 : Nat) => (f_X0_copy σ2 p4 p5).bind (fun (σ6 : Mem) => some (Sum.inl (σ6, i3 + 1))))))
noncomputable def f_X8_takeActed (σ : Mem) (a : Nat) (x0 : Nat) : Option Mem :=
  (f_X6_takeAll σ (rf a 0) (rf x0 0)).bind (fun (σ1 : Mem) => loopO (fun (z3 : (Mem × Int32)) => l_X8_takeActed_13 a x0 z3.1 z3.2) (σ1, 0))
theorem t_X8_takeActed {w : Wd} (hw : WOK w) {σ : Mem} {a : Nat} {x0 : Nat} (ha : isk w a 8) (hx0 : isk w x0 8) : JO w mu_X8_takeActed vV σ [(0, .ref (adr w a)), (1, .ref (adr w x0))] [] 0 (f_X8_takeActed σ a x0) (fun z => some ((), z)) := by
  unfold f_X8_takeActed
  refine jo_aload_n (pc := 0) 0 rfl dX8_takeActed_0 rfl ?_
  refine jo_getr (pc := 1) ok_8_0 (ha) gw_78 dX8_takeActed_1 ?_
  refine jo_aload_n (pc := 4) 1 rfl dX8_takeActed_4 rfl ?_
  refine jo_getr (pc := 5) ok_8_0 (hx0) gw_78 dX8_takeActed_5 ?_
  refine jo_cV_V_i (pc := 8) (μ' := mu_X6_takeAll) (fx := f_X6_takeAll σ (rf a 0) (rf x0 0)) (As := [.ref (adr w (rf x0 0))]) (c_X6_takeAll hw (wf_8_0 hw (ha)) (wf_8_0 hw (hx0))) (ok_X6_takeAll) (ltb rfl) (all3 gw_563 gw_388 gw_389) (wf_8_0 hw (ha)) (by decide) (q := (RX6, TX6, 3)) rfl rfl rfl rfl (Nat.le_of_ble_eq_true rfl) dX8_takeActed_8 (fun σ1 => ?_)
  refine jo_iconst (pc := 11) dX8_takeActed_11 (ic_i_0) ?_
  refine jo_istore_n (pc := 12) (lv' := [(2, .int 0), (0, .ref (adr w a)), (1, .ref (adr w x0))]) dX8_takeActed_12 rfl (ltb rfl) rfl ?_
  refine jo_lv (lv' := [(0, .ref (adr w a)), (1, .ref (adr w x0)), (2, .int 0)]) [1, 2, 0] rfl ?_
  refine jo_loop (X := Mem) (fun (z3 : (Mem × Int32)) => z3.1) (fun (z3 : (Mem × Int32)) => [(0, .ref (adr w a)), (1, .ref (adr w x0)), (2, .int z3.2)]) (body := (fun (z3 : (Mem × Int32)) => l_X8_takeActed_13 a x0 z3.1 z3.2)) (fun F13_3 hF13_3 s => ?_) (σ1, 0)
  obtain ⟨σ2, i3⟩ := s
  show JO w mu_X8_takeActed vV σ2 [(0, .ref (adr w a)), (1, .ref (adr w x0)), (2, .int i3)] [] 13 (l_X8_takeActed_13 a x0 σ2 i3) _
  unfold l_X8_takeActed_13
  refine jo_iload_n (pc := 13) 2 rfl dX8_takeActed_13 rfl ?_
  refine jo_bipush (pc := 14) dX8_takeActed_14 (ic_b_10) ?_
  refine jo_icmp_ge (pc := 16) dX8_takeActed_16 (tgt := 40) rfl ?_ ?_
  · exact jo_return (pc := 40) rfl rfl dX8_takeActed_40
  · refine jo_aload_n (pc := 19) 1 rfl dX8_takeActed_19 rfl ?_
    refine jo_getr (pc := 20) ok_8_1 (hx0) gw_80 dX8_takeActed_20 ?_
    refine jo_iload_n (pc := 23) 2 rfl dX8_takeActed_23 rfl ?_
    refine jo_aaldG (pc := 24) (z := 13) hw (wf_8_1 hw (hx0)) (by decide) (t := 4) rfl rfl (by decide) dX8_takeActed_24 (fun p4 hp4 => ?_)
    refine jo_aload_n (pc := 25) 0 rfl dX8_takeActed_25 rfl ?_
    refine jo_getr (pc := 26) ok_8_1 (ha) gw_80 dX8_takeActed_26 ?_
    refine jo_iload_n (pc := 29) 2 rfl dX8_takeActed_29 rfl ?_
    refine jo_aaldG (pc := 30) (z := 13) hw (wf_8_1 hw (ha)) (by decide) (t := 4) rfl rfl (by decide) dX8_takeActed_30 (fun p5 hp5 => ?_)
    refine jo_cS_V_i (pc := 31) (μ' := mu_X0_copy) (fx := f_X0_copy σ2 p4 p5) (As := [.ref (adr w p4), .ref (adr w p5)]) (c_X0_copy hw (hp4) (hp5)) (ok_X0_copy) (ltb rfl) (all2 gw_564 gw_565) rfl rfl (Nat.le_of_ble_eq_true rfl) dX8_takeActed_31 (fun σ6 => ?_)
    refine jo_iinc (pc := 34) (lv' := [(2, .int (i3 + 1)), (0, .ref (adr w a)), (1, .ref (adr w x0))]) 2 rfl dX8_takeActed_34 (congrArg (fun z => i3 + z) (ic_i_1)) (ltb rfl) rfl ?_
    refine jo_goto (pc := 37) dX8_takeActed_37 (tgt := 13) rfl ?_
    refine jo_lv (lv' := [(0, .ref (adr w a)), (1, .ref (adr w x0)), (2, .int (i3 + 1))]) [1, 2, 0] rfl ?_
    exact jo_leaf (by rfl) (hF13_3 (σ6, i3 + 1))
theorem c_X8_takeActed {w : Wd} (hw : WOK w) {σ : Mem} {a : Nat} {x0 : Nat} (ha : isk w a 8) (hx0 : isk w x0 8) : ∀ σ', f_X8_takeActed σ a x0 = some σ' → MC w mu_X8_takeActed none [.ref (adr w a), .ref (adr w x0)] σ σ' := mc_ofV ok_X8_takeActed rfl (Nat.le_of_ble_eq_true rfl) (t_X8_takeActed hw ha hx0)
abbrev mu_X10_beginAct : MD := (yX10_beginAct, cX10_beginAct, 1, none, 3)
theorem ok_X10_beginAct : MOK mu_X10_beginAct 0 := ⟨gw_558, gw_20, (by decide +kernel : plainFor yX10_beginAct = true), ⟨(by decide +kernel : yX10_beginAct.cls ≠ "java/lang/invoke/MethodHandle"), (by decide +kernel : yX10_beginAct.cls ≠ "java/lang/invoke/VarHandle"), (by decide +kernel : (parseMethodDescriptor yX10_beginAct.desc).map (fun d => d.parameters.length) = some 0)⟩, Nat.le_of_ble_eq_true rfl⟩
noncomputable def f_X10_beginAct (σ : Mem) : Option Mem :=
  gF σ 0 5 (fun (v1 : Int32) => gR 33 v1 (fun (p2 : Nat) => (f_X8_takeActed σ p2 1).bind (fun (σ3 : Mem) => gF σ3 0 5 (fun (v4 : Int32) => nzI 8 (pF σ3 0 5 ((v4 + 1) - (v4 + 1) / 8 * 8) (fun (σ5 : Mem) => gF σ5 0 4 (fun (v6 : Int32) => (f_J9_min_7cf53 σ5 (v6 + 1) 8).bind (fun (v7 : Int32) => pF σ5 0 4 v7 (fun (σ8 : Mem) => some σ8)))))))))
theorem t_X10_beginAct {w : Wd} (hw : WOK w) {σ : Mem} : JO w mu_X10_beginAct vV σ [(0, .ref (adr w 0))] [] 0 (f_X10_beginAct σ) (fun z => some ((), z)) := by
  unfold f_X10_beginAct
  refine jo_aload_n (pc := 0) 0 rfl dX10_beginAct_0 rfl ?_
  refine jo_getrE (pc := 1) ok_10_3 (ik_0 hw) rf_0_3 gw_480 dX10_beginAct_1 ?_
  refine jo_aload_n (pc := 4) 0 rfl dX10_beginAct_4 rfl ?_
  refine jo_getf (pc := 5) ok_10_5 (ik_0 hw) gw_482 dX10_beginAct_5 (fun v1 => ?_)
  refine jo_aaldG (pc := 8) (z := 8) hw (ik_33 hw) (by decide) (t := 2) rfl rfl (by decide) dX10_beginAct_8 (fun p2 hp2 => ?_)
  refine jo_aload_n (pc := 9) 0 rfl dX10_beginAct_9 rfl ?_
  refine jo_getrE (pc := 10) ok_10_0 (ik_0 hw) rf_0_0 gw_477 dX10_beginAct_10 ?_
  refine jo_cV_V_i (pc := 13) (μ' := mu_X8_takeActed) (fx := f_X8_takeActed σ p2 1) (As := [.ref (adr w 1)]) (c_X8_takeActed hw (hp2) (ik_1 hw)) (ok_X8_takeActed) (ltb rfl) (all3 gw_559 gw_560 gw_561) (hp2) (by decide) (q := (RX8, TX8, 3)) rfl rfl rfl rfl (Nat.le_of_ble_eq_true rfl) dX10_beginAct_13 (fun σ3 => ?_)
  refine jo_aload_n (pc := 16) 0 rfl dX10_beginAct_16 rfl ?_
  refine jo_aload_n (pc := 17) 0 rfl dX10_beginAct_17 rfl ?_
  refine jo_getf (pc := 18) ok_10_5 (ik_0 hw) gw_482 dX10_beginAct_18 (fun v4 => ?_)
  refine jo_iconst (pc := 21) dX10_beginAct_21 (ic_i_1) ?_
  refine jo_iadd (pc := 22) dX10_beginAct_22 ?_
  refine jo_bipush (pc := 23) dX10_beginAct_23 (ic_b_8) ?_
  refine jo_irem (pc := 25) dX10_beginAct_25 ?_
  refine jo_putf (pc := 26) ok_10_5 okp_10_5 (ik_0 hw) gw_482 dX10_beginAct_26 (fun σ5 => ?_)
  refine jo_aload_n (pc := 29) 0 rfl dX10_beginAct_29 rfl ?_
  refine jo_aload_n (pc := 30) 0 rfl dX10_beginAct_30 rfl ?_
  refine jo_getf (pc := 31) ok_10_4 (ik_0 hw) gw_481 dX10_beginAct_31 (fun v6 => ?_)
  refine jo_iconst (pc := 34) dX10_beginAct_34 (ic_i_1) ?_
  refine jo_iadd (pc := 35) dX10_beginAct_35 ?_
  refine jo_bipush (pc := 36) dX10_beginAct_36 (ic_b_8) ?_
  refine jo_cS_I_p (pc := 38) (μ' := mu_J9_min_7cf53) (fx := f_J9_min_7cf53 σ5 (v6 + 1) 8) (As := [.int (v6 + 1), .int 8]) (c_J9_min_7cf53 hw) (ok_J9_min_7cf53) (ltb rfl) (all2 gw_568 gw_569) rfl rfl (Nat.le_of_ble_eq_true rfl) dX10_beginAct_38 (fun v7 => ?_)
  refine jo_putf (pc := 41) ok_10_4 okp_10_4 (ik_0 hw) gw_481 dX10_beginAct_41 (fun σ8 => ?_)
  exact jo_return (pc := 44) rfl rfl dX10_beginAct_44
theorem c_X10_beginAct {w : Wd} (hw : WOK w) {σ : Mem} : ∀ σ', f_X10_beginAct σ = some σ' → MC w mu_X10_beginAct none [.ref (adr w 0)] σ σ' := mc_ofV ok_X10_beginAct rfl (Nat.le_of_ble_eq_true rfl) (t_X10_beginAct hw)
abbrev mu_X10_beginGroupAct : MD := (yX10_beginGroupAct, cX10_beginGroupAct, 1, none, 4)
theorem ok_X10_beginGroupAct : MOK mu_X10_beginGroupAct 0 := ⟨gw_640, gw_20, (by decide +kernel : plainFor yX10_beginGroupAct = true), ⟨(by decide +kernel : yX10_beginGroupAct.cls ≠ "java/lang/invoke/MethodHandle"), (by decide +kernel : yX10_beginGroupAct.cls ≠ "java/lang/invoke/VarHandle"), (by decide +kernel : (parseMethodDescriptor yX10_beginGroupAct.desc).map (fun d => d.parameters.length) = some 0)⟩, Nat.le_of_ble_eq_true rfl⟩
noncomputable def f_X10_beginGroupAct (σ : Mem) : Option Mem :=
  (f_X10_beginAct σ).bind (fun (σ1 : Mem) => (f_X8_clearRegisters σ1 1).bind (fun (σ2 : Mem) => some σ2))
theorem t_X10_beginGroupAct {w : Wd} (hw : WOK w) {σ : Mem} : JO w mu_X10_beginGroupAct vV σ [(0, .ref (adr w 0))] [] 0 (f_X10_beginGroupAct σ) (fun z => some ((), z)) := by
  unfold f_X10_beginGroupAct
  refine jo_aload_n (pc := 0) 0 rfl dX10_beginGroupAct_0 rfl ?_
  refine jo_cV_V_i (pc := 1) (μ' := mu_X10_beginAct) (fx := f_X10_beginAct σ) (As := []) (c_X10_beginAct hw) (ok_X10_beginAct) (ltb rfl) (all3 gw_555 gw_557 gw_11) (ik_0 hw) (by decide) (q := (RX10, TX10, 17)) rfl rfl rfl rfl (Nat.le_of_ble_eq_true rfl) dX10_beginGroupAct_1 (fun σ1 => ?_)
  refine jo_aload_n (pc := 4) 0 rfl dX10_beginGroupAct_4 rfl ?_
  refine jo_getrE (pc := 5) ok_10_0 (ik_0 hw) rf_0_0 gw_477 dX10_beginGroupAct_5 ?_
  refine jo_cV_V_i (pc := 8) (μ' := mu_X8_clearRegisters) (fx := f_X8_clearRegisters σ1 1) (As := []) (c_X8_clearRegisters hw (ik_1 hw)) (ok_X8_clearRegisters) (ltb rfl) (all3 gw_641 gw_642 gw_643) (ik_1 hw) (by decide) (q := (RX8, TX8, 3)) rfl rfl rfl rfl (Nat.le_of_ble_eq_true rfl) dX10_beginGroupAct_8 (fun σ2 => ?_)
  exact jo_return (pc := 11) rfl rfl dX10_beginGroupAct_11
theorem c_X10_beginGroupAct {w : Wd} (hw : WOK w) {σ : Mem} : ∀ σ', f_X10_beginGroupAct σ = some σ' → MC w mu_X10_beginGroupAct none [.ref (adr w 0)] σ σ' := mc_ofV ok_X10_beginGroupAct rfl (Nat.le_of_ble_eq_true rfl) (t_X10_beginGroupAct hw)
abbrev mu_X10_group : MD := (yX10_group, cX10_group, 3, some .boolean, 7)
theorem ok_X10_group : MOK mu_X10_group 2 := ⟨gw_685, gw_20, (by decide +kernel : plainFor yX10_group = true), ⟨(by decide +kernel : yX10_group.cls ≠ "java/lang/invoke/MethodHandle"), (by decide +kernel : yX10_group.cls ≠ "java/lang/invoke/VarHandle"), (by decide +kernel : (parseMethodDescriptor yX10_group.desc).map (fun d => d.parameters.length) = some 2)⟩, Nat.le_of_ble_eq_true rfl⟩
noncomputable def f_X10_group (σ : Mem) (x0 : Int32) (x1 : Int32) : Option (Bool × Mem) :=
  (f_X6_areWeights σ x0 x1).bind (fun (b1 : Bool) => if b1 then (f_X10_beginGroupAct σ).bind (fun (σ2 : Mem) => (f_X6_reset σ2 2 x0 x1).bind (fun (σ3 : Mem) => (f_X4_follow σ3 2).bind (fun (σ4 : Mem) => some (true, σ4)))) else some (false, σ))
theorem t_X10_group {w : Wd} (hw : WOK w) {σ : Mem} {x0 : Int32} {x1 : Int32} : JO w mu_X10_group vB σ [(0, .ref (adr w 0)), (1, .int x0), (2, .int x1)] [] 0 (f_X10_group σ x0 x1) some := by
  unfold f_X10_group
  refine jo_iload_n (pc := 0) 1 rfl dX10_group_0 rfl ?_
  refine jo_iload_n (pc := 1) 2 rfl dX10_group_1 rfl ?_
  refine jo_cS_Z_p (pc := 2) (μ' := mu_X6_areWeights) (fx := f_X6_areWeights σ x0 x1) (As := [.int x0, .int x1]) (c_X6_areWeights hw) (ok_X6_areWeights) (ltb rfl) (all2 gw_686 gw_687) rfl rfl (Nat.le_of_ble_eq_true rfl) dX10_group_2 (fun b1 => ?_)
  refine jo_ifz_ne (pc := 5) dX10_group_5 (tgt := 10) rfl ?_ ?_
  · refine jo_aload_n (pc := 10) 0 rfl dX10_group_10 rfl ?_
    refine jo_cV_V_i (pc := 11) (μ' := mu_X10_beginGroupAct) (fx := f_X10_beginGroupAct σ) (As := []) (c_X10_beginGroupAct hw) (ok_X10_beginGroupAct) (ltb rfl) (all3 gw_637 gw_639 gw_15) (ik_0 hw) (by decide) (q := (RX10, TX10, 17)) rfl rfl rfl rfl (Nat.le_of_ble_eq_true rfl) dX10_group_11 (fun σ2 => ?_)
    refine jo_aload_n (pc := 14) 0 rfl dX10_group_14 rfl ?_
    refine jo_getrE (pc := 15) ok_10_0 (ik_0 hw) rf_0_0 gw_477 dX10_group_15 ?_
    refine jo_getrE (pc := 18) ok_8_0 (ik_1 hw) rf_1_0 gw_79 dX10_group_18 ?_
    refine jo_iload_n (pc := 21) 1 rfl dX10_group_21 rfl ?_
    refine jo_iload_n (pc := 22) 2 rfl dX10_group_22 rfl ?_
    refine jo_cV_V_i (pc := 23) (μ' := mu_X6_reset) (fx := f_X6_reset σ2 2 x0 x1) (As := [.int x0, .int x1]) (c_X6_reset hw (ik_2 hw)) (ok_X6_reset) (ltb rfl) (all3 gw_689 gw_363 gw_364) (ik_2 hw) (by decide) (q := (RX6, TX6, 3)) rfl rfl rfl rfl (Nat.le_of_ble_eq_true rfl) dX10_group_23 (fun σ3 => ?_)
    refine jo_aload_n (pc := 26) 0 rfl dX10_group_26 rfl ?_
    refine jo_getrE (pc := 27) ok_10_9 (ik_0 hw) rf_0_9 gw_486 dX10_group_27 ?_
    refine jo_aload_n (pc := 30) 0 rfl dX10_group_30 rfl ?_
    refine jo_getrE (pc := 31) ok_10_0 (ik_0 hw) rf_0_0 gw_477 dX10_group_31 ?_
    refine jo_getrE (pc := 34) ok_8_0 (ik_1 hw) rf_1_0 gw_79 dX10_group_34 ?_
    refine jo_cV_V_i (pc := 37) (μ' := mu_X4_follow) (fx := f_X4_follow σ3 2) (As := [.ref (adr w 2)]) (c_X4_follow hw (ik_2 hw)) (ok_X4_follow) (ltb rfl) (all3 gw_379 gw_380 gw_381) (ik_40 hw) (by decide) (q := (RX4, TX4, 9)) rfl rfl rfl rfl (Nat.le_of_ble_eq_true rfl) dX10_group_37 (fun σ4 => ?_)
    refine jo_iconst (pc := 40) dX10_group_40 (ic_i_1) ?_
    exact jo_breturn (pc := 41) (b := true) rfl rfl dX10_group_41
  · refine jo_iconst (pc := 8) dX10_group_8 (ic_i_0) ?_
    exact jo_breturn (pc := 9) (b := false) rfl rfl dX10_group_9
theorem c_X10_group {w : Wd} (hw : WOK w) {σ : Mem} {x0 : Int32} {x1 : Int32} : ∀ r σ', f_X10_group σ x0 x1 = some (r, σ') → MC w mu_X10_group (vB r) [.ref (adr w 0), .int x0, .int x1] σ σ' := mc_of ok_X10_group rfl (Nat.le_of_ble_eq_true rfl) (t_X10_group hw)
abbrev mu_X10_tail : MD := (yX10_tail, cX10_tail, 5, some .boolean, 7)
theorem ok_X10_tail : MOK mu_X10_tail 4 := ⟨gw_693, gw_20, (by decide +kernel : plainFor yX10_tail = true), ⟨(by decide +kernel : yX10_tail.cls ≠ "java/lang/invoke/MethodHandle"), (by decide +kernel : yX10_tail.cls ≠ "java/lang/invoke/VarHandle"), (by decide +kernel : (parseMethodDescriptor yX10_tail.desc).map (fun d => d.parameters.length) = some 4)⟩, Nat.le_of_ble_eq_true rfl⟩
noncomputable def f_X10_tail (σ : Mem) (x0 : Int32) (x1 : Int32) (x2 : Int32) (x3 : Int32) : Option (Bool × Mem) :=
  (f_X6_mayBe σ 2 (x0 - 1) (x1 - 1) (x2 - 1) x3).bind (fun (b1 : Bool) => if b1 then (f_X10_beginGroupAct σ).bind (fun (σ2 : Mem) => (f_X6_write σ2 2 (x0 - 1) (x1 - 1) (x2 - 1) x3).bind (fun (σ3 : Mem) => (f_X4_follow σ3 2).bind (fun (σ4 : Mem) => some (true, σ4)))) else some (false, σ))
theorem t_X10_tail {w : Wd} (hw : WOK w) {σ : Mem} {x0 : Int32} {x1 : Int32} {x2 : Int32} {x3 : Int32} : JO w mu_X10_tail vB σ [(0, .ref (adr w 0)), (1, .int x0), (2, .int x1), (3, .int x2), (4, .int x3)] [] 0 (f_X10_tail σ x0 x1 x2 x3) some := by
  unfold f_X10_tail
  refine jo_aload_n (pc := 0) 0 rfl dX10_tail_0 rfl ?_
  refine jo_getrE (pc := 1) ok_10_0 (ik_0 hw) rf_0_0 gw_477 dX10_tail_1 ?_
  refine jo_getrE (pc := 4) ok_8_0 (ik_1 hw) rf_1_0 gw_79 dX10_tail_4 ?_
  refine jo_iload_n (pc := 7) 1 rfl dX10_tail_7 rfl ?_
  refine jo_iconst (pc := 8) dX10_tail_8 (ic_i_1) ?_
  refine jo_isub (pc := 9) dX10_tail_9 ?_
  refine jo_iload_n (pc := 10) 2 rfl dX10_tail_10 rfl ?_
  refine jo_iconst (pc := 11) dX10_tail_11 (ic_i_1) ?_
  refine jo_isub (pc := 12) dX10_tail_12 ?_
  refine jo_iload_n (pc := 13) 3 rfl dX10_tail_13 rfl ?_
  refine jo_iconst (pc := 14) dX10_tail_14 (ic_i_1) ?_
  refine jo_isub (pc := 15) dX10_tail_15 ?_
  refine jo_iload (pc := 16) 4 rfl dX10_tail_16 ?_
  refine jo_cV_Z_p (pc := 18) (μ' := mu_X6_mayBe) (fx := f_X6_mayBe σ 2 (x0 - 1) (x1 - 1) (x2 - 1) x3) (As := [.int (x0 - 1), .int (x1 - 1), .int (x2 - 1), .int x3]) (c_X6_mayBe hw (ik_2 hw)) (ok_X6_mayBe) (ltb rfl) (all3 gw_694 gw_695 gw_696) (ik_2 hw) (by decide) (q := (RX6, TX6, 3)) rfl rfl rfl rfl (Nat.le_of_ble_eq_true rfl) dX10_tail_18 (fun b1 => ?_)
  refine jo_ifz_ne (pc := 21) dX10_tail_21 (tgt := 26) rfl ?_ ?_
  · refine jo_aload_n (pc := 26) 0 rfl dX10_tail_26 rfl ?_
    refine jo_cV_V_i (pc := 27) (μ' := mu_X10_beginGroupAct) (fx := f_X10_beginGroupAct σ) (As := []) (c_X10_beginGroupAct hw) (ok_X10_beginGroupAct) (ltb rfl) (all3 gw_637 gw_639 gw_15) (ik_0 hw) (by decide) (q := (RX10, TX10, 17)) rfl rfl rfl rfl (Nat.le_of_ble_eq_true rfl) dX10_tail_27 (fun σ2 => ?_)
    refine jo_aload_n (pc := 30) 0 rfl dX10_tail_30 rfl ?_
    refine jo_getrE (pc := 31) ok_10_0 (ik_0 hw) rf_0_0 gw_477 dX10_tail_31 ?_
    refine jo_getrE (pc := 34) ok_8_0 (ik_1 hw) rf_1_0 gw_79 dX10_tail_34 ?_
    refine jo_iload_n (pc := 37) 1 rfl dX10_tail_37 rfl ?_
    refine jo_iconst (pc := 38) dX10_tail_38 (ic_i_1) ?_
    refine jo_isub (pc := 39) dX10_tail_39 ?_
    refine jo_iload_n (pc := 40) 2 rfl dX10_tail_40 rfl ?_
    refine jo_iconst (pc := 41) dX10_tail_41 (ic_i_1) ?_
    refine jo_isub (pc := 42) dX10_tail_42 ?_
    refine jo_iload_n (pc := 43) 3 rfl dX10_tail_43 rfl ?_
    refine jo_iconst (pc := 44) dX10_tail_44 (ic_i_1) ?_
    refine jo_isub (pc := 45) dX10_tail_45 ?_
    refine jo_iload (pc := 46) 4 rfl dX10_tail_46 ?_
    refine jo_cV_V_i (pc := 48) (μ' := mu_X6_write) (fx := f_X6_write σ2 2 (x0 - 1) (x1 - 1) (x2 - 1) x3) (As := [.int (x0 - 1), .int (x1 - 1), .int (x2 - 1), .int x3]) (c_X6_write hw (ik_2 hw)) (ok_X6_write) (ltb rfl) (all3 gw_698 gw_372 gw_373) (ik_2 hw) (by decide) (q := (RX6, TX6, 3)) rfl rfl rfl rfl (Nat.le_of_ble_eq_true rfl) dX10_tail_48 (fun σ3 => ?_)
    refine jo_aload_n (pc := 51) 0 rfl dX10_tail_51 rfl ?_
    refine jo_getrE (pc := 52) ok_10_9 (ik_0 hw) rf_0_9 gw_486 dX10_tail_52 ?_
    refine jo_aload_n (pc := 55) 0 rfl dX10_tail_55 rfl ?_
    refine jo_getrE (pc := 56) ok_10_0 (ik_0 hw) rf_0_0 gw_477 dX10_tail_56 ?_
    refine jo_getrE (pc := 59) ok_8_0 (ik_1 hw) rf_1_0 gw_79 dX10_tail_59 ?_
    refine jo_cV_V_i (pc := 62) (μ' := mu_X4_follow) (fx := f_X4_follow σ3 2) (As := [.ref (adr w 2)]) (c_X4_follow hw (ik_2 hw)) (ok_X4_follow) (ltb rfl) (all3 gw_379 gw_380 gw_381) (ik_40 hw) (by decide) (q := (RX4, TX4, 9)) rfl rfl rfl rfl (Nat.le_of_ble_eq_true rfl) dX10_tail_62 (fun σ4 => ?_)
    refine jo_iconst (pc := 65) dX10_tail_65 (ic_i_1) ?_
    exact jo_breturn (pc := 66) (b := true) rfl rfl dX10_tail_66
  · refine jo_iconst (pc := 24) dX10_tail_24 (ic_i_0) ?_
    exact jo_breturn (pc := 25) (b := false) rfl rfl dX10_tail_25
theorem c_X10_tail {w : Wd} (hw : WOK w) {σ : Mem} {x0 : Int32} {x1 : Int32} {x2 : Int32} {x3 : Int32} : ∀ r σ', f_X10_tail σ x0 x1 x2 x3 = some (r, σ') → MC w mu_X10_tail (vB r) [.ref (adr w 0), .int x0, .int x1, .int x2, .int x3] σ σ' := mc_of ok_X10_tail rfl (Nat.le_of_ble_eq_true rfl) (t_X10_tail hw)
abbrev mu_X10_kind : MD := (yX10_kind, cX10_kind, 2, some .boolean, 7)
theorem ok_X10_kind : MOK mu_X10_kind 1 := ⟨gw_635, gw_20, (by decide +kernel : plainFor yX10_kind = true), ⟨(by decide +kernel : yX10_kind.cls ≠ "java/lang/invoke/MethodHandle"), (by decide +kernel : yX10_kind.cls ≠ "java/lang/invoke/VarHandle"), (by decide +kernel : (parseMethodDescriptor yX10_kind.desc).map (fun d => d.parameters.length) = some 1)⟩, Nat.le_of_ble_eq_true rfl⟩
noncomputable def f_X10_kind (σ : Mem) (x0 : Int32) : Option (Bool × Mem) :=
  if x0 < 0 then (some (false, σ)) else (if x0 < (Int32.ofNat (tabL 0)) then ((f_X10_beginGroupAct σ).bind (fun (σ1 : Mem) => (f_X6_takeKind σ1 2 x0).bind (fun (σ2 : Mem) => (f_X4_follow σ2 2).bind (fun (σ3 : Mem) => some (true, σ3))))) else (some (false, σ)))
theorem t_X10_kind {w : Wd} (hw : WOK w) {σ : Mem} {x0 : Int32} : JO w mu_X10_kind vB σ [(0, .ref (adr w 0)), (1, .int x0)] [] 0 (f_X10_kind σ x0) some := by
  unfold f_X10_kind
  refine jo_iload_n (pc := 0) 1 rfl dX10_kind_0 rfl ?_
  refine jo_if_lt (pc := 1) dX10_kind_1 (tgt := 12) rfl ?_ ?_
  · refine jo_iconst (pc := 12) dX10_kind_12 (ic_i_0) ?_
    exact jo_breturn (pc := 13) (b := false) rfl rfl dX10_kind_13
  · refine jo_iload_n (pc := 4) 1 rfl dX10_kind_4 rfl ?_
    refine jo_gets (pc := 5) (k := 0) (by decide) gw_636 dX10_kind_5 ?_
    refine jo_tablen (pc := 8) (by decide) dX10_kind_8 ?_
    refine jo_icmp_lt (pc := 9) dX10_kind_9 (tgt := 14) rfl ?_ ?_
    · refine jo_aload_n (pc := 14) 0 rfl dX10_kind_14 rfl ?_
      refine jo_cV_V_i (pc := 15) (μ' := mu_X10_beginGroupAct) (fx := f_X10_beginGroupAct σ) (As := []) (c_X10_beginGroupAct hw) (ok_X10_beginGroupAct) (ltb rfl) (all3 gw_637 gw_639 gw_15) (ik_0 hw) (by decide) (q := (RX10, TX10, 17)) rfl rfl rfl rfl (Nat.le_of_ble_eq_true rfl) dX10_kind_15 (fun σ1 => ?_)
      refine jo_aload_n (pc := 18) 0 rfl dX10_kind_18 rfl ?_
      refine jo_getrE (pc := 19) ok_10_0 (ik_0 hw) rf_0_0 gw_477 dX10_kind_19 ?_
      refine jo_getrE (pc := 22) ok_8_0 (ik_1 hw) rf_1_0 gw_79 dX10_kind_22 ?_
      refine jo_iload_n (pc := 25) 1 rfl dX10_kind_25 rfl ?_
      refine jo_cV_V_i (pc := 26) (μ' := mu_X6_takeKind) (fx := f_X6_takeKind σ1 2 x0) (As := [.int x0]) (c_X6_takeKind hw (ik_2 hw)) (ok_X6_takeKind) (ltb rfl) (all3 gw_354 gw_355 gw_356) (ik_2 hw) (by decide) (q := (RX6, TX6, 3)) rfl rfl rfl rfl (Nat.le_of_ble_eq_true rfl) dX10_kind_26 (fun σ2 => ?_)
      refine jo_aload_n (pc := 29) 0 rfl dX10_kind_29 rfl ?_
      refine jo_getrE (pc := 30) ok_10_9 (ik_0 hw) rf_0_9 gw_486 dX10_kind_30 ?_
      refine jo_aload_n (pc := 33) 0 rfl dX10_kind_33 rfl ?_
      refine jo_getrE (pc := 34) ok_10_0 (ik_0 hw) rf_0_0 gw_477 dX10_kind_34 ?_
      refine jo_getrE (pc := 37) ok_8_0 (ik_1 hw) rf_1_0 gw_79 dX10_kind_37 ?_
      refine jo_cV_V_i (pc := 40) (μ' := mu_X4_follow) (fx := f_X4_follow σ2 2) (As := [.ref (adr w 2)]) (c_X4_follow hw (ik_2 hw)) (ok_X4_follow) (ltb rfl) (all3 gw_379 gw_380 gw_381) (ik_40 hw) (by decide) (q := (RX4, TX4, 9)) rfl rfl rfl rfl (Nat.le_of_ble_eq_true rfl) dX10_kind_40 (fun σ3 => ?_)
      refine jo_iconst (pc := 43) dX10_kind_43 (ic_i_1) ?_
      exact jo_breturn (pc := 44) (b := true) rfl rfl dX10_kind_44
    · refine jo_iconst (pc := 12) dX10_kind_12 (ic_i_0) ?_
      exact jo_breturn (pc := 13) (b := false) rfl rfl dX10_kind_13
theorem c_X10_kind {w : Wd} (hw : WOK w) {σ : Mem} {x0 : Int32} : ∀ r σ', f_X10_kind σ x0 = some (r, σ') → MC w mu_X10_kind (vB r) [.ref (adr w 0), .int x0] σ σ' := mc_of ok_X10_kind rfl (Nat.le_of_ble_eq_true rfl) (t_X10_kind hw)
abbrev mu_X10_bit : MD := (yX10_bit, cX10_bit, 1, some .int, 0)
theorem ok_X10_bit : MOK mu_X10_bit 1 := ⟨gw_535, gw_20, (by decide +kernel : plainFor yX10_bit = true), ⟨(by decide +kernel : yX10_bit.cls ≠ "java/lang/invoke/MethodHandle"), (by decide +kernel : yX10_bit.cls ≠ "java/lang/invoke/VarHandle"), (by decide +kernel : (parseMethodDescriptor yX10_bit.desc).map (fun d => d.parameters.length) = some 1)⟩, Nat.le_of_ble_eq_true rfl⟩
noncomputable def f_X10_bit (σ : Mem) (x0 : Bool) : Option Int32 :=
  if x0 then some 1 else some 0
theorem t_X10_bit {w : Wd} (hw : WOK w) {σ : Mem} {x0 : Bool} : JO w mu_X10_bit vI σ [(0, .int (b2i x0))] [] 0 (f_X10_bit σ x0) (fun z => some (z, σ)) := by
  unfold f_X10_bit
  refine jo_iload_n (pc := 0) 0 rfl dX10_bit_0 rfl ?_
  refine jo_ifz_eq (pc := 1) dX10_bit_1 (tgt := 8) rfl ?_ ?_
  · refine jo_iconst (pc := 8) dX10_bit_8 (ic_i_0) ?_
    exact jo_ireturn (pc := 9) rfl rfl dX10_bit_9
  · refine jo_iconst (pc := 4) dX10_bit_4 (ic_i_1) ?_
    refine jo_goto (pc := 5) dX10_bit_5 (tgt := 9) rfl ?_
    exact jo_ireturn (pc := 9) rfl rfl dX10_bit_9
theorem c_X10_bit {w : Wd} (hw : WOK w) {σ : Mem} {x0 : Bool} : ∀ r, f_X10_bit σ x0 = some r → MC w mu_X10_bit (vI r) [.int (b2i x0)] σ σ := mc_ofP ok_X10_bit rfl (Nat.le_of_ble_eq_true rfl) (t_X10_bit hw)
abbrev mu_X10_consistent : MD := (yX10_consistent, cX10_consistent, 1, some .int, 1)
theorem ok_X10_consistent : MOK mu_X10_consistent 0 := ⟨gw_532, gw_20, (by decide +kernel : plainFor yX10_consistent = true), ⟨(by decide +kernel : yX10_consistent.cls ≠ "java/lang/invoke/MethodHandle"), (by decide +kernel : yX10_consistent.cls ≠ "java/lang/invoke/VarHandle"), (by decide +kernel : (parseMethodDescriptor yX10_consistent.desc).map (fun d => d.parameters.length) = some 0)⟩, Nat.le_of_ble_eq_true rfl⟩
noncomputable def f_X10_consistent (σ : Mem) : Option Int32 :=
  gZ σ 40 3 (fun (b1 : Bool) => (f_X10_bit σ b1).bind (fun (v2 : Int32) => some v2))
theorem t_X10_consistent {w : Wd} (hw : WOK w) {σ : Mem} : JO w mu_X10_consistent vI σ [(0, .ref (adr w 0))] [] 0 (f_X10_consistent σ) (fun z => some (z, σ)) := by
  unfold f_X10_consistent
  refine jo_aload_n (pc := 0) 0 rfl dX10_consistent_0 rfl ?_
  refine jo_getrE (pc := 1) ok_10_9 (ik_0 hw) rf_0_9 gw_486 dX10_consistent_1 ?_
  refine jo_getz (pc := 4) ok_4_3 (ik_40 hw) gw_159 dX10_consistent_4 (fun b1 => ?_)
  refine jo_cS_I_p (pc := 7) (μ' := mu_X10_bit) (fx := f_X10_bit σ b1) (As := [.int (b2i b1)]) (c_X10_bit hw) (ok_X10_bit) (ltb rfl) (all2 gw_533 gw_534) rfl rfl (Nat.le_of_ble_eq_true rfl) dX10_consistent_7 (fun v2 => ?_)
  exact jo_ireturn (pc := 10) rfl rfl dX10_consistent_10
theorem c_X10_consistent {w : Wd} (hw : WOK w) {σ : Mem} : ∀ r, f_X10_consistent σ = some r → MC w mu_X10_consistent (vI r) [.ref (adr w 0)] σ σ := mc_ofP ok_X10_consistent rfl (Nat.le_of_ble_eq_true rfl) (t_X10_consistent hw)
abbrev mu_X10_isGenerator : MD := (yX10_isGenerator, cX10_isGenerator, 2, some .boolean, 0)
theorem ok_X10_isGenerator : MOK mu_X10_isGenerator 1 := ⟨gw_547, gw_20, (by decide +kernel : plainFor yX10_isGenerator = true), ⟨(by decide +kernel : yX10_isGenerator.cls ≠ "java/lang/invoke/MethodHandle"), (by decide +kernel : yX10_isGenerator.cls ≠ "java/lang/invoke/VarHandle"), (by decide +kernel : (parseMethodDescriptor yX10_isGenerator.desc).map (fun d => d.parameters.length) = some 1)⟩, Nat.le_of_ble_eq_true rfl⟩
noncomputable def j_X10_isGenerator_23  : Option Bool :=
  some false
noncomputable def f_X10_isGenerator (σ : Mem) (x0 : Int32) : Option Bool :=
  (if x0 < 1 then (some (Sum.inl ())) else (gF σ 2 0 (fun (v1 : Int32) => if v1 < x0 then (some (Sum.inl ())) else (some (Sum.inr true)))) : Option (Unit ⊕ Bool)).bind (Sum.elim (fun (z0 : Unit) => j_X10_isGenerator_23) some)
theorem t_X10_isGenerator {w : Wd} (hw : WOK w) {σ : Mem} {x0 : Int32} : JO w mu_X10_isGenerator vB σ [(0, .ref (adr w 0)), (1, .int x0)] [] 0 (f_X10_isGenerator σ x0) (fun z => some (z, σ)) := by
  unfold f_X10_isGenerator
  refine jo_iload_n (pc := 0) 1 rfl dX10_isGenerator_0 rfl ?_
  refine jo_iconst (pc := 1) dX10_isGenerator_1 (ic_i_1) ?_
  refine jo_joinS (S := Unit) (fun (z0 : Unit) => σ) (fun (z0 : Unit) => []) (fun (z0 : Unit) => []) 23 ?_ (fun h23_0 => ?_)
  · intro _
    show JO w mu_X10_isGenerator vB σ [] [] 23 (j_X10_isGenerator_23) _
    unfold j_X10_isGenerator_23
    refine jo_iconst (pc := 23) dX10_isGenerator_23 (ic_i_0) ?_
    exact jo_breturn (pc := 24) (b := false) rfl rfl dX10_isGenerator_24
  · refine jo_icmp_lt (pc := 2) dX10_isGenerator_2 (tgt := 23) rfl ?_ ?_
    · refine jo_lv (lv' := []) [] rfl ?_
      exact jo_leaf (by rfl) (h23_0 ())
    · refine jo_iload_n (pc := 5) 1 rfl dX10_isGenerator_5 rfl ?_
      refine jo_aload_n (pc := 6) 0 rfl dX10_isGenerator_6 rfl ?_
      refine jo_getrE (pc := 7) ok_10_0 (ik_0 hw) rf_0_0 gw_477 dX10_isGenerator_7 ?_
      refine jo_getrE (pc := 10) ok_8_0 (ik_1 hw) rf_1_0 gw_79 dX10_isGenerator_10 ?_
      refine jo_getf (pc := 13) ok_6_0 (ik_2 hw) gw_64 dX10_isGenerator_13 (fun v1 => ?_)
      refine jo_icmp_gt (pc := 16) dX10_isGenerator_16 (tgt := 23) rfl ?_ ?_
      · refine jo_lv (lv' := []) [] rfl ?_
        exact jo_leaf (by rfl) (h23_0 ())
      · refine jo_iconst (pc := 19) dX10_isGenerator_19 (ic_i_1) ?_
        refine jo_goto (pc := 20) dX10_isGenerator_20 (tgt := 24) rfl ?_
        exact jo_breturn (pc := 24) (b := true) rfl rfl dX10_isGenerator_24
theorem c_X10_isGenerator {w : Wd} (hw : WOK w) {σ : Mem} {x0 : Int32} : ∀ r, f_X10_isGenerator σ x0 = some r → MC w mu_X10_isGenerator (vB r) [.ref (adr w 0), .int x0] σ σ := mc_ofP ok_X10_isGenerator rfl (Nat.le_of_ble_eq_true rfl) (t_X10_isGenerator hw)
abbrev mu_X10_hasPolynomial : MD := (yX10_hasPolynomial, cX10_hasPolynomial, 2, some .boolean, 1)
theorem ok_X10_hasPolynomial : MOK mu_X10_hasPolynomial 1 := ⟨gw_543, gw_20, (by decide +kernel : plainFor yX10_hasPolynomial = true), ⟨(by decide +kernel : yX10_hasPolynomial.cls ≠ "java/lang/invoke/MethodHandle"), (by decide +kernel : yX10_hasPolynomial.cls ≠ "java/lang/invoke/VarHandle"), (by decide +kernel : (parseMethodDescriptor yX10_hasPolynomial.desc).map (fun d => d.parameters.length) = some 1)⟩, Nat.le_of_ble_eq_true rfl⟩
noncomputable def j_X10_hasPolynomial_22  : Option Bool :=
  some false
noncomputable def f_X10_hasPolynomial (σ : Mem) (x0 : Int32) : Option Bool :=
  (f_X10_isGenerator σ x0).bind (fun (b1 : Bool) => (if b1 then gZ σ 40 3 (fun (b2 : Bool) => if b2 then some (Sum.inr true) else some (Sum.inl ())) else some (Sum.inl ()) : Option (Unit ⊕ Bool)).bind (Sum.elim (fun (z1 : Unit) => j_X10_hasPolynomial_22) some))
theorem t_X10_hasPolynomial {w : Wd} (hw : WOK w) {σ : Mem} {x0 : Int32} : JO w mu_X10_hasPolynomial vB σ [(0, .ref (adr w 0)), (1, .int x0)] [] 0 (f_X10_hasPolynomial σ x0) (fun z => some (z, σ)) := by
  unfold f_X10_hasPolynomial
  refine jo_aload_n (pc := 0) 0 rfl dX10_hasPolynomial_0 rfl ?_
  refine jo_iload_n (pc := 1) 1 rfl dX10_hasPolynomial_1 rfl ?_
  refine jo_cV_Z_p (pc := 2) (μ' := mu_X10_isGenerator) (fx := f_X10_isGenerator σ x0) (As := [.int x0]) (c_X10_isGenerator hw) (ok_X10_isGenerator) (ltb rfl) (all3 gw_544 gw_546 gw_10) (ik_0 hw) (by decide) (q := (RX10, TX10, 17)) rfl rfl rfl rfl (Nat.le_of_ble_eq_true rfl) dX10_hasPolynomial_2 (fun b1 => ?_)
  refine jo_joinS (S := Unit) (fun (z1 : Unit) => σ) (fun (z1 : Unit) => []) (fun (z1 : Unit) => []) 22 ?_ (fun h22_1 => ?_)
  · intro _
    show JO w mu_X10_hasPolynomial vB σ [] [] 22 (j_X10_hasPolynomial_22) _
    unfold j_X10_hasPolynomial_22
    refine jo_iconst (pc := 22) dX10_hasPolynomial_22 (ic_i_0) ?_
    exact jo_breturn (pc := 23) (b := false) rfl rfl dX10_hasPolynomial_23
  · refine jo_ifz_eq (pc := 5) dX10_hasPolynomial_5 (tgt := 22) rfl ?_ ?_
    · refine jo_lv (lv' := []) [] rfl ?_
      exact jo_leaf (by rfl) (h22_1 ())
    · refine jo_aload_n (pc := 8) 0 rfl dX10_hasPolynomial_8 rfl ?_
      refine jo_getrE (pc := 9) ok_10_9 (ik_0 hw) rf_0_9 gw_486 dX10_hasPolynomial_9 ?_
      refine jo_getz (pc := 12) ok_4_3 (ik_40 hw) gw_159 dX10_hasPolynomial_12 (fun b2 => ?_)
      refine jo_ifz_eq (pc := 15) dX10_hasPolynomial_15 (tgt := 22) rfl ?_ ?_
      · refine jo_lv (lv' := []) [] rfl ?_
        exact jo_leaf (by rfl) (h22_1 ())
      · refine jo_iconst (pc := 18) dX10_hasPolynomial_18 (ic_i_1) ?_
        refine jo_goto (pc := 19) dX10_hasPolynomial_19 (tgt := 23) rfl ?_
        exact jo_breturn (pc := 23) (b := true) rfl rfl dX10_hasPolynomial_23
theorem c_X10_hasPolynomial {w : Wd} (hw : WOK w) {σ : Mem} {x0 : Int32} : ∀ r, f_X10_hasPolynomial σ x0 = some r → MC w mu_X10_hasPolynomial (vB r) [.ref (adr w 0), .int x0] σ σ := mc_ofP ok_X10_hasPolynomial rfl (Nat.le_of_ble_eq_true rfl) (t_X10_hasPolynomial hw)
abbrev mu_X10_terms : MD := (yX10_terms, cX10_terms, 2, some .int, 2)
theorem ok_X10_terms : MOK mu_X10_terms 1 := ⟨gw_539, gw_20, (by decide +kernel : plainFor yX10_terms = true), ⟨(by decide +kernel : yX10_terms.cls ≠ "java/lang/invoke/MethodHandle"), (by decide +kernel : yX10_terms.cls ≠ "java/lang/invoke/VarHandle"), (by decide +kernel : (parseMethodDescriptor yX10_terms.desc).map (fun d => d.parameters.length) = some 1)⟩, Nat.le_of_ble_eq_true rfl⟩
noncomputable def f_X10_terms (σ : Mem) (x0 : Int32) : Option Int32 :=
  (f_X10_hasPolynomial σ x0).bind (fun (b1 : Bool) => if b1 then gR 44 (x0 - 1) (fun (p2 : Nat) => gF σ p2 0 (fun (v3 : Int32) => some v3)) else some (-1))
theorem t_X10_terms {w : Wd} (hw : WOK w) {σ : Mem} {x0 : Int32} : JO w mu_X10_terms vI σ [(0, .ref (adr w 0)), (1, .int x0)] [] 0 (f_X10_terms σ x0) (fun z => some (z, σ)) := by
  unfold f_X10_terms
  refine jo_aload_n (pc := 0) 0 rfl dX10_terms_0 rfl ?_
  refine jo_iload_n (pc := 1) 1 rfl dX10_terms_1 rfl ?_
  refine jo_cV_Z_p (pc := 2) (μ' := mu_X10_hasPolynomial) (fx := f_X10_hasPolynomial σ x0) (As := [.int x0]) (c_X10_hasPolynomial hw) (ok_X10_hasPolynomial) (ltb rfl) (all3 gw_540 gw_542 gw_9) (ik_0 hw) (by decide) (q := (RX10, TX10, 17)) rfl rfl rfl rfl (Nat.le_of_ble_eq_true rfl) dX10_terms_2 (fun b1 => ?_)
  refine jo_ifz_eq (pc := 5) dX10_terms_5 (tgt := 25) rfl ?_ ?_
  · refine jo_iconst (pc := 25) dX10_terms_25 (ic_i_m1) ?_
    exact jo_ireturn (pc := 26) rfl rfl dX10_terms_26
  · refine jo_aload_n (pc := 8) 0 rfl dX10_terms_8 rfl ?_
    refine jo_getrE (pc := 9) ok_10_9 (ik_0 hw) rf_0_9 gw_486 dX10_terms_9 ?_
    refine jo_getrE (pc := 12) ok_4_2 (ik_40 hw) rf_40_2 gw_157 dX10_terms_12 ?_
    refine jo_iload_n (pc := 15) 1 rfl dX10_terms_15 rfl ?_
    refine jo_iconst (pc := 16) dX10_terms_16 (ic_i_1) ?_
    refine jo_isub (pc := 17) dX10_terms_17 ?_
    refine jo_aaldG (pc := 18) (z := 9) hw (ik_44 hw) (by decide) (t := 3) rfl rfl (by decide) dX10_terms_18 (fun p2 hp2 => ?_)
    refine jo_getf (pc := 19) ok_9_0 (hp2) gw_140 dX10_terms_19 (fun v3 => ?_)
    refine jo_goto (pc := 22) dX10_terms_22 (tgt := 26) rfl ?_
    exact jo_ireturn (pc := 26) rfl rfl dX10_terms_26
theorem c_X10_terms {w : Wd} (hw : WOK w) {σ : Mem} {x0 : Int32} : ∀ r, f_X10_terms σ x0 = some r → MC w mu_X10_terms (vI r) [.ref (adr w 0), .int x0] σ σ := mc_ofP ok_X10_terms rfl (Nat.le_of_ble_eq_true rfl) (t_X10_terms hw)
abbrev mu_X10_isRegister : MD := (yX10_isRegister, cX10_isRegister, 1, some .boolean, 0)
theorem ok_X10_isRegister : MOK mu_X10_isRegister 1 := ⟨gw_554, gw_20, (by decide +kernel : plainFor yX10_isRegister = true), ⟨(by decide +kernel : yX10_isRegister.cls ≠ "java/lang/invoke/MethodHandle"), (by decide +kernel : yX10_isRegister.cls ≠ "java/lang/invoke/VarHandle"), (by decide +kernel : (parseMethodDescriptor yX10_isRegister.desc).map (fun d => d.parameters.length) = some 1)⟩, Nat.le_of_ble_eq_true rfl⟩
noncomputable def j_X10_isRegister_14  : Option Bool :=
  some false
noncomputable def f_X10_isRegister (σ : Mem) (x0 : Int32) : Option Bool :=
  (if x0 < 0 then (some (Sum.inl ())) else (if 10 ≤ x0 then (some (Sum.inl ())) else (some (Sum.inr true))) : Option (Unit ⊕ Bool)).bind (Sum.elim (fun (z0 : Unit) => j_X10_isRegister_14) some)
theorem t_X10_isRegister {w : Wd} (hw : WOK w) {σ : Mem} {x0 : Int32} : JO w mu_X10_isRegister vB σ [(0, .int x0)] [] 0 (f_X10_isRegister σ x0) (fun z => some (z, σ)) := by
  unfold f_X10_isRegister
  refine jo_iload_n (pc := 0) 0 rfl dX10_isRegister_0 rfl ?_
  refine jo_joinS (S := Unit) (fun (z0 : Unit) => σ) (fun (z0 : Unit) => []) (fun (z0 : Unit) => []) 14 ?_ (fun h14_0 => ?_)
  · intro _
    show JO w mu_X10_isRegister vB σ [] [] 14 (j_X10_isRegister_14) _
    unfold j_X10_isRegister_14
    refine jo_iconst (pc := 14) dX10_isRegister_14 (ic_i_0) ?_
    exact jo_breturn (pc := 15) (b := false) rfl rfl dX10_isRegister_15
  · refine jo_if_lt (pc := 1) dX10_isRegister_1 (tgt := 14) rfl ?_ ?_
    · refine jo_lv (lv' := []) [] rfl ?_
      exact jo_leaf (by rfl) (h14_0 ())
    · refine jo_iload_n (pc := 4) 0 rfl dX10_isRegister_4 rfl ?_
      refine jo_bipush (pc := 5) dX10_isRegister_5 (ic_b_10) ?_
      refine jo_icmp_ge (pc := 7) dX10_isRegister_7 (tgt := 14) rfl ?_ ?_
      · refine jo_lv (lv' := []) [] rfl ?_
        exact jo_leaf (by rfl) (h14_0 ())
      · refine jo_iconst (pc := 10) dX10_isRegister_10 (ic_i_1) ?_
        refine jo_goto (pc := 11) dX10_isRegister_11 (tgt := 15) rfl ?_
        exact jo_breturn (pc := 15) (b := true) rfl rfl dX10_isRegister_15
theorem c_X10_isRegister {w : Wd} (hw : WOK w) {σ : Mem} {x0 : Int32} : ∀ r, f_X10_isRegister σ x0 = some r → MC w mu_X10_isRegister (vB r) [.int x0] σ σ := mc_ofP ok_X10_isRegister rfl (Nat.le_of_ble_eq_true rfl) (t_X10_isRegister hw)
abbrev mu_X10_set : MD := (yX10_set, cX10_set, 4, some .boolean, 4)
theorem ok_X10_set : MOK mu_X10_set 3 := ⟨gw_551, gw_20, (by decide +kernel : plainFor yX10_set = true), ⟨(by decide +kernel : yX10_set.cls ≠ "java/lang/invoke/MethodHandle"), (by decide +kernel : yX10_set.cls ≠ "java/lang/invoke/VarHandle"), (by decide +kernel : (parseMethodDescriptor yX10_set.desc).map (fun d => d.parameters.length) = some 3)⟩, Nat.le_of_ble_eq_true rfl⟩
noncomputable def f_X10_set (σ : Mem) (x0 : Int32) (x1 : Int32) (x2 : Int32) : Option (Bool × Mem) :=
  (f_X10_isRegister σ x0).bind (fun (b1 : Bool) => if b1 then (f_X10_isGenerator σ x1).bind (fun (b2 : Bool) => if b2 then gZ σ 40 3 (fun (b3 : Bool) => if b3 then if x2 < (-999) then (some (false, σ)) else (if x2 ≤ 999 then ((f_X10_beginAct σ).bind (fun (σ4 : Mem) => gR 5 x0 (fun (p5 : Nat) => pL σ4 p5 (x1 - 1) (Int32.toInt64 x2) (fun (σ6 : Mem) => some (true, σ6))))) else (some (false, σ))) else some (false, σ)) else some (false, σ)) else some (false, σ))
theorem t_X10_set {w : Wd} (hw : WOK w) {σ : Mem} {x0 : Int32} {x1 : Int32} {x2 : Int32} : JO w mu_X10_set vB σ [(0, .ref (adr w 0)), (1, .int x0), (2, .int x1), (3, .int x2)] [] 0 (f_X10_set σ x0 x1 x2) some := by
  unfold f_X10_set
  refine jo_iload_n (pc := 0) 1 rfl dX10_set_0 rfl ?_
  refine jo_cS_Z_p (pc := 1) (μ' := mu_X10_isRegister) (fx := f_X10_isRegister σ x0) (As := [.int x0]) (c_X10_isRegister hw) (ok_X10_isRegister) (ltb rfl) (all2 gw_552 gw_553) rfl rfl (Nat.le_of_ble_eq_true rfl) dX10_set_1 (fun b1 => ?_)
  refine jo_ifz_eq (pc := 4) dX10_set_4 (tgt := 25) rfl ?_ ?_
  · refine jo_iconst (pc := 25) dX10_set_25 (ic_i_0) ?_
    exact jo_breturn (pc := 26) (b := false) rfl rfl dX10_set_26
  · refine jo_aload_n (pc := 7) 0 rfl dX10_set_7 rfl ?_
    refine jo_iload_n (pc := 8) 2 rfl dX10_set_8 rfl ?_
    refine jo_cV_Z_p (pc := 9) (μ' := mu_X10_isGenerator) (fx := f_X10_isGenerator σ x1) (As := [.int x1]) (c_X10_isGenerator hw) (ok_X10_isGenerator) (ltb rfl) (all3 gw_544 gw_546 gw_10) (ik_0 hw) (by decide) (q := (RX10, TX10, 17)) rfl rfl rfl rfl (Nat.le_of_ble_eq_true rfl) dX10_set_9 (fun b2 => ?_)
    refine jo_ifz_eq (pc := 12) dX10_set_12 (tgt := 25) rfl ?_ ?_
    · refine jo_iconst (pc := 25) dX10_set_25 (ic_i_0) ?_
      exact jo_breturn (pc := 26) (b := false) rfl rfl dX10_set_26
    · refine jo_aload_n (pc := 15) 0 rfl dX10_set_15 rfl ?_
      refine jo_getrE (pc := 16) ok_10_9 (ik_0 hw) rf_0_9 gw_486 dX10_set_16 ?_
      refine jo_getz (pc := 19) ok_4_3 (ik_40 hw) gw_159 dX10_set_19 (fun b3 => ?_)
      refine jo_ifz_ne (pc := 22) dX10_set_22 (tgt := 27) rfl ?_ ?_
      · refine jo_iload_n (pc := 27) 3 rfl dX10_set_27 rfl ?_
        refine jo_sipush (pc := 28) dX10_set_28 (ic_s_m999) ?_
        refine jo_icmp_lt (pc := 31) dX10_set_31 (tgt := 41) rfl ?_ ?_
        · refine jo_iconst (pc := 41) dX10_set_41 (ic_i_0) ?_
          exact jo_breturn (pc := 42) (b := false) rfl rfl dX10_set_42
        · refine jo_iload_n (pc := 34) 3 rfl dX10_set_34 rfl ?_
          refine jo_sipush (pc := 35) dX10_set_35 (ic_s_999) ?_
          refine jo_icmp_le (pc := 38) dX10_set_38 (tgt := 43) rfl ?_ ?_
          · refine jo_aload_n (pc := 43) 0 rfl dX10_set_43 rfl ?_
            refine jo_cV_V_i (pc := 44) (μ' := mu_X10_beginAct) (fx := f_X10_beginAct σ) (As := []) (c_X10_beginAct hw) (ok_X10_beginAct) (ltb rfl) (all3 gw_555 gw_557 gw_11) (ik_0 hw) (by decide) (q := (RX10, TX10, 17)) rfl rfl rfl rfl (Nat.le_of_ble_eq_true rfl) dX10_set_44 (fun σ4 => ?_)
            refine jo_aload_n (pc := 47) 0 rfl dX10_set_47 rfl ?_
            refine jo_getrE (pc := 48) ok_10_0 (ik_0 hw) rf_0_0 gw_477 dX10_set_48 ?_
            refine jo_getrE (pc := 51) ok_8_1 (ik_1 hw) rf_1_1 gw_81 dX10_set_51 ?_
            refine jo_iload_n (pc := 54) 1 rfl dX10_set_54 rfl ?_
            refine jo_aaldG (pc := 55) (z := 13) hw (ik_5 hw) (by decide) (t := 4) rfl rfl (by decide) dX10_set_55 (fun p5 hp5 => ?_)
            refine jo_iload_n (pc := 56) 2 rfl dX10_set_56 rfl ?_
            refine jo_iconst (pc := 57) dX10_set_57 (ic_i_1) ?_
            refine jo_isub (pc := 58) dX10_set_58 ?_
            refine jo_iload_n (pc := 59) 3 rfl dX10_set_59 rfl ?_
            refine jo_i2l (pc := 60) dX10_set_60 ?_
            refine jo_last (pc := 61) (hp5) dX10_set_61 (fun σ6 => ?_)
            refine jo_iconst (pc := 62) dX10_set_62 (ic_i_1) ?_
            exact jo_breturn (pc := 63) (b := true) rfl rfl dX10_set_63
          · refine jo_iconst (pc := 41) dX10_set_41 (ic_i_0) ?_
            exact jo_breturn (pc := 42) (b := false) rfl rfl dX10_set_42
      · refine jo_iconst (pc := 25) dX10_set_25 (ic_i_0) ?_
        exact jo_breturn (pc := 26) (b := false) rfl rfl dX10_set_26
theorem c_X10_set {w : Wd} (hw : WOK w) {σ : Mem} {x0 : Int32} {x1 : Int32} {x2 : Int32} : ∀ r σ', f_X10_set σ x0 x1 x2 = some (r, σ') → MC w mu_X10_set (vB r) [.ref (adr w 0), .int x0, .int x1, .int x2] σ σ' := mc_of ok_X10_set rfl (Nat.le_of_ble_eq_true rfl) (t_X10_set hw)
abbrev mu_X10_areUsable : MD := (yX10_areUsable, cX10_areUsable, 3, some .boolean, 1)
theorem ok_X10_areUsable : MOK mu_X10_areUsable 2 := ⟨gw_578, gw_20, (by decide +kernel : plainFor yX10_areUsable = true), ⟨(by decide +kernel : yX10_areUsable.cls ≠ "java/lang/invoke/MethodHandle"), (by decide +kernel : yX10_areUsable.cls ≠ "java/lang/invoke/VarHandle"), (by decide +kernel : (parseMethodDescriptor yX10_areUsable.desc).map (fun d => d.parameters.length) = some 2)⟩, Nat.le_of_ble_eq_true rfl⟩
noncomputable def j_X10_areUsable_28  : Option Bool :=
  some false
noncomputable def f_X10_areUsable (σ : Mem) (x0 : Int32) (x1 : Int32) : Option Bool :=
  (f_X10_isRegister σ x0).bind (fun (b1 : Bool) => (if b1 then (f_X10_isRegister σ x1).bind (fun (b2 : Bool) => if b2 then gZ σ 40 3 (fun (b3 : Bool) => if b3 then some (Sum.inr true) else some (Sum.inl ())) else some (Sum.inl ())) else some (Sum.inl ()) : Option (Unit ⊕ Bool)).bind (Sum.elim (fun (z1 : Unit) => j_X10_areUsable_28) some))
theorem t_X10_areUsable {w : Wd} (hw : WOK w) {σ : Mem} {x0 : Int32} {x1 : Int32} : JO w mu_X10_areUsable vB σ [(0, .ref (adr w 0)), (1, .int x0), (2, .int x1)] [] 0 (f_X10_areUsable σ x0 x1) (fun z => some (z, σ)) := by
  unfold f_X10_areUsable
  refine jo_iload_n (pc := 0) 1 rfl dX10_areUsable_0 rfl ?_
  refine jo_cS_Z_p (pc := 1) (μ' := mu_X10_isRegister) (fx := f_X10_isRegister σ x0) (As := [.int x0]) (c_X10_isRegister hw) (ok_X10_isRegister) (ltb rfl) (all2 gw_552 gw_553) rfl rfl (Nat.le_of_ble_eq_true rfl) dX10_areUsable_1 (fun b1 => ?_)
  refine jo_joinS (S := Unit) (fun (z1 : Unit) => σ) (fun (z1 : Unit) => []) (fun (z1 : Unit) => []) 28 ?_ (fun h28_1 => ?_)
  · intro _
    show JO w mu_X10_areUsable vB σ [] [] 28 (j_X10_areUsable_28) _
    unfold j_X10_areUsable_28
    refine jo_iconst (pc := 28) dX10_areUsable_28 (ic_i_0) ?_
    exact jo_breturn (pc := 29) (b := false) rfl rfl dX10_areUsable_29
  · refine jo_ifz_eq (pc := 4) dX10_areUsable_4 (tgt := 28) rfl ?_ ?_
    · refine jo_lv (lv' := []) [] rfl ?_
      exact jo_leaf (by rfl) (h28_1 ())
    · refine jo_iload_n (pc := 7) 2 rfl dX10_areUsable_7 rfl ?_
      refine jo_cS_Z_p (pc := 8) (μ' := mu_X10_isRegister) (fx := f_X10_isRegister σ x1) (As := [.int x1]) (c_X10_isRegister hw) (ok_X10_isRegister) (ltb rfl) (all2 gw_552 gw_553) rfl rfl (Nat.le_of_ble_eq_true rfl) dX10_areUsable_8 (fun b2 => ?_)
      refine jo_ifz_eq (pc := 11) dX10_areUsable_11 (tgt := 28) rfl ?_ ?_
      · refine jo_lv (lv' := []) [] rfl ?_
        exact jo_leaf (by rfl) (h28_1 ())
      · refine jo_aload_n (pc := 14) 0 rfl dX10_areUsable_14 rfl ?_
        refine jo_getrE (pc := 15) ok_10_9 (ik_0 hw) rf_0_9 gw_486 dX10_areUsable_15 ?_
        refine jo_getz (pc := 18) ok_4_3 (ik_40 hw) gw_159 dX10_areUsable_18 (fun b3 => ?_)
        refine jo_ifz_eq (pc := 21) dX10_areUsable_21 (tgt := 28) rfl ?_ ?_
        · refine jo_lv (lv' := []) [] rfl ?_
          exact jo_leaf (by rfl) (h28_1 ())
        · refine jo_iconst (pc := 24) dX10_areUsable_24 (ic_i_1) ?_
          refine jo_goto (pc := 25) dX10_areUsable_25 (tgt := 29) rfl ?_
          exact jo_breturn (pc := 29) (b := true) rfl rfl dX10_areUsable_29
theorem c_X10_areUsable {w : Wd} (hw : WOK w) {σ : Mem} {x0 : Int32} {x1 : Int32} : ∀ r, f_X10_areUsable σ x0 x1 = some r → MC w mu_X10_areUsable (vB r) [.ref (adr w 0), .int x0, .int x1] σ σ := mc_ofP ok_X10_areUsable rfl (Nat.le_of_ble_eq_true rfl) (t_X10_areUsable hw)
abbrev mu_X10_keep : MD := (yX10_keep, cX10_keep, 2, some .boolean, 4)
theorem ok_X10_keep : MOK mu_X10_keep 1 := ⟨gw_596, gw_20, (by decide +kernel : plainFor yX10_keep = true), ⟨(by decide +kernel : yX10_keep.cls ≠ "java/lang/invoke/MethodHandle"), (by decide +kernel : yX10_keep.cls ≠ "java/lang/invoke/VarHandle"), (by decide +kernel : (parseMethodDescriptor yX10_keep.desc).map (fun d => d.parameters.length) = some 1)⟩, Nat.le_of_ble_eq_true rfl⟩
noncomputable def f_X10_keep (σ : Mem) (x0 : Int32) : Option (Bool × Mem) :=
  (f_X10_isRegister σ x0).bind (fun (b1 : Bool) => if b1 then (f_X0_isWithin σ 176 999).bind (fun (b2 : Bool) => if b2 then (f_X10_beginAct σ).bind (fun (σ3 : Mem) => gR 5 x0 (fun (p4 : Nat) => (f_X0_copy σ3 176 p4).bind (fun (σ5 : Mem) => some (true, σ5)))) else some (false, σ)) else some (false, σ))
theorem t_X10_keep {w : Wd} (hw : WOK w) {σ : Mem} {x0 : Int32} : JO w mu_X10_keep vB σ [(0, .ref (adr w 0)), (1, .int x0)] [] 0 (f_X10_keep σ x0) some := by
  unfold f_X10_keep
  refine jo_iload_n (pc := 0) 1 rfl dX10_keep_0 rfl ?_
  refine jo_cS_Z_p (pc := 1) (μ' := mu_X10_isRegister) (fx := f_X10_isRegister σ x0) (As := [.int x0]) (c_X10_isRegister hw) (ok_X10_isRegister) (ltb rfl) (all2 gw_552 gw_553) rfl rfl (Nat.le_of_ble_eq_true rfl) dX10_keep_1 (fun b1 => ?_)
  refine jo_ifz_eq (pc := 4) dX10_keep_4 (tgt := 20) rfl ?_ ?_
  · refine jo_iconst (pc := 20) dX10_keep_20 (ic_i_0) ?_
    exact jo_breturn (pc := 21) (b := false) rfl rfl dX10_keep_21
  · refine jo_aload_n (pc := 7) 0 rfl dX10_keep_7 rfl ?_
    refine jo_getrE (pc := 8) ok_10_15 (ik_0 hw) rf_0_15 gw_492 dX10_keep_8 ?_
    refine jo_ldc2 (pc := 11) dX10_keep_11 gw_589 ?_
    refine jo_cS_Z_p (pc := 14) (μ' := mu_X0_isWithin) (fx := f_X0_isWithin σ 176 999) (As := [.ref (adr w 176), .long 999]) (c_X0_isWithin hw (ik_176 hw)) (ok_X0_isWithin) (ltb rfl) (all2 gw_590 gw_591) rfl rfl (Nat.le_of_ble_eq_true rfl) dX10_keep_14 (fun b2 => ?_)
    refine jo_ifz_ne (pc := 17) dX10_keep_17 (tgt := 22) rfl ?_ ?_
    · refine jo_aload_n (pc := 22) 0 rfl dX10_keep_22 rfl ?_
      refine jo_cV_V_i (pc := 23) (μ' := mu_X10_beginAct) (fx := f_X10_beginAct σ) (As := []) (c_X10_beginAct hw) (ok_X10_beginAct) (ltb rfl) (all3 gw_555 gw_557 gw_11) (ik_0 hw) (by decide) (q := (RX10, TX10, 17)) rfl rfl rfl rfl (Nat.le_of_ble_eq_true rfl) dX10_keep_23 (fun σ3 => ?_)
      refine jo_aload_n (pc := 26) 0 rfl dX10_keep_26 rfl ?_
      refine jo_getrE (pc := 27) ok_10_15 (ik_0 hw) rf_0_15 gw_492 dX10_keep_27 ?_
      refine jo_aload_n (pc := 30) 0 rfl dX10_keep_30 rfl ?_
      refine jo_getrE (pc := 31) ok_10_0 (ik_0 hw) rf_0_0 gw_477 dX10_keep_31 ?_
      refine jo_getrE (pc := 34) ok_8_1 (ik_1 hw) rf_1_1 gw_81 dX10_keep_34 ?_
      refine jo_iload_n (pc := 37) 1 rfl dX10_keep_37 rfl ?_
      refine jo_aaldG (pc := 38) (z := 13) hw (ik_5 hw) (by decide) (t := 4) rfl rfl (by decide) dX10_keep_38 (fun p4 hp4 => ?_)
      refine jo_cS_V_i (pc := 39) (μ' := mu_X0_copy) (fx := f_X0_copy σ3 176 p4) (As := [.ref (adr w 176), .ref (adr w p4)]) (c_X0_copy hw (ik_176 hw) (hp4)) (ok_X0_copy) (ltb rfl) (all2 gw_597 gw_565) rfl rfl (Nat.le_of_ble_eq_true rfl) dX10_keep_39 (fun σ5 => ?_)
      refine jo_iconst (pc := 42) dX10_keep_42 (ic_i_1) ?_
      exact jo_breturn (pc := 43) (b := true) rfl rfl dX10_keep_43
    · refine jo_iconst (pc := 20) dX10_keep_20 (ic_i_0) ?_
      exact jo_breturn (pc := 21) (b := false) rfl rfl dX10_keep_21
theorem c_X10_keep {w : Wd} (hw : WOK w) {σ : Mem} {x0 : Int32} : ∀ r σ', f_X10_keep σ x0 = some (r, σ') → MC w mu_X10_keep (vB r) [.ref (adr w 0), .int x0] σ σ' := mc_of ok_X10_keep rfl (Nat.le_of_ble_eq_true rfl) (t_X10_keep hw)
abbrev mu_X10_keepCounted : MD := (yX10_keepCounted, cX10_keepCounted, 2, some .boolean, 5)
theorem ok_X10_keepCounted : MOK mu_X10_keepCounted 1 := ⟨gw_588, gw_20, (by decide +kernel : plainFor yX10_keepCounted = true), ⟨(by decide +kernel : yX10_keepCounted.cls ≠ "java/lang/invoke/MethodHandle"), (by decide +kernel : yX10_keepCounted.cls ≠ "java/lang/invoke/VarHandle"), (by decide +kernel : (parseMethodDescriptor yX10_keepCounted.desc).map (fun d => d.parameters.length) = some 1)⟩, Nat.le_of_ble_eq_true rfl⟩
noncomputable def f_X10_keepCounted (σ : Mem) (x0 : Int32) : Option (Bool × Mem) :=
  (f_X0_isWithin σ 176 999).bind (fun (b1 : Bool) => if b1 then bq (f_X10_keep σ x0) (fun (b2 : Bool) (σ3 : Mem) => some (b2, σ3)) else gI σ 16 0 (fun (v4 : Int32) => pI σ 16 0 (v4 + 1) (fun (σ5 : Mem) => some (false, σ5))))
theorem t_X10_keepCounted {w : Wd} (hw : WOK w) {σ : Mem} {x0 : Int32} : JO w mu_X10_keepCounted vB σ [(0, .ref (adr w 0)), (1, .int x0)] [] 0 (f_X10_keepCounted σ x0) some := by
  unfold f_X10_keepCounted
  refine jo_aload_n (pc := 0) 0 rfl dX10_keepCounted_0 rfl ?_
  refine jo_getrE (pc := 1) ok_10_15 (ik_0 hw) rf_0_15 gw_492 dX10_keepCounted_1 ?_
  refine jo_ldc2 (pc := 4) dX10_keepCounted_4 gw_589 ?_
  refine jo_cS_Z_p (pc := 7) (μ' := mu_X0_isWithin) (fx := f_X0_isWithin σ 176 999) (As := [.ref (adr w 176), .long 999]) (c_X0_isWithin hw (ik_176 hw)) (ok_X0_isWithin) (ltb rfl) (all2 gw_590 gw_591) rfl rfl (Nat.le_of_ble_eq_true rfl) dX10_keepCounted_7 (fun b1 => ?_)
  refine jo_ifz_ne (pc := 10) dX10_keepCounted_10 (tgt := 28) rfl ?_ ?_
  · refine jo_aload_n (pc := 28) 0 rfl dX10_keepCounted_28 rfl ?_
    refine jo_iload_n (pc := 29) 1 rfl dX10_keepCounted_29 rfl ?_
    refine jo_cV_Z_i (pc := 30) (μ' := mu_X10_keep) (fx := f_X10_keep σ x0) (As := [.int x0]) (c_X10_keep hw) (ok_X10_keep) (ltb rfl) (all3 gw_593 gw_595 gw_14) (ik_0 hw) (by decide) (q := (RX10, TX10, 17)) rfl rfl rfl rfl (Nat.le_of_ble_eq_true rfl) dX10_keepCounted_30 (fun b2 σ3 => ?_)
    exact jo_breturn (pc := 33) (b := b2) rfl rfl dX10_keepCounted_33
  · refine jo_aload_n (pc := 13) 0 rfl dX10_keepCounted_13 rfl ?_
    refine jo_getrE (pc := 14) ok_10_0 (ik_0 hw) rf_0_0 gw_477 dX10_keepCounted_14 ?_
    refine jo_getrE (pc := 17) ok_8_2 (ik_1 hw) rf_1_2 gw_83 dX10_keepCounted_17 ?_
    refine jo_iconst (pc := 20) dX10_keepCounted_20 (ic_i_0) ?_
    refine jo_dup2 (pc := 21) dX10_keepCounted_21 rfl rfl ?_
    refine jo_iald (pc := 22) (ik_16 hw) dX10_keepCounted_22 (fun v4 => ?_)
    refine jo_iconst (pc := 23) dX10_keepCounted_23 (ic_i_1) ?_
    refine jo_iadd (pc := 24) dX10_keepCounted_24 ?_
    refine jo_iast (pc := 25) (ik_16 hw) dX10_keepCounted_25 (fun σ5 => ?_)
    refine jo_iconst (pc := 26) dX10_keepCounted_26 (ic_i_0) ?_
    exact jo_breturn (pc := 27) (b := false) rfl rfl dX10_keepCounted_27
theorem c_X10_keepCounted {w : Wd} (hw : WOK w) {σ : Mem} {x0 : Int32} : ∀ r σ', f_X10_keepCounted σ x0 = some (r, σ') → MC w mu_X10_keepCounted (vB r) [.ref (adr w 0), .int x0] σ σ' := mc_of ok_X10_keepCounted rfl (Nat.le_of_ble_eq_true rfl) (t_X10_keepCounted hw)
abbrev mu_X10_multiply : MD := (yX10_multiply, cX10_multiply, 4, some .boolean, 6)
theorem ok_X10_multiply : MOK mu_X10_multiply 3 := ⟨gw_574, gw_20, (by decide +kernel : plainFor yX10_multiply = true), ⟨(by decide +kernel : yX10_multiply.cls ≠ "java/lang/invoke/MethodHandle"), (by decide +kernel : yX10_multiply.cls ≠ "java/lang/invoke/VarHandle"), (by decide +kernel : (parseMethodDescriptor yX10_multiply.desc).map (fun d => d.parameters.length) = some 3)⟩, Nat.le_of_ble_eq_true rfl⟩
noncomputable def f_X10_multiply (σ : Mem) (x0 : Int32) (x1 : Int32) (x2 : Int32) : Option (Bool × Mem) :=
  (f_X10_areUsable σ x0 x1).bind (fun (b1 : Bool) => if b1 then (f_X10_isRegister σ x2).bind (fun (b2 : Bool) => if b2 then gR 5 x1 (fun (p3 : Nat) => gR 5 x2 (fun (p4 : Nat) => (f_X0_product σ 176 p3 p4).bind (fun (σ5 : Mem) => bq (f_X10_keepCounted σ5 x0) (fun (b6 : Bool) (σ7 : Mem) => some (b6, σ7))))) else some (false, σ)) else some (false, σ))
theorem t_X10_multiply {w : Wd} (hw : WOK w) {σ : Mem} {x0 : Int32} {x1 : Int32} {x2 : Int32} : JO w mu_X10_multiply vB σ [(0, .ref (adr w 0)), (1, .int x0), (2, .int x1), (3, .int x2)] [] 0 (f_X10_multiply σ x0 x1 x2) some := by
  unfold f_X10_multiply
  refine jo_aload_n (pc := 0) 0 rfl dX10_multiply_0 rfl ?_
  refine jo_iload_n (pc := 1) 1 rfl dX10_multiply_1 rfl ?_
  refine jo_iload_n (pc := 2) 2 rfl dX10_multiply_2 rfl ?_
  refine jo_cV_Z_p (pc := 3) (μ' := mu_X10_areUsable) (fx := f_X10_areUsable σ x0 x1) (As := [.int x0, .int x1]) (c_X10_areUsable hw) (ok_X10_areUsable) (ltb rfl) (all3 gw_575 gw_577 gw_12) (ik_0 hw) (by decide) (q := (RX10, TX10, 17)) rfl rfl rfl rfl (Nat.le_of_ble_eq_true rfl) dX10_multiply_3 (fun b1 => ?_)
  refine jo_ifz_eq (pc := 6) dX10_multiply_6 (tgt := 16) rfl ?_ ?_
  · refine jo_iconst (pc := 16) dX10_multiply_16 (ic_i_0) ?_
    exact jo_breturn (pc := 17) (b := false) rfl rfl dX10_multiply_17
  · refine jo_iload_n (pc := 9) 3 rfl dX10_multiply_9 rfl ?_
    refine jo_cS_Z_p (pc := 10) (μ' := mu_X10_isRegister) (fx := f_X10_isRegister σ x2) (As := [.int x2]) (c_X10_isRegister hw) (ok_X10_isRegister) (ltb rfl) (all2 gw_552 gw_553) rfl rfl (Nat.le_of_ble_eq_true rfl) dX10_multiply_10 (fun b2 => ?_)
    refine jo_ifz_ne (pc := 13) dX10_multiply_13 (tgt := 18) rfl ?_ ?_
    · refine jo_aload_n (pc := 18) 0 rfl dX10_multiply_18 rfl ?_
      refine jo_getrE (pc := 19) ok_10_10 (ik_0 hw) rf_0_10 gw_487 dX10_multiply_19 ?_
      refine jo_aload_n (pc := 22) 0 rfl dX10_multiply_22 rfl ?_
      refine jo_getrE (pc := 23) ok_10_15 (ik_0 hw) rf_0_15 gw_492 dX10_multiply_23 ?_
      refine jo_aload_n (pc := 26) 0 rfl dX10_multiply_26 rfl ?_
      refine jo_getrE (pc := 27) ok_10_0 (ik_0 hw) rf_0_0 gw_477 dX10_multiply_27 ?_
      refine jo_getrE (pc := 30) ok_8_1 (ik_1 hw) rf_1_1 gw_81 dX10_multiply_30 ?_
      refine jo_iload_n (pc := 33) 2 rfl dX10_multiply_33 rfl ?_
      refine jo_aaldG (pc := 34) (z := 13) hw (ik_5 hw) (by decide) (t := 4) rfl rfl (by decide) dX10_multiply_34 (fun p3 hp3 => ?_)
      refine jo_aload_n (pc := 35) 0 rfl dX10_multiply_35 rfl ?_
      refine jo_getrE (pc := 36) ok_10_0 (ik_0 hw) rf_0_0 gw_477 dX10_multiply_36 ?_
      refine jo_getrE (pc := 39) ok_8_1 (ik_1 hw) rf_1_1 gw_81 dX10_multiply_39 ?_
      refine jo_iload_n (pc := 42) 3 rfl dX10_multiply_42 rfl ?_
      refine jo_aaldG (pc := 43) (z := 13) hw (ik_5 hw) (by decide) (t := 4) rfl rfl (by decide) dX10_multiply_43 (fun p4 hp4 => ?_)
      refine jo_cV_V_i (pc := 44) (μ' := mu_X0_product) (fx := f_X0_product σ 176 p3 p4) (As := [.ref (adr w 176), .ref (adr w p3), .ref (adr w p4)]) (c_X0_product hw (ik_176 hw) (hp3) (hp4)) (ok_X0_product) (ltb rfl) (all3 gw_579 gw_580 gw_581) (ik_72 hw) (by decide) (q := (RX0, TX0, 8)) rfl rfl rfl rfl (Nat.le_of_ble_eq_true rfl) dX10_multiply_44 (fun σ5 => ?_)
      refine jo_aload_n (pc := 47) 0 rfl dX10_multiply_47 rfl ?_
      refine jo_iload_n (pc := 48) 1 rfl dX10_multiply_48 rfl ?_
      refine jo_cV_Z_i (pc := 49) (μ' := mu_X10_keepCounted) (fx := f_X10_keepCounted σ5 x0) (As := [.int x0]) (c_X10_keepCounted hw) (ok_X10_keepCounted) (ltb rfl) (all3 gw_585 gw_587 gw_13) (ik_0 hw) (by decide) (q := (RX10, TX10, 17)) rfl rfl rfl rfl (Nat.le_of_ble_eq_true rfl) dX10_multiply_49 (fun b6 σ7 => ?_)
      exact jo_breturn (pc := 52) (b := b6) rfl rfl dX10_multiply_52
    · refine jo_iconst (pc := 16) dX10_multiply_16 (ic_i_0) ?_
      exact jo_breturn (pc := 17) (b := false) rfl rfl dX10_multiply_17
theorem c_X10_multiply {w : Wd} (hw : WOK w) {σ : Mem} {x0 : Int32} {x1 : Int32} {x2 : Int32} : ∀ r σ', f_X10_multiply σ x0 x1 x2 = some (r, σ') → MC w mu_X10_multiply (vB r) [.ref (adr w 0), .int x0, .int x1, .int x2] σ σ' := mc_of ok_X10_multiply rfl (Nat.le_of_ble_eq_true rfl) (t_X10_multiply hw)
abbrev mu_X10_invert : MD := (yX10_invert, cX10_invert, 3, some .boolean, 6)
theorem ok_X10_invert : MOK mu_X10_invert 2 := ⟨gw_780, gw_20, (by decide +kernel : plainFor yX10_invert = true), ⟨(by decide +kernel : yX10_invert.cls ≠ "java/lang/invoke/MethodHandle"), (by decide +kernel : yX10_invert.cls ≠ "java/lang/invoke/VarHandle"), (by decide +kernel : (parseMethodDescriptor yX10_invert.desc).map (fun d => d.parameters.length) = some 2)⟩, Nat.le_of_ble_eq_true rfl⟩
noncomputable def f_X10_invert (σ : Mem) (x0 : Int32) (x1 : Int32) : Option (Bool × Mem) :=
  (f_X10_areUsable σ x0 x1).bind (fun (b1 : Bool) => if b1 then gR 5 x1 (fun (p2 : Nat) => (f_X0_inverse σ 176 p2).bind (fun (σ3 : Mem) => bq (f_X10_keepCounted σ3 x0) (fun (b4 : Bool) (σ5 : Mem) => some (b4, σ5)))) else some (false, σ))
theorem t_X10_invert {w : Wd} (hw : WOK w) {σ : Mem} {x0 : Int32} {x1 : Int32} : JO w mu_X10_invert vB σ [(0, .ref (adr w 0)), (1, .int x0), (2, .int x1)] [] 0 (f_X10_invert σ x0 x1) some := by
  unfold f_X10_invert
  refine jo_aload_n (pc := 0) 0 rfl dX10_invert_0 rfl ?_
  refine jo_iload_n (pc := 1) 1 rfl dX10_invert_1 rfl ?_
  refine jo_iload_n (pc := 2) 2 rfl dX10_invert_2 rfl ?_
  refine jo_cV_Z_p (pc := 3) (μ' := mu_X10_areUsable) (fx := f_X10_areUsable σ x0 x1) (As := [.int x0, .int x1]) (c_X10_areUsable hw) (ok_X10_areUsable) (ltb rfl) (all3 gw_575 gw_577 gw_12) (ik_0 hw) (by decide) (q := (RX10, TX10, 17)) rfl rfl rfl rfl (Nat.le_of_ble_eq_true rfl) dX10_invert_3 (fun b1 => ?_)
  refine jo_ifz_ne (pc := 6) dX10_invert_6 (tgt := 11) rfl ?_ ?_
  · refine jo_aload_n (pc := 11) 0 rfl dX10_invert_11 rfl ?_
    refine jo_getrE (pc := 12) ok_10_10 (ik_0 hw) rf_0_10 gw_487 dX10_invert_12 ?_
    refine jo_aload_n (pc := 15) 0 rfl dX10_invert_15 rfl ?_
    refine jo_getrE (pc := 16) ok_10_15 (ik_0 hw) rf_0_15 gw_492 dX10_invert_16 ?_
    refine jo_aload_n (pc := 19) 0 rfl dX10_invert_19 rfl ?_
    refine jo_getrE (pc := 20) ok_10_0 (ik_0 hw) rf_0_0 gw_477 dX10_invert_20 ?_
    refine jo_getrE (pc := 23) ok_8_1 (ik_1 hw) rf_1_1 gw_81 dX10_invert_23 ?_
    refine jo_iload_n (pc := 26) 2 rfl dX10_invert_26 rfl ?_
    refine jo_aaldG (pc := 27) (z := 13) hw (ik_5 hw) (by decide) (t := 4) rfl rfl (by decide) dX10_invert_27 (fun p2 hp2 => ?_)
    refine jo_cV_V_i (pc := 28) (μ' := mu_X0_inverse) (fx := f_X0_inverse σ 176 p2) (As := [.ref (adr w 176), .ref (adr w p2)]) (c_X0_inverse hw (ik_176 hw) (hp2)) (ok_X0_inverse) (ltb rfl) (all3 gw_781 gw_782 gw_783) (ik_72 hw) (by decide) (q := (RX0, TX0, 8)) rfl rfl rfl rfl (Nat.le_of_ble_eq_true rfl) dX10_invert_28 (fun σ3 => ?_)
    refine jo_aload_n (pc := 31) 0 rfl dX10_invert_31 rfl ?_
    refine jo_iload_n (pc := 32) 1 rfl dX10_invert_32 rfl ?_
    refine jo_cV_Z_i (pc := 33) (μ' := mu_X10_keepCounted) (fx := f_X10_keepCounted σ3 x0) (As := [.int x0]) (c_X10_keepCounted hw) (ok_X10_keepCounted) (ltb rfl) (all3 gw_585 gw_587 gw_13) (ik_0 hw) (by decide) (q := (RX10, TX10, 17)) rfl rfl rfl rfl (Nat.le_of_ble_eq_true rfl) dX10_invert_33 (fun b4 σ5 => ?_)
    exact jo_breturn (pc := 36) (b := b4) rfl rfl dX10_invert_36
  · refine jo_iconst (pc := 9) dX10_invert_9 (ic_i_0) ?_
    exact jo_breturn (pc := 10) (b := false) rfl rfl dX10_invert_10
theorem c_X10_invert {w : Wd} (hw : WOK w) {σ : Mem} {x0 : Int32} {x1 : Int32} : ∀ r σ', f_X10_invert σ x0 x1 = some (r, σ') → MC w mu_X10_invert (vB r) [.ref (adr w 0), .int x0, .int x1] σ σ' := mc_of ok_X10_invert rfl (Nat.le_of_ble_eq_true rfl) (t_X10_invert hw)
abbrev mu_X10_feedNumber : MD := (yX10_feedNumber, cX10_feedNumber, 3, none, 0)
theorem ok_X10_feedNumber : MOK mu_X10_feedNumber 1 := ⟨gw_766, gw_20, (by decide +kernel : plainFor yX10_feedNumber = true), ⟨(by decide +kernel : yX10_feedNumber.cls ≠ "java/lang/invoke/MethodHandle"), (by decide +kernel : yX10_feedNumber.cls ≠ "java/lang/invoke/VarHandle"), (by decide +kernel : (parseMethodDescriptor yX10_feedNumber.desc).map (fun d => d.parameters.length) = some 1)⟩, Nat.le_of_ble_eq_true rfl⟩
noncomputable def l_X10_feedNumber_3 (x0 : Int32) (σ1 : Mem) (i2 : Int32) : Option ((Mem × Int32) ⊕ Mem) :=
  if i2 < 0 then (some (Sum.inr σ1)) else (gF σ1 0 7 (fun (v3 : Int32) => if 200 ≤ v3 then (some (Sum.inr σ1)) else (gF σ1 0 7 (fun (v4 : Int32) => pI σ1 34 v4 ((x0 >>> (i2 &&& 31)) &&& 255) (fun (σ5 : Mem) => gF σ5 0 7 (fun (v6 : Int32) => pF σ5 0 7 (v6 + 1) (fun (σ7 : Mem) => some (Sum.inl (σ7, i2 + (-8))))))))))
noncomputable def f_X10_feedNumber (σ : Mem) (x0 : Int32) : Option Mem :=
  loopO (fun (z2 : (Mem × Int32)) => l_X10_feedNumber_3 x0 z2.1 z2.2) (σ, 24)
theorem t_X10_feedNumber {w : Wd} (hw : WOK w) {σ : Mem} {x0 : Int32} : JO w mu_X10_feedNumber vV σ [(0, .ref (adr w 0)), (1, .int x0)] [] 0 (f_X10_feedNumber σ x0) (fun z => some ((), z)) := by
  unfold f_X10_feedNumber
  refine jo_bipush (pc := 0) dX10_feedNumber_0 (ic_b_24) ?_
  refine jo_istore_n (pc := 2) (lv' := [(2, .int 24), (0, .ref (adr w 0)), (1, .int x0)]) dX10_feedNumber_2 rfl (ltb rfl) rfl ?_
  refine jo_lv (lv' := [(0, .ref (adr w 0)), (1, .int x0), (2, .int 24)]) [1, 2, 0] rfl ?_
  refine jo_loop (X := Mem) (fun (z2 : (Mem × Int32)) => z2.1) (fun (z2 : (Mem × Int32)) => [(0, .ref (adr w 0)), (1, .int x0), (2, .int z2.2)]) (body := (fun (z2 : (Mem × Int32)) => l_X10_feedNumber_3 x0 z2.1 z2.2)) (fun F3_2 hF3_2 s => ?_) (σ, 24)
  obtain ⟨σ1, i2⟩ := s
  show JO w mu_X10_feedNumber vV σ1 [(0, .ref (adr w 0)), (1, .int x0), (2, .int i2)] [] 3 (l_X10_feedNumber_3 x0 σ1 i2) _
  unfold l_X10_feedNumber_3
  refine jo_iload_n (pc := 3) 2 rfl dX10_feedNumber_3 rfl ?_
  refine jo_if_lt (pc := 4) dX10_feedNumber_4 (tgt := 49) rfl ?_ ?_
  · exact jo_return (pc := 49) rfl rfl dX10_feedNumber_49
  · refine jo_aload_n (pc := 7) 0 rfl dX10_feedNumber_7 rfl ?_
    refine jo_getf (pc := 8) ok_10_7 (ik_0 hw) gw_484 dX10_feedNumber_8 (fun v3 => ?_)
    refine jo_sipush (pc := 11) dX10_feedNumber_11 (ic_s_200) ?_
    refine jo_icmp_ge (pc := 14) dX10_feedNumber_14 (tgt := 49) rfl ?_ ?_
    · exact jo_return (pc := 49) rfl rfl dX10_feedNumber_49
    · refine jo_aload_n (pc := 17) 0 rfl dX10_feedNumber_17 rfl ?_
      refine jo_getrE (pc := 18) ok_10_6 (ik_0 hw) rf_0_6 gw_483 dX10_feedNumber_18 ?_
      refine jo_aload_n (pc := 21) 0 rfl dX10_feedNumber_21 rfl ?_
      refine jo_getf (pc := 22) ok_10_7 (ik_0 hw) gw_484 dX10_feedNumber_22 (fun v4 => ?_)
      refine jo_iload_n (pc := 25) 1 rfl dX10_feedNumber_25 rfl ?_
      refine jo_iload_n (pc := 26) 2 rfl dX10_feedNumber_26 rfl ?_
      refine jo_ishr (pc := 27) dX10_feedNumber_27 ?_
      refine jo_sipush (pc := 28) dX10_feedNumber_28 (ic_s_255) ?_
      refine jo_iand (pc := 31) dX10_feedNumber_31 ?_
      refine jo_iast (pc := 32) (ik_34 hw) dX10_feedNumber_32 (fun σ5 => ?_)
      refine jo_aload_n (pc := 33) 0 rfl dX10_feedNumber_33 rfl ?_
      refine jo_dup (pc := 34) dX10_feedNumber_34 rfl ?_
      refine jo_getf (pc := 35) ok_10_7 (ik_0 hw) gw_484 dX10_feedNumber_35 (fun v6 => ?_)
      refine jo_iconst (pc := 38) dX10_feedNumber_38 (ic_i_1) ?_
      refine jo_iadd (pc := 39) dX10_feedNumber_39 ?_
      refine jo_putf (pc := 40) ok_10_7 okp_10_7 (ik_0 hw) gw_484 dX10_feedNumber_40 (fun σ7 => ?_)
      refine jo_iinc (pc := 43) (lv' := [(2, .int (i2 + (-8))), (0, .ref (adr w 0)), (1, .int x0)]) 2 rfl dX10_feedNumber_43 (congrArg (fun z => i2 + z) (ic_i_m8)) (ltb rfl) rfl ?_
      refine jo_goto (pc := 46) dX10_feedNumber_46 (tgt := 3) rfl ?_
      refine jo_lv (lv' := [(0, .ref (adr w 0)), (1, .int x0), (2, .int (i2 + (-8)))]) [1, 2, 0] rfl ?_
      exact jo_leaf (by rfl) (hF3_2 (σ7, i2 + (-8)))
theorem c_X10_feedNumber {w : Wd} (hw : WOK w) {σ : Mem} {x0 : Int32} : ∀ σ', f_X10_feedNumber σ x0 = some σ' → MC w mu_X10_feedNumber none [.ref (adr w 0), .int x0] σ σ' := mc_ofV ok_X10_feedNumber rfl (Nat.le_of_ble_eq_true rfl) (t_X10_feedNumber hw)
abbrev mu_X10_feed : MD := (yX10_feed, cX10_feed, 6, some .int, 1)
theorem ok_X10_feed : MOK mu_X10_feed 5 := ⟨gw_762, gw_20, (by decide +kernel : plainFor yX10_feed = true), ⟨(by decide +kernel : yX10_feed.cls ≠ "java/lang/invoke/MethodHandle"), (by decide +kernel : yX10_feed.cls ≠ "java/lang/invoke/VarHandle"), (by decide +kernel : (parseMethodDescriptor yX10_feed.desc).map (fun d => d.parameters.length) = some 5)⟩, Nat.le_of_ble_eq_true rfl⟩
noncomputable def f_X10_feed (σ : Mem) (x0 : Int32) (x1 : Int32) (x2 : Int32) (x3 : Int32) (x4 : Int32) : Option (Int32 × Mem) :=
  gF σ 0 7 (fun (v1 : Int32) => if v1 ≤ 180 then ((f_X10_feedNumber σ x0).bind (fun (σ2 : Mem) => (f_X10_feedNumber σ2 x1).bind (fun (σ3 : Mem) => (f_X10_feedNumber σ3 x2).bind (fun (σ4 : Mem) => (f_X10_feedNumber σ4 x3).bind (fun (σ5 : Mem) => (f_X10_feedNumber σ5 x4).bind (fun (σ6 : Mem) => gF σ6 0 7 (fun (v7 : Int32) => some (v7, σ6)))))))) else (some ((-1), σ)))
theorem t_X10_feed {w : Wd} (hw : WOK w) {σ : Mem} {x0 : Int32} {x1 : Int32} {x2 : Int32} {x3 : Int32} {x4 : Int32} : JO w mu_X10_feed vI σ [(0, .ref (adr w 0)), (1, .int x0), (2, .int x1), (3, .int x2), (4, .int x3), (5, .int x4)] [] 0 (f_X10_feed σ x0 x1 x2 x3 x4) some := by
  unfold f_X10_feed
  refine jo_aload_n (pc := 0) 0 rfl dX10_feed_0 rfl ?_
  refine jo_getf (pc := 1) ok_10_7 (ik_0 hw) gw_484 dX10_feed_1 (fun v1 => ?_)
  refine jo_sipush (pc := 4) dX10_feed_4 (ic_s_180) ?_
  refine jo_icmp_le (pc := 7) dX10_feed_7 (tgt := 12) rfl ?_ ?_
  · refine jo_aload_n (pc := 12) 0 rfl dX10_feed_12 rfl ?_
    refine jo_iload_n (pc := 13) 1 rfl dX10_feed_13 rfl ?_
    refine jo_cV_V_i (pc := 14) (μ' := mu_X10_feedNumber) (fx := f_X10_feedNumber σ x0) (As := [.int x0]) (c_X10_feedNumber hw) (ok_X10_feedNumber) (ltb rfl) (all3 gw_763 gw_765 gw_18) (ik_0 hw) (by decide) (q := (RX10, TX10, 17)) rfl rfl rfl rfl (Nat.le_of_ble_eq_true rfl) dX10_feed_14 (fun σ2 => ?_)
    refine jo_aload_n (pc := 17) 0 rfl dX10_feed_17 rfl ?_
    refine jo_iload_n (pc := 18) 2 rfl dX10_feed_18 rfl ?_
    refine jo_cV_V_i (pc := 19) (μ' := mu_X10_feedNumber) (fx := f_X10_feedNumber σ2 x1) (As := [.int x1]) (c_X10_feedNumber hw) (ok_X10_feedNumber) (ltb rfl) (all3 gw_763 gw_765 gw_18) (ik_0 hw) (by decide) (q := (RX10, TX10, 17)) rfl rfl rfl rfl (Nat.le_of_ble_eq_true rfl) dX10_feed_19 (fun σ3 => ?_)
    refine jo_aload_n (pc := 22) 0 rfl dX10_feed_22 rfl ?_
    refine jo_iload_n (pc := 23) 3 rfl dX10_feed_23 rfl ?_
    refine jo_cV_V_i (pc := 24) (μ' := mu_X10_feedNumber) (fx := f_X10_feedNumber σ3 x2) (As := [.int x2]) (c_X10_feedNumber hw) (ok_X10_feedNumber) (ltb rfl) (all3 gw_763 gw_765 gw_18) (ik_0 hw) (by decide) (q := (RX10, TX10, 17)) rfl rfl rfl rfl (Nat.le_of_ble_eq_true rfl) dX10_feed_24 (fun σ4 => ?_)
    refine jo_aload_n (pc := 27) 0 rfl dX10_feed_27 rfl ?_
    refine jo_iload (pc := 28) 4 rfl dX10_feed_28 ?_
    refine jo_cV_V_i (pc := 30) (μ' := mu_X10_feedNumber) (fx := f_X10_feedNumber σ4 x3) (As := [.int x3]) (c_X10_feedNumber hw) (ok_X10_feedNumber) (ltb rfl) (all3 gw_763 gw_765 gw_18) (ik_0 hw) (by decide) (q := (RX10, TX10, 17)) rfl rfl rfl rfl (Nat.le_of_ble_eq_true rfl) dX10_feed_30 (fun σ5 => ?_)
    refine jo_aload_n (pc := 33) 0 rfl dX10_feed_33 rfl ?_
    refine jo_iload (pc := 34) 5 rfl dX10_feed_34 ?_
    refine jo_cV_V_i (pc := 36) (μ' := mu_X10_feedNumber) (fx := f_X10_feedNumber σ5 x4) (As := [.int x4]) (c_X10_feedNumber hw) (ok_X10_feedNumber) (ltb rfl) (all3 gw_763 gw_765 gw_18) (ik_0 hw) (by decide) (q := (RX10, TX10, 17)) rfl rfl rfl rfl (Nat.le_of_ble_eq_true rfl) dX10_feed_36 (fun σ6 => ?_)
    refine jo_aload_n (pc := 39) 0 rfl dX10_feed_39 rfl ?_
    refine jo_getf (pc := 40) ok_10_7 (ik_0 hw) gw_484 dX10_feed_40 (fun v7 => ?_)
    exact jo_ireturn (pc := 43) rfl rfl dX10_feed_43
  · refine jo_iconst (pc := 10) dX10_feed_10 (ic_i_m1) ?_
    exact jo_ireturn (pc := 11) rfl rfl dX10_feed_11
theorem c_X10_feed {w : Wd} (hw : WOK w) {σ : Mem} {x0 : Int32} {x1 : Int32} {x2 : Int32} {x3 : Int32} {x4 : Int32} : ∀ r σ', f_X10_feed σ x0 x1 x2 x3 x4 = some (r, σ') → MC w mu_X10_feed (vI r) [.ref (adr w 0), .int x0, .int x1, .int x2, .int x3, .int x4] σ σ' := mc_of ok_X10_feed rfl (Nat.le_of_ble_eq_true rfl) (t_X10_feed hw)
abbrev mu_X10_end : MD := (yX10_end, cX10_end, 2, some .boolean, 0)
theorem ok_X10_end : MOK mu_X10_end 1 := ⟨gw_770, gw_20, (by decide +kernel : plainFor yX10_end = true), ⟨(by decide +kernel : yX10_end.cls ≠ "java/lang/invoke/MethodHandle"), (by decide +kernel : yX10_end.cls ≠ "java/lang/invoke/VarHandle"), (by decide +kernel : (parseMethodDescriptor yX10_end.desc).map (fun d => d.parameters.length) = some 1)⟩, Nat.le_of_ble_eq_true rfl⟩
noncomputable def f_X10_end (σ : Mem) (x0 : Int32) : Option (Bool × Mem) :=
  if x0 < 0 then (some (false, σ)) else (gF σ 0 7 (fun (v1 : Int32) => if x0 ≤ v1 then (pF σ 0 7 x0 (fun (σ2 : Mem) => some (true, σ2))) else (some (false, σ))))
theorem t_X10_end {w : Wd} (hw : WOK w) {σ : Mem} {x0 : Int32} : JO w mu_X10_end vB σ [(0, .ref (adr w 0)), (1, .int x0)] [] 0 (f_X10_end σ x0) some := by
  unfold f_X10_end
  refine jo_iload_n (pc := 0) 1 rfl dX10_end_0 rfl ?_
  refine jo_if_lt (pc := 1) dX10_end_1 (tgt := 12) rfl ?_ ?_
  · refine jo_iconst (pc := 12) dX10_end_12 (ic_i_0) ?_
    exact jo_breturn (pc := 13) (b := false) rfl rfl dX10_end_13
  · refine jo_iload_n (pc := 4) 1 rfl dX10_end_4 rfl ?_
    refine jo_aload_n (pc := 5) 0 rfl dX10_end_5 rfl ?_
    refine jo_getf (pc := 6) ok_10_7 (ik_0 hw) gw_484 dX10_end_6 (fun v1 => ?_)
    refine jo_icmp_le (pc := 9) dX10_end_9 (tgt := 14) rfl ?_ ?_
    · refine jo_aload_n (pc := 14) 0 rfl dX10_end_14 rfl ?_
      refine jo_iload_n (pc := 15) 1 rfl dX10_end_15 rfl ?_
      refine jo_putf (pc := 16) ok_10_7 okp_10_7 (ik_0 hw) gw_484 dX10_end_16 (fun σ2 => ?_)
      refine jo_iconst (pc := 19) dX10_end_19 (ic_i_1) ?_
      exact jo_breturn (pc := 20) (b := true) rfl rfl dX10_end_20
    · refine jo_iconst (pc := 12) dX10_end_12 (ic_i_0) ?_
      exact jo_breturn (pc := 13) (b := false) rfl rfl dX10_end_13
theorem c_X10_end {w : Wd} (hw : WOK w) {σ : Mem} {x0 : Int32} : ∀ r σ', f_X10_end σ x0 = some (r, σ') → MC w mu_X10_end (vB r) [.ref (adr w 0), .int x0] σ σ' := mc_of ok_X10_end rfl (Nat.le_of_ble_eq_true rfl) (t_X10_end hw)
abbrev mu_X10_collect : MD := (yX10_collect, cX10_collect, 4, some .int, 4)
theorem ok_X10_collect : MOK mu_X10_collect 0 := ⟨gw_601, gw_20, (by decide +kernel : plainFor yX10_collect = true), ⟨(by decide +kernel : yX10_collect.cls ≠ "java/lang/invoke/MethodHandle"), (by decide +kernel : yX10_collect.cls ≠ "java/lang/invoke/VarHandle"), (by decide +kernel : (parseMethodDescriptor yX10_collect.desc).map (fun d => d.parameters.length) = some 0)⟩, Nat.le_of_ble_eq_true rfl⟩
noncomputable def j_X10_collect_76 (σ4 : Mem) : Option (Int32 × Mem) :=
  bq (f_X2_run σ4 2 1000) (fun (v5 : Int32) (σ6 : Mem) => if v5 = (-1) then (some ((-2), σ6)) else (gF σ6 2 0 (fun (v7 : Int32) => pI σ6 16 1 v7 (fun (σ8 : Mem) => cI σ8 39 0 16 2 6 (fun (σ9 : Mem) => some (v5, σ9))))))
noncomputable def l_X10_collect_27 (v1 : Int32) (σ10 : Mem) (i11 : Int32) : Option ((Mem × Int32) ⊕ (Mem ⊕ (Int32 × Mem))) :=
  if v1 ≤ i11 then (some (Sum.inr (Sum.inl σ10))) else (gI σ10 34 i11 (fun (v12 : Int32) => bd (v12 - 97) (fun (v13 : Int32) => if v13 < 0 then (some (Sum.inr (Sum.inr ((-1), σ10)))) else (gF σ10 2 0 (fun (v14 : Int32) => if v13 < v14 then ((f_X2_add σ10 v13).bind (fun (σ15 : Mem) => some (Sum.inl (σ15, i11 + 1)))) else (some (Sum.inr (Sum.inr ((-1), σ10)))))))))
noncomputable def f_X10_collect (σ : Mem) : Option (Int32 × Mem) :=
  gF σ 0 7 (fun (v1 : Int32) => pF σ 0 7 0 (fun (σ2 : Mem) => if v1 ≤ 24 then ((f_X2_begin σ2).bind (fun (σ3 : Mem) => (loopO (fun (z11 : (Mem × Int32)) => l_X10_collect_27 v1 z11.1 z11.2) (σ3, 0) : Option (Mem ⊕ (Int32 × Mem))).bind (Sum.elim (fun (z4 : Mem) => j_X10_collect_76 z4) some))) else (some ((-1), σ2))))
theorem t_X10_collect {w : Wd} (hw : WOK w) {σ : Mem} : JO w mu_X10_collect vI σ [(0, .ref (adr w 0))] [] 0 (f_X10_collect σ) some := by
  unfold f_X10_collect
  refine jo_aload_n (pc := 0) 0 rfl dX10_collect_0 rfl ?_
  refine jo_getf (pc := 1) ok_10_7 (ik_0 hw) gw_484 dX10_collect_1 (fun v1 => ?_)
  refine jo_istore_n (pc := 4) (lv' := [(1, .int v1), (0, .ref (adr w 0))]) dX10_collect_4 rfl (ltb rfl) rfl ?_
  refine jo_aload_n (pc := 5) 1 rfl dX10_collect_5 rfl ?_
  refine jo_iconst (pc := 6) dX10_collect_6 (ic_i_0) ?_
  refine jo_putf (pc := 7) ok_10_7 okp_10_7 (ik_0 hw) gw_484 dX10_collect_7 (fun σ2 => ?_)
  refine jo_iload_n (pc := 10) 0 rfl dX10_collect_10 rfl ?_
  refine jo_bipush (pc := 11) dX10_collect_11 (ic_b_24) ?_
  refine jo_icmp_le (pc := 13) dX10_collect_13 (tgt := 18) rfl ?_ ?_
  · refine jo_aload_n (pc := 18) 1 rfl dX10_collect_18 rfl ?_
    refine jo_getrE (pc := 19) ok_10_8 (ik_0 hw) rf_0_8 gw_485 dX10_collect_19 ?_
    refine jo_cV_V_i (pc := 22) (μ' := mu_X2_begin) (fx := f_X2_begin σ2) (As := []) (c_X2_begin hw) (ok_X2_begin) (ltb rfl) (all3 gw_602 gw_403 gw_404) (ik_35 hw) (by decide) (q := (RX2, TX2, 7)) rfl rfl rfl rfl (Nat.le_of_ble_eq_true rfl) dX10_collect_22 (fun σ3 => ?_)
    refine jo_iconst (pc := 25) dX10_collect_25 (ic_i_0) ?_
    refine jo_istore_n (pc := 26) (lv' := [(2, .int 0), (1, .int v1), (0, .ref (adr w 0))]) dX10_collect_26 rfl (ltb rfl) rfl ?_
    refine jo_joinS (S := Mem) (fun (z4 : Mem) => z4) (fun (z4 : Mem) => [(0, .ref (adr w 0))]) (fun (z4 : Mem) => []) 76 ?_ (fun h76_4 => ?_)
    · intro σ4
      show JO w mu_X10_collect vI σ4 [(0, .ref (adr w 0))] [] 76 (j_X10_collect_76 σ4) _
      unfold j_X10_collect_76
      refine jo_aload_n (pc := 76) 0 rfl dX10_collect_76 rfl ?_
      refine jo_getrE (pc := 77) ok_10_8 (ik_0 hw) rf_0_8 gw_485 dX10_collect_77 ?_
      refine jo_aload_n (pc := 80) 0 rfl dX10_collect_80 rfl ?_
      refine jo_getrE (pc := 81) ok_10_0 (ik_0 hw) rf_0_0 gw_477 dX10_collect_81 ?_
      refine jo_getrE (pc := 84) ok_8_0 (ik_1 hw) rf_1_0 gw_79 dX10_collect_84 ?_
      refine jo_sipush (pc := 87) dX10_collect_87 (ic_s_1000) ?_
      refine jo_cV_I_i (pc := 90) (μ' := mu_X2_run) (fx := f_X2_run σ4 2 1000) (As := [.ref (adr w 2), .int 1000]) (c_X2_run hw (ik_2 hw)) (ok_X2_run) (ltb rfl) (all3 gw_604 gw_420 gw_421) (ik_35 hw) (by decide) (q := (RX2, TX2, 7)) rfl rfl rfl rfl (Nat.le_of_ble_eq_true rfl) dX10_collect_90 (fun v5 σ6 => ?_)
      refine jo_istore_n (pc := 93) (lv' := [(2, .int v5), (0, .ref (adr w 0))]) dX10_collect_93 rfl (ltb rfl) rfl ?_
      refine jo_iload_n (pc := 94) 0 rfl dX10_collect_94 rfl ?_
      refine jo_iconst (pc := 95) dX10_collect_95 (ic_i_m1) ?_
      refine jo_icmp_ne (pc := 96) dX10_collect_96 (tgt := 102) rfl ?_ ?_
      · refine jo_aload_n (pc := 102) 1 rfl dX10_collect_102 rfl ?_
        refine jo_getrE (pc := 103) ok_10_0 (ik_0 hw) rf_0_0 gw_477 dX10_collect_103 ?_
        refine jo_getrE (pc := 106) ok_8_2 (ik_1 hw) rf_1_2 gw_83 dX10_collect_106 ?_
        refine jo_iconst (pc := 109) dX10_collect_109 (ic_i_1) ?_
        refine jo_aload_n (pc := 110) 1 rfl dX10_collect_110 rfl ?_
        refine jo_getrE (pc := 111) ok_10_0 (ik_0 hw) rf_0_0 gw_477 dX10_collect_111 ?_
        refine jo_getrE (pc := 114) ok_8_0 (ik_1 hw) rf_1_0 gw_79 dX10_collect_114 ?_
        refine jo_getf (pc := 117) ok_6_0 (ik_2 hw) gw_64 dX10_collect_117 (fun v7 => ?_)
        refine jo_iast (pc := 120) (ik_16 hw) dX10_collect_120 (fun σ8 => ?_)
        refine jo_aload_n (pc := 121) 1 rfl dX10_collect_121 rfl ?_
        refine jo_getrE (pc := 122) ok_10_8 (ik_0 hw) rf_0_8 gw_485 dX10_collect_122 ?_
        refine jo_getrE (pc := 125) ok_2_6 (ik_35 hw) rf_35_6 gw_107 dX10_collect_125 ?_
        refine jo_iconst (pc := 128) dX10_collect_128 (ic_i_0) ?_
        refine jo_aload_n (pc := 129) 1 rfl dX10_collect_129 rfl ?_
        refine jo_getrE (pc := 130) ok_10_0 (ik_0 hw) rf_0_0 gw_477 dX10_collect_130 ?_
        refine jo_getrE (pc := 133) ok_8_2 (ik_1 hw) rf_1_2 gw_83 dX10_collect_133 ?_
        refine jo_iconst (pc := 136) dX10_collect_136 (ic_i_2) ?_
        refine jo_bipush (pc := 137) dX10_collect_137 (ic_b_6) ?_
        refine jo_acI (pc := 139) (ik_39 hw) (ik_16 hw) (all4 gw_605 gw_393 gw_392 gw_32) (ltb rfl) (Nat.le_of_ble_eq_true rfl) dX10_collect_139 (fun σ9 => ?_)
        refine jo_iload_n (pc := 142) 0 rfl dX10_collect_142 rfl ?_
        exact jo_ireturn (pc := 143) rfl rfl dX10_collect_143
      · refine jo_bipush (pc := 99) dX10_collect_99 (ic_b_m2) ?_
        exact jo_ireturn (pc := 101) rfl rfl dX10_collect_101
    · refine jo_lv (lv' := [(1, .int v1), (0, .ref (adr w 0)), (2, .int 0)]) [1, 2, 0] rfl ?_
      refine jo_loop (X := Mem ⊕ (Int32 × Mem)) (fun (z11 : (Mem × Int32)) => z11.1) (fun (z11 : (Mem × Int32)) => [(1, .int v1), (0, .ref (adr w 0)), (2, .int z11.2)]) (body := (fun (z11 : (Mem × Int32)) => l_X10_collect_27 v1 z11.1 z11.2)) (fun F27_11 hF27_11 s => ?_) (σ3, 0)
      obtain ⟨σ10, i11⟩ := s
      show JO w mu_X10_collect vI σ10 [(1, .int v1), (0, .ref (adr w 0)), (2, .int i11)] [] 27 (l_X10_collect_27 v1 σ10 i11) _
      unfold l_X10_collect_27
      refine jo_iload_n (pc := 27) 2 rfl dX10_collect_27 rfl ?_
      refine jo_iload_n (pc := 28) 0 rfl dX10_collect_28 rfl ?_
      refine jo_icmp_ge (pc := 29) dX10_collect_29 (tgt := 76) rfl ?_ ?_
      · refine jo_lv (lv' := [(0, .ref (adr w 0))]) [1] rfl ?_
        exact jo_leaf (by rfl) (h76_4 σ10)
      · refine jo_aload_n (pc := 32) 1 rfl dX10_collect_32 rfl ?_
        refine jo_getrE (pc := 33) ok_10_6 (ik_0 hw) rf_0_6 gw_483 dX10_collect_33 ?_
        refine jo_iload_n (pc := 36) 2 rfl dX10_collect_36 rfl ?_
        refine jo_iald (pc := 37) (ik_34 hw) dX10_collect_37 (fun v12 => ?_)
        refine jo_bipush (pc := 38) dX10_collect_38 (ic_b_97) ?_
        refine jo_isub (pc := 40) dX10_collect_40 ?_
        refine jo_bd ?_
        refine jo_istore_n (pc := 41) (lv' := [(3, .int (v12 - 97)), (1, .int v1), (0, .ref (adr w 0)), (2, .int i11)]) dX10_collect_41 rfl (ltb rfl) rfl ?_
        generalize (v12 - 97) = v13
        refine jo_iload_n (pc := 42) 0 rfl dX10_collect_42 rfl ?_
        refine jo_if_lt (pc := 43) dX10_collect_43 (tgt := 60) rfl ?_ ?_
        · refine jo_iconst (pc := 60) dX10_collect_60 (ic_i_m1) ?_
          exact jo_ireturn (pc := 61) rfl rfl dX10_collect_61
        · refine jo_iload_n (pc := 46) 0 rfl dX10_collect_46 rfl ?_
          refine jo_aload_n (pc := 47) 2 rfl dX10_collect_47 rfl ?_
          refine jo_getrE (pc := 48) ok_10_0 (ik_0 hw) rf_0_0 gw_477 dX10_collect_48 ?_
          refine jo_getrE (pc := 51) ok_8_0 (ik_1 hw) rf_1_0 gw_79 dX10_collect_51 ?_
          refine jo_getf (pc := 54) ok_6_0 (ik_2 hw) gw_64 dX10_collect_54 (fun v14 => ?_)
          refine jo_icmp_lt (pc := 57) dX10_collect_57 (tgt := 62) rfl ?_ ?_
          · refine jo_aload_n (pc := 62) 2 rfl dX10_collect_62 rfl ?_
            refine jo_getrE (pc := 63) ok_10_8 (ik_0 hw) rf_0_8 gw_485 dX10_collect_63 ?_
            refine jo_iload_n (pc := 66) 0 rfl dX10_collect_66 rfl ?_
            refine jo_cV_V_i (pc := 67) (μ' := mu_X2_add) (fx := f_X2_add σ10 v13) (As := [.int v13]) (c_X2_add hw) (ok_X2_add) (ltb rfl) (all3 gw_603 gw_407 gw_408) (ik_35 hw) (by decide) (q := (RX2, TX2, 7)) rfl rfl rfl rfl (Nat.le_of_ble_eq_true rfl) dX10_collect_67 (fun σ15 => ?_)
            refine jo_iinc (pc := 70) (lv' := [(2, .int (i11 + 1)), (3, .int v13), (1, .int v1), (0, .ref (adr w 0))]) 3 rfl dX10_collect_70 (congrArg (fun z => i11 + z) (ic_i_1)) (ltb rfl) rfl ?_
            refine jo_goto (pc := 73) dX10_collect_73 (tgt := 27) rfl ?_
            refine jo_lv (lv' := [(1, .int v1), (0, .ref (adr w 0)), (2, .int (i11 + 1))]) [2, 3, 0] rfl ?_
            exact jo_leaf (by rfl) (hF27_11 (σ15, i11 + 1))
          · refine jo_iconst (pc := 60) dX10_collect_60 (ic_i_m1) ?_
            exact jo_ireturn (pc := 61) rfl rfl dX10_collect_61
  · refine jo_iconst (pc := 16) dX10_collect_16 (ic_i_m1) ?_
    exact jo_ireturn (pc := 17) rfl rfl dX10_collect_17
theorem c_X10_collect {w : Wd} (hw : WOK w) {σ : Mem} : ∀ r σ', f_X10_collect σ = some (r, σ') → MC w mu_X10_collect (vI r) [.ref (adr w 0)] σ σ' := mc_of ok_X10_collect rfl (Nat.le_of_ble_eq_true rfl) (t_X10_collect hw)
