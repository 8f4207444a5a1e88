noncomputable def f_X0_makeGenerator (σ : Mem) (x0 : Nat) (x1 : Int32) (x2 : Int64) : Option Mem :=
  (f_J7_fill_d0a16 σ x0 0).bind (fun (σ1 : Mem) => if x1 < 0 then (some σ1) else (if 6 ≤ x1 then (some σ1) else (pL σ1 x0 x1 x2 (fun (σ2 : Mem) => some σ2))))
noncomputable def f_X0_commutator (σ : Mem) (x0 : Nat) (x1 : Nat) (x2 : Nat) : Option Mem :=
  (f_X0_product σ 79 x1 x2).bind (fun (σ1 : Mem) => (f_X0_product σ1 78 x2 x1).bind (fun (σ2 : Mem) => (f_X0_inverse σ2 78 78).bind (fun (σ3 : Mem) => (f_X0_product σ3 x0 78 79).bind (fun (σ4 : Mem) => some σ4))))
noncomputable def f_X0_conjugated (σ : Mem) (x0 : Nat) (x1 : Nat) (x2 : Nat) : Option Mem :=
  (f_X0_product σ 79 x1 x2).bind (fun (σ1 : Mem) => (f_X0_inverse σ1 78 x2).bind (fun (σ2 : Mem) => (f_X0_product σ2 x0 78 79).bind (fun (σ3 : Mem) => some σ3)))
noncomputable def f_X0_doCommute (σ : Mem) (x0 : Nat) (x1 : Nat) : Option (Bool × Mem) :=
  (f_X0_product σ 78 x0 x1).bind (fun (σ1 : Mem) => (f_X0_product σ1 79 x1 x0).bind (fun (σ2 : Mem) => (f_X0_areSame σ2 78 79).bind (fun (b3 : Bool) => some (b3, σ2))))
noncomputable def f_X0_findPowers (σ : Mem) (x0 : Nat) : Option Mem :=
  (f_X0_copy σ x0 75).bind (fun (σ1 : Mem) => (f_X0_product σ1 76 75 75).bind (fun (σ2 : Mem) => (f_X0_product σ2 77 76 75).bind (fun (σ3 : Mem) => some σ3)))
noncomputable def f_X0_powerNumber (σ : Mem) (x0 : Int32) (x1 : Int32) : Option Int64 :=
  if x0 < 0 then (some 0) else (if x0 < 6 then (if x1 = 1 then (gL σ 75 x0 (fun (v2 : Int64) => some v2)) else if x1 = 2 then (gL σ 76 x0 (fun (v4 : Int64) => gL σ 75 x0 (fun (v5 : Int64) => some (v4 - (2 * v5))))) else if x1 = 3 then (gL σ 77 x0 (fun (v7 : Int64) => gL σ 76 x0 (fun (v8 : Int64) => gL σ 75 x0 (fun (v9 : Int64) => some ((v7 - (3 * v8)) + (3 * v9)))))) else (some 0)) else (some 0))
noncomputable def f_X0_powerAt (σ : Mem) (x0 : Int32) (x1 : Int64) : Option Int64 :=
  (f_X0_powerNumber σ x0 1).bind (fun (v1 : Int64) => (f_X0_powerNumber σ x0 2).bind (fun (v2 : Int64) => nzL 2 ((f_X0_powerNumber σ x0 3).bind (fun (v3 : Int64) => nzL 6 (some (((v1 * x1) + (v2 * ((x1 * (x1 - 1)) / 2))) + (v3 * (((x1 * (x1 - 1)) * (x1 - 2)) / 6))))))))
noncomputable def l_X0_raise_8 (x0 : Nat) (x2 : Int64) (σ2 : Mem) (i3 : Int32) : Option ((Mem × Int32) ⊕ Mem) :=
  if 6 ≤ i3 then (some (Sum.inr σ2)) else ((f_X0_powerAt σ2 i3 x2).bind (fun (v4 : Int64) => pL σ2 x0 i3 v4 (fun (σ5 : Mem) => some (Sum.inl (σ5, i3 + 1)))))
noncomputable def f_X0_raise (σ : Mem) (x0 : Nat) (x1 : Nat) (x2 : Int64) : Option Mem :=
  (f_X0_findPowers σ x1).bind (fun (σ1 : Mem) => loopO (fun (z3 : (Mem × Int32)) => l_X0_raise_8 x0 x2 z3.1 z3.2) (σ1, 0))
noncomputable def f_X0_putRoot (σ : Mem) (x0 : Int32) (x1 : Int64) : Option Mem :=
  pL σ 75 x0 x1 (fun (σ1 : Mem) => (f_X4_put σ1 73 x0 x1).bind (fun (σ2 : Mem) => (f_X4_put σ2 73 (6 + x0) x1).bind (fun (σ3 : Mem) => (f_X4_put σ3 74 (6 + x0) x1).bind (fun (σ4 : Mem) => some σ4))))
noncomputable def j_X0_extract_185 (x0 : Nat) (σ1 : Mem) : Option (Bool × Mem) :=
  (f_X0_copy σ1 75 x0).bind (fun (σ2 : Mem) => some (true, σ2))
noncomputable def l_X0_extract_11 (x1 : Nat) (x2 : Int64) (σ3 : Mem) (i4 : Int32) : Option ((Mem × Int32) ⊕ (Mem ⊕ (Bool × Mem))) :=
  if 6 ≤ i4 then (some (Sum.inr (Sum.inl σ3))) else ((f_X0_putRoot σ3 i4 0).bind (fun (σ5 : Mem) => gR 44 i4 (fun (p6 : Nat) => (f_X9_value σ5 p6 73).bind (fun (v7 : Int64) => pL σ5 76 i4 v7 (fun (σ8 : Mem) => gL σ8 76 i4 (fun (v9 : Int64) => (f_X4_put σ8 74 i4 v9).bind (fun (σ10 : Mem) => gR 44 i4 (fun (p11 : Nat) => (f_X9_value σ10 p11 74).bind (fun (v12 : Int64) => pL σ10 77 i4 v12 (fun (σ13 : Mem) => gL σ13 x1 i4 (fun (v14 : Int64) => (f_X0_powerAt σ13 i4 x2).bind (fun (v15 : Int64) => bd (v14 - v15) (fun (v16 : Int64) => nzL x2 (bd (v16 / x2) (fun (v17 : Int64) => if (v17 * x2) = v16 then (if v17 < (-999) then (some (Sum.inr (Sum.inr (false, σ13)))) else (if v17 ≤ 999 then ((f_X0_putRoot σ13 i4 v17).bind (fun (σ18 : Mem) => gL σ18 76 i4 (fun (v19 : Int64) => pL σ18 76 i4 (v19 + (2 * v17)) (fun (σ20 : Mem) => gL σ20 76 i4 (fun (v21 : Int64) => (f_X4_put σ20 74 i4 v21).bind (fun (σ22 : Mem) => some (Sum.inl (σ22, i4 + 1)))))))) else (some (Sum.inr (Sum.inr (false, σ13)))))) else (some (Sum.inr (Sum.inr (false, σ13)))))))))))))))))))
noncomputable def f_X0_extract (σ : Mem) (x0 : Nat) (x1 : Nat) (x2 : Int64) : Option (Bool × Mem) :=
  if 1 ≤ x2 then ((loopO (fun (z4 : (Mem × Int32)) => l_X0_extract_11 x1 x2 z4.1 z4.2) (σ, 0) : Option (Mem ⊕ (Bool × Mem))).bind (Sum.elim (fun (z1 : Mem) => j_X0_extract_185 x0 z1) some)) else (some (false, σ))
noncomputable def l_X1_isAt_2 (σ : Mem) (x0 : Int32) (x1 : Nat) (i1 : Int32) : Option (Int32 ⊕ Bool) :=
  if 6 ≤ i1 then (some (Sum.inr true)) else (gL σ 130 ((x0 * 6) + i1) (fun (v2 : Int64) => gL σ x1 i1 (fun (v3 : Int64) => if v2 = v3 then (some (Sum.inl (i1 + 1))) else (some (Sum.inr false)))))
noncomputable def f_X1_isAt (σ : Mem) (x0 : Int32) (x1 : Nat) : Option Bool :=
  loopO (fun (z1 : Int32) => l_X1_isAt_2 σ x0 x1 z1) 0
noncomputable def l_X1_slotOf_40 (σ : Mem) (x0 : Nat) (i3 : Int32) (i4 : Int32) : Option ((Int32 × Int32) ⊕ Int32) :=
  if 4096 ≤ i4 then (some (Sum.inr i3)) else (gI σ 131 i3 (fun (v5 : Int32) => if v5 = 0 then (some (Sum.inr i3)) else (gI σ 131 i3 (fun (v6 : Int32) => (f_X1_isAt σ (v6 - 1) x0).bind (fun (b7 : Bool) => if b7 then some (Sum.inr i3) else bd ((i3 + 1) &&& 4095) (fun (v8 : Int32) => some (Sum.inl (v8, i4 + 1))))))))
noncomputable def j_X1_slotOf_29 (σ : Mem) (x0 : Nat) (l1 : Int64) : Option Int32 :=
  bd ((Int64.toInt32 l1) &&& 4095) (fun (v2 : Int32) => loopO (fun (z4 : (Int32 × Int32)) => l_X1_slotOf_40 σ x0 z4.1 z4.2) (v2, 0))
noncomputable def l_X1_slotOf_5 (σ : Mem) (x0 : Nat) (l9 : Int64) (i10 : Int32) : Option ((Int64 × Int32) ⊕ Int64) :=
  if 6 ≤ i10 then (some (Sum.inr l9)) else (gL σ x0 i10 (fun (v11 : Int64) => bd ((l9 * 31) + v11) (fun (v12 : Int64) => some (Sum.inl (v12, i10 + 1)))))
noncomputable def f_X1_slotOf (σ : Mem) (x0 : Nat) : Option Int32 :=
  (loopO (fun (z10 : (Int64 × Int32)) => l_X1_slotOf_5 σ x0 z10.1 z10.2) (0, 0) : Option Int64).bind (fun (z1 : Int64) => j_X1_slotOf_29 σ x0 z1)
noncomputable def f_X1_keepMade (σ : Mem) : Option Mem :=
  (f_X1_slotOf σ 134).bind (fun (v1 : Int32) => gI σ 131 v1 (fun (v2 : Int32) => if v2 = 0 then (gF σ 128 6 (fun (v3 : Int32) => if 1000 < v3 then (some σ) else (gF σ 128 6 (fun (v4 : Int32) => cL σ 134 0 130 (v4 * 6) 6 (fun (σ5 : Mem) => gF σ5 128 6 (fun (v6 : Int32) => pF σ5 128 6 (v6 + 1) (fun (σ7 : Mem) => gF σ7 128 6 (fun (v8 : Int32) => pI σ7 131 v1 v8 (fun (σ9 : Mem) => some σ9))))))))) else (some σ)))
noncomputable def f_X1_growBy (σ : Mem) (x0 : Int32) (x1 : Int32) : Option Mem :=
  (f_X0_makeGenerator σ 133 x0 (Int32.toInt64 x1)).bind (fun (σ1 : Mem) => (f_X0_product σ1 134 132 133).bind (fun (σ2 : Mem) => (f_X1_keepMade σ2).bind (fun (σ3 : Mem) => some σ3)))
noncomputable def j_X1_grow_90 (i2 : Int32) (σ5 : Mem) : Option ((Mem × Int32) ⊕ Mem) :=
  some (Sum.inl (σ5, i2 + 1))
noncomputable def l_X1_grow_38 (σ6 : Mem) (i7 : Int32) : Option ((Mem × Int32) ⊕ Mem) :=
  gF σ6 41 0 (fun (v8 : Int32) => if v8 ≤ i7 then (some (Sum.inr σ6)) else (gI σ6 42 i7 (fun (v9 : Int32) => if v9 = 1 then ((f_X1_growBy σ6 i7 1).bind (fun (σ10 : Mem) => (f_X1_growBy σ10 i7 (-1)).bind (fun (σ11 : Mem) => some (Sum.inl (σ11, i7 + 1))))) else (some (Sum.inr σ6)))))
noncomputable def l_X1_grow_2 (x1 : Int32) (σ1 : Mem) (i2 : Int32) : Option ((Mem × Int32) ⊕ Mem) :=
  if x1 ≤ i2 then (some (Sum.inr σ1)) else (gF σ1 128 6 (fun (v3 : Int32) => if 1000 < v3 then (some (Sum.inr σ1)) else (cL σ1 130 (i2 * 6) 132 0 6 (fun (σ4 : Mem) => (loopO (fun (z7 : (Mem × Int32)) => l_X1_grow_38 z7.1 z7.2) (σ4, 0) : Option Mem).bind (fun (z5 : Mem) => j_X1_grow_90 i2 z5)))))
noncomputable def f_X1_grow (σ : Mem) (x0 : Int32) (x1 : Int32) : Option Mem :=
  loopO (fun (z2 : (Mem × Int32)) => l_X1_grow_2 x1 z2.1 z2.2) (σ, x0)
noncomputable def j_X1_find_104 (i13 : Int32) (v14 : Int32) (σ15 : Mem) (i17 : Int32) : Option ((Mem × Int32 × Int32) ⊕ Mem) :=
  pI σ15 129 i13 i17 (fun (σ18 : Mem) => some (Sum.inl (σ18, v14, i13 + 1)))
noncomputable def l_X1_find_65 (σ11 : Mem) (i12 : Int32) (i13 : Int32) : Option ((Mem × Int32 × Int32) ⊕ Mem) :=
  if 4 < i13 then (some (Sum.inr σ11)) else (gF σ11 128 6 (fun (v14 : Int32) => (f_X1_grow σ11 i12 v14).bind (fun (σ15 : Mem) => gF σ15 128 6 (fun (v16 : Int32) => (if v16 ≤ 1000 then (gF σ15 128 6 (fun (v19 : Int32) => some v19)) else (some (-1)) : Option Int32).bind (fun (z17 : Int32) => j_X1_find_104 i13 v14 σ15 z17)))))
noncomputable def f_X1_find (σ : Mem) : Option Mem :=
  gF σ 128 2 (fun (v1 : Int32) => gF σ 40 4 (fun (v2 : Int32) => if v1 = v2 then (some σ) else (gF σ 40 4 (fun (v3 : Int32) => pF σ 128 2 v3 (fun (σ4 : Mem) => (f_J7_fill_53178 σ4 131 0).bind (fun (σ5 : Mem) => pF σ5 128 6 0 (fun (σ6 : Mem) => (f_J7_fill_d0a16 σ6 134 0).bind (fun (σ7 : Mem) => (f_X1_keepMade σ7).bind (fun (σ8 : Mem) => gF σ8 128 6 (fun (v9 : Int32) => pI σ8 129 0 v9 (fun (σ10 : Mem) => loopO (fun (z13 : (Mem × Int32 × Int32)) => l_X1_find_65 z13.1 z13.2.1 z13.2.2) (σ10, 0, 1))))))))))))
noncomputable def j_X1_sizeOf_22 (σ1 : Mem) : Option (Int32 × Mem) :=
  some ((-1), σ1)
noncomputable def f_X1_sizeOf (σ : Mem) (x0 : Int32) : Option (Int32 × Mem) :=
  (f_X1_find σ).bind (fun (σ1 : Mem) => (if x0 < 0 then (some (Sum.inl ())) else (if 4 < x0 then (some (Sum.inl ())) else (gI σ1 129 x0 (fun (v2 : Int32) => some (Sum.inr (v2, σ1))))) : Option (Unit ⊕ (Int32 × Mem))).bind (Sum.elim (fun (z1 : Unit) => j_X1_sizeOf_22 σ1) some))
noncomputable def l_X1_levelOf_19 (σ1 : Mem) (v4 : Int32) (i5 : Int32) : Option (Int32 ⊕ (Int32 × Mem)) :=
  if 4 < i5 then (some (Sum.inr ((-1), σ1))) else (if v4 < 0 then (some (Sum.inr ((-1), σ1))) else (gI σ1 129 i5 (fun (v6 : Int32) => if v6 = (-1) then (some (Sum.inr ((-1), σ1))) else (gI σ1 129 i5 (fun (v7 : Int32) => if v7 ≤ v4 then (some (Sum.inl (i5 + 1))) else (some (Sum.inr (i5, σ1))))))))
noncomputable def f_X1_levelOf (σ : Mem) (x0 : Nat) : Option (Int32 × Mem) :=
  (f_X1_find σ).bind (fun (σ1 : Mem) => (f_X1_slotOf σ1 x0).bind (fun (v2 : Int32) => gI σ1 131 v2 (fun (v3 : Int32) => bd (v3 - 1) (fun (v4 : Int32) => loopO (fun (z5 : Int32) => l_X1_levelOf_19 σ1 v4 z5) 0))))
noncomputable def l_X3_clear_16 (a : Nat) (σ4 : Mem) (i5 : Int32) : Option ((Mem × Int32) ⊕ Mem) :=
  if 6 ≤ i5 then (some (Sum.inr σ4)) else (gR (rf a 1) i5 (fun (p6 : Nat) => (f_J7_fill_d0a16 σ4 p6 0).bind (fun (σ7 : Mem) => some (Sum.inl (σ7, i5 + 1)))))
noncomputable def f_X3_clear (σ : Mem) (a : Nat) (x0 : Int32) : Option Mem :=
  (f_J9_min_7cf53 σ x0 6).bind (fun (v1 : Int32) => (f_J9_max_7cf53 σ 0 v1).bind (fun (v2 : Int32) => pF σ a 0 v2 (fun (σ3 : Mem) => loopO (fun (z5 : (Mem × Int32)) => l_X3_clear_16 a z5.1 z5.2) (σ3, 0))))
noncomputable def j_X3_hasStep_29  : Option Bool :=
  some false
noncomputable def f_X3_hasStep (σ : Mem) (a : Nat) (x0 : Int32) : Option Bool :=
  (if x0 < 0 then (some (Sum.inl ())) else (gF σ a 0 (fun (v1 : Int32) => if v1 ≤ x0 then (some (Sum.inl ())) else (gR (rf a 1) x0 (fun (p2 : Nat) => gL σ p2 x0 (fun (v3 : Int64) => if v3 = 0 then (some (Sum.inl ())) else (some (Sum.inr true))))))) : Option (Unit ⊕ Bool)).bind (Sum.elim (fun (z0 : Unit) => j_X3_hasStep_29) some)
noncomputable def f_J9_floorDiv_f86c9 (σ : Mem) (x0 : Int64) (x1 : Int64) : Option Int64 :=
  nzL x1 (bd (x0 / x1) (fun (v1 : Int64) => if 0 ≤ (x0 ^^^ x1) then (some v1) else (if (v1 * x1) = x0 then (some v1) else (some (v1 - 1)))))
noncomputable def l_X3_subtract_3 (a : Nat) (x0 : Nat) (x1 : Nat) (x2 : Int64) (σ1 : Mem) (i2 : Int32) : Option ((Mem × Int32) ⊕ Mem) :=
  gF σ1 a 0 (fun (v3 : Int32) => if v3 ≤ i2 then (some (Sum.inr σ1)) else (gL σ1 x0 i2 (fun (v4 : Int64) => gL σ1 x1 i2 (fun (v5 : Int64) => pL σ1 x0 i2 (v4 - (x2 * v5)) (fun (σ6 : Mem) => some (Sum.inl (σ6, i2 + 1)))))))
noncomputable def f_X3_subtract (σ : Mem) (a : Nat) (x0 : Nat) (x1 : Nat) (x2 : Int64) : Option Mem :=
  loopO (fun (z2 : (Mem × Int32)) => l_X3_subtract_3 a x0 x1 x2 z2.1 z2.2) (σ, 0)
noncomputable def l_X3_swapWithSpare_2 (a : Nat) (x0 : Nat) (σ1 : Mem) (i2 : Int32) : Option ((Mem × Int32) ⊕ Mem) :=
  gF σ1 a 0 (fun (v3 : Int32) => if v3 ≤ i2 then (some (Sum.inr σ1)) else (gL σ1 x0 i2 (fun (v4 : Int64) => gL σ1 (rf a 2) i2 (fun (v5 : Int64) => pL σ1 x0 i2 v5 (fun (σ6 : Mem) => pL σ6 (rf a 2) i2 v4 (fun (σ7 : Mem) => some (Sum.inl (σ7, i2 + 1))))))))
noncomputable def f_X3_swapWithSpare (σ : Mem) (a : Nat) (x0 : Nat) : Option Mem :=
  loopO (fun (z2 : (Mem × Int32)) => l_X3_swapWithSpare_2 a x0 z2.1 z2.2) (σ, 0)
noncomputable def l_X3_meet_2 (a : Nat) (x0 : Int32) (σ1 : Mem) (i2 : Int32) : Option ((Mem × Int32) ⊕ Mem) :=
  if 1000 ≤ i2 then (some (Sum.inr σ1)) else (gL σ1 (rf a 2) x0 (fun (v3 : Int64) => if v3 = 0 then (some (Sum.inr σ1)) else (gR (rf a 1) x0 (fun (p4 : Nat) => gR (rf a 1) x0 (fun (p5 : Nat) => gL σ1 p5 x0 (fun (v6 : Int64) => gL σ1 (rf a 2) x0 (fun (v7 : Int64) => (f_J9_floorDiv_f86c9 σ1 v6 v7).bind (fun (v8 : Int64) => (f_X3_subtract σ1 a p4 (rf a 2) v8).bind (fun (σ9 : Mem) => gR (rf a 1) x0 (fun (p10 : Nat) => (f_X3_swapWithSpare σ9 a p10).bind (fun (σ11 : Mem) => some (Sum.inl (σ11, i2 + 1)))))))))))))
noncomputable def f_X3_meet (σ : Mem) (a : Nat) (x0 : Int32) : Option Mem :=
  loopO (fun (z2 : (Mem × Int32)) => l_X3_meet_2 a x0 z2.1 z2.2) (σ, 0)
noncomputable def l_X3_negate_2 (a : Nat) (x0 : Nat) (σ1 : Mem) (i2 : Int32) : Option ((Mem × Int32) ⊕ Mem) :=
  gF σ1 a 0 (fun (v3 : Int32) => if v3 ≤ i2 then (some (Sum.inr σ1)) else (gL σ1 x0 i2 (fun (v4 : Int64) => pL σ1 x0 i2 (-v4) (fun (σ5 : Mem) => some (Sum.inl (σ5, i2 + 1))))))
noncomputable def f_X3_negate (σ : Mem) (a : Nat) (x0 : Nat) : Option Mem :=
  loopO (fun (z2 : (Mem × Int32)) => l_X3_negate_2 a x0 z2.1 z2.2) (σ, 0)
noncomputable def f_X3_takeStep (σ : Mem) (a : Nat) (x0 : Nat) (x1 : Int32) : Option Mem :=
  gR (rf a 1) x1 (fun (p1 : Nat) => gL σ p1 x1 (fun (v2 : Int64) => if v2 = 0 then (some σ) else (gR (rf a 1) x1 (fun (p3 : Nat) => gL σ x0 x1 (fun (v4 : Int64) => gR (rf a 1) x1 (fun (p5 : Nat) => gL σ p5 x1 (fun (v6 : Int64) => (f_J9_floorDiv_f86c9 σ v4 v6).bind (fun (v7 : Int64) => (f_X3_subtract σ a x0 p3 v7).bind (fun (σ8 : Mem) => some σ8)))))))))
noncomputable def j_X3_tidy_40 (i4 : Int32) (σ6 : Mem) : Option ((Mem × Int32) ⊕ Mem) :=
  some (Sum.inl (σ6, i4 + (-1)))
noncomputable def l_X3_tidy_15 (a : Nat) (i4 : Int32) (σ7 : Mem) (i8 : Int32) : Option ((Mem × Int32) ⊕ Mem) :=
  gF σ7 a 0 (fun (v9 : Int32) => if v9 ≤ i8 then (some (Sum.inr σ7)) else (gR (rf a 1) i4 (fun (p10 : Nat) => (f_X3_takeStep σ7 a p10 i8).bind (fun (σ11 : Mem) => some (Sum.inl (σ11, i8 + 1))))))
noncomputable def l_X3_tidy_7 (a : Nat) (σ3 : Mem) (i4 : Int32) : Option ((Mem × Int32) ⊕ Mem) :=
  if i4 < 0 then (some (Sum.inr σ3)) else (bd (i4 + 1) (fun (v5 : Int32) => (loopO (fun (z8 : (Mem × Int32)) => l_X3_tidy_15 a i4 z8.1 z8.2) (σ3, v5) : Option Mem).bind (fun (z6 : Mem) => j_X3_tidy_40 i4 z6)))
noncomputable def f_X3_tidy (σ : Mem) (a : Nat) : Option Mem :=
  gF σ a 0 (fun (v1 : Int32) => bd (v1 - 1) (fun (v2 : Int32) => loopO (fun (z4 : (Mem × Int32)) => l_X3_tidy_7 a z4.1 z4.2) (σ, v2)))
noncomputable def j_X3_insert_52 (a : Nat) (σ2 : Mem) : Option Mem :=
  (f_X3_tidy σ2 a).bind (fun (σ3 : Mem) => some σ3)
noncomputable def j_X3_insert_46 (i5 : Int32) (σ10 : Mem) : Option ((Mem × Int32) ⊕ Mem) :=
  some (Sum.inl (σ10, i5 + 1))
noncomputable def l_X3_insert_10 (a : Nat) (σ4 : Mem) (i5 : Int32) : Option ((Mem × Int32) ⊕ Mem) :=
  gF σ4 a 0 (fun (v6 : Int32) => if v6 ≤ i5 then (some (Sum.inr σ4)) else ((f_X3_meet σ4 a i5).bind (fun (σ7 : Mem) => gR (rf a 1) i5 (fun (p8 : Nat) => gL σ7 p8 i5 (fun (v9 : Int64) => (if 0 ≤ v9 then (some σ7) else (gR (rf a 1) i5 (fun (p11 : Nat) => (f_X3_negate σ7 a p11).bind (fun (σ12 : Mem) => some σ12))) : Option Mem).bind (fun (z10 : Mem) => j_X3_insert_46 i5 z10))))))
noncomputable def f_X3_insert (σ : Mem) (a : Nat) (x0 : Nat) : Option Mem :=
  (f_X0_copy σ x0 (rf a 2)).bind (fun (σ1 : Mem) => (loopO (fun (z5 : (Mem × Int32)) => l_X3_insert_10 a z5.1 z5.2) (σ1, 0) : Option Mem).bind (fun (z2 : Mem) => j_X3_insert_52 a z2))
noncomputable def j_X3_reduce_35 (i3 : Int32) (σ6 : Mem) (b7 : Bool) : Option ((Mem × Int32 × Int32) ⊕ (Bool × Mem)) :=
  some (Sum.inl (σ6, b2i b7, i3 + 1))
noncomputable def j_X3_reduce_34  : Option Bool :=
  some false
noncomputable def l_X3_reduce_4 (a : Nat) (x0 : Nat) (σ1 : Mem) (i2 : Int32) (i3 : Int32) : Option ((Mem × Int32 × Int32) ⊕ (Bool × Mem)) :=
  gF σ1 a 0 (fun (v4 : Int32) => if v4 ≤ i3 then (rB i2 (fun (b5 : Bool) => some (Sum.inr (b5, σ1)))) else ((f_X3_takeStep σ1 a x0 i3).bind (fun (σ6 : Mem) => ((if i2 = 0 then (some (Sum.inl ())) else (gL σ6 x0 i3 (fun (v8 : Int64) => if v8 = 0 then (some (Sum.inr true)) else (some (Sum.inl ())))) : Option (Unit ⊕ Bool)).bind (Sum.elim (fun (z7 : Unit) => j_X3_reduce_34) some) : Option Bool).bind (fun (z7 : Bool) => j_X3_reduce_35 i3 σ6 z7))))
noncomputable def f_X3_reduce (σ : Mem) (a : Nat) (x0 : Nat) : Option (Bool × Mem) :=
  loopO (fun (z3 : (Mem × Int32 × Int32)) => l_X3_reduce_4 a x0 z3.1 z3.2.1 z3.2.2) (σ, 1, 0)
noncomputable def f_X5_forget (σ : Mem) : Option Mem :=
  pF σ 144 0 0 (fun (σ1 : Mem) => pF σ1 144 1 (-1) (fun (σ2 : Mem) => some σ2))
noncomputable def j_X5_signHere_30  : Option Int32 :=
  some (-1)
noncomputable def f_X5_signHere (σ : Mem) : Option Int32 :=
  gF σ 144 9 (fun (v1 : Int32) => (if v1 < 0 then (some (Sum.inl ())) else (gF σ 144 9 (fun (v2 : Int32) => gF σ 144 8 (fun (v3 : Int32) => if v3 ≤ v2 then (some (Sum.inl ())) else (gF σ 144 9 (fun (v4 : Int32) => gI σ 175 v4 (fun (v5 : Int32) => some (Sum.inr v5))))))) : Option (Unit ⊕ Int32)).bind (Sum.elim (fun (z1 : Unit) => j_X5_signHere_30) some))
noncomputable def j_X5_skipBlanks_34 (σ1 : Mem) : Option (Int32 × Mem) :=
  (f_X5_signHere σ1).bind (fun (v2 : Int32) => some (v2, σ1))
noncomputable def l_X5_skipBlanks_2 (σ3 : Mem) (i4 : Int32) : Option ((Mem × Int32) ⊕ Mem) :=
  if 200 ≤ i4 then (some (Sum.inr σ3)) else ((f_X5_signHere σ3).bind (fun (v5 : Int32) => if v5 = 32 then (gF σ3 144 9 (fun (v6 : Int32) => pF σ3 144 9 (v6 + 1) (fun (σ7 : Mem) => some (Sum.inl (σ7, i4 + 1))))) else (some (Sum.inr σ3))))
noncomputable def f_X5_skipBlanks (σ : Mem) : Option (Int32 × Mem) :=
  (loopO (fun (z4 : (Mem × Int32)) => l_X5_skipBlanks_2 z4.1 z4.2) (σ, 0) : Option Mem).bind (fun (z1 : Mem) => j_X5_skipBlanks_34 z1)
noncomputable def j_X5_beginsFactor_30  : Option Bool :=
  some true
noncomputable def j_X5_beginsFactor_12 (x0 : Int32) : Option (Unit ⊕ Bool) :=
  if x0 = 82 then (some (Sum.inl ())) else (if x0 = 40 then (some (Sum.inl ())) else (if x0 = 91 then (some (Sum.inl ())) else (some (Sum.inr false))))
noncomputable def f_X5_beginsFactor (σ : Mem) (x0 : Int32) : Option Bool :=
  ((if x0 < 97 then (some (Sum.inl ())) else (if x0 ≤ 102 then (some (Sum.inr (Sum.inl ()))) else (some (Sum.inl ()))) : Option (Unit ⊕ (Unit ⊕ Bool))).bind (Sum.elim (fun (z0 : Unit) => j_X5_beginsFactor_12 x0) some) : Option (Unit ⊕ Bool)).bind (Sum.elim (fun (z0 : Unit) => j_X5_beginsFactor_30) some)
noncomputable def j_X5_isDigit_16  : Option Bool :=
  some false
noncomputable def f_X5_isDigit (σ : Mem) (x0 : Int32) : Option Bool :=
  (if x0 < 48 then (some (Sum.inl ())) else (if 57 < x0 then (some (Sum.inl ())) else (some (Sum.inr true))) : Option (Unit ⊕ Bool)).bind (Sum.elim (fun (z0 : Unit) => j_X5_isDigit_16) some)
noncomputable def f_X5_fail (σ : Mem) (x0 : Int32) (x1 : Int32) : Option (Bool × Mem) :=
  pF σ 144 0 x0 (fun (σ1 : Mem) => pF σ1 144 1 x1 (fun (σ2 : Mem) => some (false, σ2)))
noncomputable def j_X5_readPower_202 (σ20 : Mem) : Option (Bool × Mem) :=
  some (true, σ20)
noncomputable def j_X5_readPower_169 (x0 : Nat) (σ13 : Mem) (l15 : Int64) : Option (Bool × Mem) :=
  (f_X0_raise σ13 x0 x0 l15).bind (fun (σ16 : Mem) => gF σ16 144 9 (fun (v17 : Int32) => pF σ16 144 10 v17 (fun (σ18 : Mem) => (f_X0_isWithin σ18 x0 999).bind (fun (b19 : Bool) => (if b19 then some (Sum.inl σ18) else gF σ18 144 9 (fun (v21 : Int32) => bq (f_X5_fail σ18 5 v21) (fun (b22 : Bool) (σ23 : Mem) => if b22 then some (Sum.inl σ23) else some (Sum.inr (false, σ23)))) : Option (Mem ⊕ (Bool × Mem))).bind (Sum.elim (fun (z20 : Mem) => j_X5_readPower_202 z20) some)))))
noncomputable def j_X5_readPower_135 (x0 : Nat) (b7 : Bool) (v12 : Int32) (σ13 : Mem) (i14 : Int32) : Option (Bool × Mem) :=
  if i14 ≤ 99 then ((if b7 then some (Int32.toInt64 (-i14)) else some (Int32.toInt64 i14) : Option Int64).bind (fun (z15 : Int64) => j_X5_readPower_169 x0 σ13 z15)) else (bq (f_X5_fail σ13 2 v12) (fun (b24 : Bool) (σ25 : Mem) => some (b24, σ25)))
noncomputable def l_X5_readPower_81 (σ26 : Mem) (i27 : Int32) (i28 : Int32) : Option ((Mem × Int32 × Int32) ⊕ (Mem × Int32)) :=
  if 200 ≤ i28 then (some (Sum.inr (σ26, i27))) else ((f_X5_signHere σ26).bind (fun (v29 : Int32) => (f_X5_isDigit σ26 v29).bind (fun (b30 : Bool) => if b30 then (f_X5_signHere σ26).bind (fun (v31 : Int32) => (f_J9_min_7cf53 σ26 (((i27 * 10) + v31) - 48) 100).bind (fun (v32 : Int32) => gF σ26 144 9 (fun (v33 : Int32) => pF σ26 144 9 (v33 + 1) (fun (σ34 : Mem) => some (Sum.inl (σ34, v32, i28 + 1)))))) else some (Sum.inr (σ26, i27)))))
noncomputable def j_X5_readPower_50 (x0 : Nat) (b7 : Bool) (σ8 : Mem) : Option (Bool × Mem) :=
  bq (f_X5_skipBlanks σ8) (fun (v9 : Int32) (σ10 : Mem) => (f_X5_isDigit σ10 v9).bind (fun (b11 : Bool) => if b11 then gF σ10 144 9 (fun (v12 : Int32) => (loopO (fun (z28 : (Mem × Int32 × Int32)) => l_X5_readPower_81 z28.1 z28.2.1 z28.2.2) (σ10, 0, 0) : Option (Mem × Int32)).bind (fun (z14 : (Mem × Int32)) => j_X5_readPower_135 x0 b7 v12 z14.1 z14.2)) else gF σ10 144 9 (fun (v35 : Int32) => bq (f_X5_fail σ10 1 v35) (fun (b36 : Bool) (σ37 : Mem) => some (b36, σ37)))))
noncomputable def j_X5_readPower_35 (x0 : Nat) (σ6 : Mem) (b7 : Bool) : Option (Bool × Mem) :=
  (if b7 then gF σ6 144 9 (fun (v38 : Int32) => pF σ6 144 9 (v38 + 1) (fun (σ39 : Mem) => some σ39)) else some σ6 : Option Mem).bind (fun (z8 : Mem) => j_X5_readPower_50 x0 b7 z8)
noncomputable def f_X5_readPower (σ : Mem) (x0 : Nat) : Option (Bool × Mem) :=
  bq (f_X5_skipBlanks σ) (fun (v1 : Int32) (σ2 : Mem) => if v1 = 94 then (gF σ2 144 9 (fun (v3 : Int32) => pF σ2 144 9 (v3 + 1) (fun (σ4 : Mem) => bq (f_X5_skipBlanks σ4) (fun (v5 : Int32) (σ6 : Mem) => (if v5 = 45 then (some true) else (some false) : Option Bool).bind (fun (z7 : Bool) => j_X5_readPower_35 x0 σ6 z7))))) else (some (true, σ2)))
noncomputable def f_X5_passFactor (σ : Mem) : Option (Bool × Mem) :=
  gF σ 144 9 (fun (v1 : Int32) => pF σ 144 9 (v1 + 1) (fun (σ2 : Mem) => gF σ2 144 9 (fun (v3 : Int32) => pF σ2 144 10 v3 (fun (σ4 : Mem) => some (true, σ4)))))
noncomputable def f_X5_readRegister (σ : Mem) (x0 : Nat) : Option (Bool × Mem) :=
  gF σ 144 9 (fun (v1 : Int32) => pF σ 144 9 (v1 + 1) (fun (σ2 : Mem) => (f_X5_signHere σ2).bind (fun (v3 : Int32) => bd (v3 - 48) (fun (v4 : Int32) => (f_X10_isRegister σ2 v4).bind (fun (b5 : Bool) => if b5 then gR 5 v4 (fun (p6 : Nat) => (f_X0_copy σ2 p6 x0).bind (fun (σ7 : Mem) => bq (f_X5_passFactor σ7) (fun (b8 : Bool) (σ9 : Mem) => some (b8, σ9)))) else gF σ2 144 9 (fun (v10 : Int32) => bq (f_X5_fail σ2 1 v10) (fun (b11 : Bool) (σ12 : Mem) => some (b11, σ12))))))))
noncomputable def j_X5_readLetter_18 (σ : Mem) : Option (Bool × Mem) :=
  gF σ 144 9 (fun (v1 : Int32) => bq (f_X5_fail σ 3 v1) (fun (b2 : Bool) (σ3 : Mem) => some (b2, σ3)))
noncomputable def f_X5_readLetter (σ : Mem) (x0 : Int32) (x1 : Nat) : Option (Bool × Mem) :=
  (if x0 < 0 then (some (Sum.inl ())) else (gF σ 2 0 (fun (v4 : Int32) => if x0 < v4 then ((f_X0_makeGenerator σ x1 x0 1).bind (fun (σ5 : Mem) => bq (f_X5_passFactor σ5) (fun (b6 : Bool) (σ7 : Mem) => some (Sum.inr (b6, σ7))))) else (some (Sum.inl ())))) : Option (Unit ⊕ (Bool × Mem))).bind (Sum.elim (fun (z0 : Unit) => j_X5_readLetter_18 σ) some)
noncomputable def o_X5_readRound (rec : Mem → Int32 → Option (Bool × Mem)) (σ : Mem) (x0 : Int32) : Option (Bool × Mem) :=
  bq (rec σ (x0 + 1)) (fun (b1 : Bool) (σ2 : Mem) => if b1 then (f_X5_signHere σ2).bind (fun (v3 : Int32) => if v3 = 41 then (gR 145 (x0 + 1) (fun (p4 : Nat) => gR 155 x0 (fun (p5 : Nat) => (f_X0_copy σ2 p4 p5).bind (fun (σ6 : Mem) => bq (f_X5_passFactor σ6) (fun (b7 : Bool) (σ8 : Mem) => some (b7, σ8)))))) else (gF σ2 144 9 (fun (v9 : Int32) => bq (f_X5_fail σ2 1 v9) (fun (b10 : Bool) (σ11 : Mem) => some (b10, σ11))))) else some (false, σ2))
noncomputable def j_X5_readSquare_133 (rec : Mem → Int32 → Option (Bool × Mem)) (x0 : Int32) (p1 : Nat) (σ7 : Mem) : Option (Bool × Mem) :=
  (f_X5_signHere σ7).bind (fun (v8 : Int32) => if v8 = 93 then (gR 155 x0 (fun (p9 : Nat) => (f_X0_copy σ7 p1 p9).bind (fun (σ10 : Mem) => bq (f_X5_passFactor σ10) (fun (b11 : Bool) (σ12 : Mem) => some (b11, σ12))))) else (gF σ7 144 9 (fun (v13 : Int32) => bq (f_X5_fail σ7 1 v13) (fun (b14 : Bool) (σ15 : Mem) => some (b14, σ15)))))
noncomputable def j_X5_readSquare_117 (rec : Mem → Int32 → Option (Bool × Mem)) (σ16 : Mem) : Option (Mem ⊕ (Bool × Mem)) :=
  gF σ16 144 10 (fun (v17 : Int32) => bq (f_X5_fail σ16 5 v17) (fun (b18 : Bool) (σ19 : Mem) => some (Sum.inr (b18, σ19))))
noncomputable def l_X5_readSquare_52 (rec : Mem → Int32 → Option (Bool × Mem)) (x0 : Int32) (p1 : Nat) (σ20 : Mem) (i21 : Int32) : Option ((Mem × Int32) ⊕ (Mem ⊕ (Mem ⊕ (Bool × Mem)))) :=
  if 200 ≤ i21 then (some (Sum.inr (Sum.inr (Sum.inl σ20)))) else ((f_X5_signHere σ20).bind (fun (v22 : Int32) => if v22 = 44 then (gF σ20 144 9 (fun (v23 : Int32) => pF σ20 144 9 (v23 + 1) (fun (σ24 : Mem) => bq (rec σ24 (x0 + 1)) (fun (b25 : Bool) (σ26 : Mem) => if b25 then gR 145 (x0 + 1) (fun (p27 : Nat) => (f_X0_commutator σ26 p1 p1 p27).bind (fun (σ28 : Mem) => (f_X0_isWithin σ28 p1 999).bind (fun (b29 : Bool) => if b29 then some (Sum.inl (σ28, i21 + 1)) else some (Sum.inr (Sum.inl σ28))))) else some (Sum.inr (Sum.inr (Sum.inr (false, σ26)))))))) else (some (Sum.inr (Sum.inr (Sum.inl σ20))))))
noncomputable def o_X5_readSquare (rec : Mem → Int32 → Option (Bool × Mem)) (σ : Mem) (x0 : Int32) : Option (Bool × Mem) :=
  gR 165 x0 (fun (p1 : Nat) => bq (rec σ (x0 + 1)) (fun (b2 : Bool) (σ3 : Mem) => if b2 then gR 145 (x0 + 1) (fun (p4 : Nat) => (f_X0_copy σ3 p4 p1).bind (fun (σ5 : Mem) => (f_X5_signHere σ5).bind (fun (v6 : Int32) => if v6 = 44 then (((loopO (fun (z21 : (Mem × Int32)) => l_X5_readSquare_52 rec x0 p1 z21.1 z21.2) (σ5, 0) : Option (Mem ⊕ (Mem ⊕ (Bool × Mem)))).bind (Sum.elim (fun (z16 : Mem) => j_X5_readSquare_117 rec z16) some) : Option (Mem ⊕ (Bool × Mem))).bind (Sum.elim (fun (z7 : Mem) => j_X5_readSquare_133 rec x0 p1 z7) some)) else (gF σ5 144 9 (fun (v30 : Int32) => bq (f_X5_fail σ5 1 v30) (fun (b31 : Bool) (σ32 : Mem) => some (b31, σ32))))))) else some (false, σ3)))
noncomputable def j_X5_readFactor_49 (rec : Mem → Int32 → Option (Bool × Mem)) (σ : Mem) (x0 : Int32) (v1 : Int32) : Option (Bool × Mem) :=
  if x0 < 8 then (gF σ 144 9 (fun (v2 : Int32) => pF σ 144 9 (v2 + 1) (fun (σ3 : Mem) => if v1 = 40 then (bq (o_X5_readRound rec σ3 x0) (fun (b6 : Bool) (σ7 : Mem) => some (b6, σ7))) else (bq (o_X5_readSquare rec σ3 x0) (fun (b4 : Bool) (σ5 : Mem) => some (b4, σ5)))))) else (gF σ 144 9 (fun (v8 : Int32) => bq (f_X5_fail σ 4 v8) (fun (b9 : Bool) (σ10 : Mem) => some (b9, σ10))))
noncomputable def o_X5_readFactor (rec : Mem → Int32 → Option (Bool × Mem)) (σ : Mem) (x0 : Int32) : Option (Bool × Mem) :=
  (f_X5_signHere σ).bind (fun (v1 : Int32) => if v1 = 82 then (gR 155 x0 (fun (p14 : Nat) => bq (f_X5_readRegister σ p14) (fun (b15 : Bool) (σ16 : Mem) => some (b15, σ16)))) else ((if v1 = 40 then (some (Sum.inl ())) else (if v1 = 91 then (some (Sum.inl ())) else (gR 155 x0 (fun (p11 : Nat) => bq (f_X5_readLetter σ (v1 - 97) p11) (fun (b12 : Bool) (σ13 : Mem) => some (Sum.inr (b12, σ13)))))) : Option (Unit ⊕ (Bool × Mem))).bind (Sum.elim (fun (z1 : Unit) => j_X5_readFactor_49 rec σ x0 v1) some)))
noncomputable def j_X5_readWord_91 (rec : Mem → Int32 → Option (Bool × Mem)) (σ3 : Mem) : Option (Bool × Mem) :=
  gF σ3 144 10 (fun (v4 : Int32) => bq (f_X5_fail σ3 5 v4) (fun (b5 : Bool) (σ6 : Mem) => some (b5, σ6)))
noncomputable def l_X5_readWord_26 (rec : Mem → Int32 → Option (Bool × Mem)) (x0 : Int32) (p1 : Nat) (σ7 : Mem) (i8 : Int32) : Option ((Mem × Int32) ⊕ (Mem ⊕ (Bool × Mem))) :=
  if 200 ≤ i8 then (some (Sum.inr (Sum.inr (true, σ7)))) else (bq (f_X5_skipBlanks σ7) (fun (v9 : Int32) (σ10 : Mem) => (f_X5_beginsFactor σ10 v9).bind (fun (b11 : Bool) => if b11 then bq (o_X5_readFactor rec σ10 x0) (fun (b12 : Bool) (σ13 : Mem) => if b12 then gR 155 x0 (fun (p14 : Nat) => bq (f_X5_readPower σ13 p14) (fun (b15 : Bool) (σ16 : Mem) => if b15 then gR 155 x0 (fun (p17 : Nat) => (f_X0_product σ16 p1 p1 p17).bind (fun (σ18 : Mem) => (f_X0_isWithin σ18 p1 999).bind (fun (b19 : Bool) => if b19 then some (Sum.inl (σ18, i8 + 1)) else some (Sum.inr (Sum.inl σ18))))) else some (Sum.inr (Sum.inr (false, σ16))))) else some (Sum.inr (Sum.inr (false, σ13)))) else some (Sum.inr (Sum.inr (true, σ10))))))
noncomputable def o_X5_readWord (rec : Mem → Int32 → Option (Bool × Mem)) (σ : Mem) (x0 : Int32) : Option (Bool × Mem) :=
  if x0 < 0 then (some (false, σ)) else (if x0 ≤ 8 then (gR 145 x0 (fun (p1 : Nat) => (f_J7_fill_d0a16 σ p1 0).bind (fun (σ2 : Mem) => (loopO (fun (z8 : (Mem × Int32)) => l_X5_readWord_26 rec x0 p1 z8.1 z8.2) (σ2, 0) : Option (Mem ⊕ (Bool × Mem))).bind (Sum.elim (fun (z3 : Mem) => j_X5_readWord_91 rec z3) some)))) else (some (false, σ)))
noncomputable def f_X5_readWord : Nat → Mem → Int32 → Option (Bool × Mem)
  | 0 => fun _ _ => none
  | n + 1 => fun σ x0 => o_X5_readWord (f_X5_readWord n) σ x0
noncomputable def j_X5_read_77 (σ13 : Mem) : Option (Bool × Mem) :=
  some (true, σ13)
noncomputable def f_X5_read (σ : Mem) (x0 : Nat) (x1 : Int32) : Option (Bool × Mem) :=
  (f_J9_min_7cf53 σ (Int32.ofNat (ln x0)) 200).bind (fun (v1 : Int32) => (f_J9_min_7cf53 σ x1 v1).bind (fun (v2 : Int32) => (f_J9_max_7cf53 σ 0 v2).bind (fun (v3 : Int32) => pF σ 144 8 v3 (fun (σ4 : Mem) => gF σ4 144 8 (fun (v5 : Int32) => cI σ4 x0 0 175 0 v5 (fun (σ6 : Mem) => pF σ6 144 9 0 (fun (σ7 : Mem) => pF σ7 144 10 0 (fun (σ8 : Mem) => bq (f_X5_readWord 10 σ8 0) (fun (b9 : Bool) (σ10 : Mem) => if b9 then gF σ10 144 9 (fun (v11 : Int32) => gF σ10 144 8 (fun (v12 : Int32) => (if v12 ≤ v11 then (some (Sum.inl σ10)) else (gF σ10 144 9 (fun (v14 : Int32) => bq (f_X5_fail σ10 1 v14) (fun (b15 : Bool) (σ16 : Mem) => if b15 then some (Sum.inl σ16) else some (Sum.inr (false, σ16))))) : Option (Mem ⊕ (Bool × Mem))).bind (Sum.elim (fun (z13 : Mem) => j_X5_read_77 z13) some))) else some (false, σ10))))))))))
noncomputable def l_X6_copyTails_3 (a : Nat) (x0 : Int32) (x1 : Int32) (x2 : Nat) (σ1 : Mem) (i2 : Int32) : Option ((Mem × Int32) ⊕ Mem) :=
  if 6 ≤ i2 then (some (Sum.inr σ1)) else ((f_X6_read σ1 a x0 x1 i2).bind (fun (v3 : Int32) => pL σ1 x2 i2 (Int32.toInt64 v3) (fun (σ4 : Mem) => some (Sum.inl (σ4, i2 + 1)))))
noncomputable def f_X6_copyTails (σ : Mem) (a : Nat) (x0 : Int32) (x1 : Int32) (x2 : Nat) : Option Mem :=
  loopO (fun (z2 : (Mem × Int32)) => l_X6_copyTails_3 a x0 x1 x2 z2.1 z2.2) (σ, 0)
noncomputable def j_X6_countOf_28 (i1 : Int32) (i2 : Int32) (b5 : Bool) : Option ((Int32 × Int32) ⊕ Int32) :=
  bd (i1 + (b2i b5)) (fun (v6 : Int32) => some (Sum.inl (v6, i2 + 1)))
noncomputable def l_X6_countOf_4 (σ : Mem) (a : Nat) (x0 : Int32) (i1 : Int32) (i2 : Int32) : Option ((Int32 × Int32) ⊕ Int32) :=
  gF σ a 0 (fun (v3 : Int32) => if v3 ≤ i2 then (some (Sum.inr i1)) else (gI σ (rf a 1) i2 (fun (v4 : Int32) => (if v4 = x0 then (some true) else (some false) : Option Bool).bind (fun (z5 : Bool) => j_X6_countOf_28 i1 i2 z5))))
noncomputable def f_X6_countOf (σ : Mem) (a : Nat) (x0 : Int32) : Option Int32 :=
  loopO (fun (z2 : (Int32 × Int32)) => l_X6_countOf_4 σ a x0 z2.1 z2.2) (0, 0)
noncomputable def f_X9_factors (σ : Mem) (x0 : Int32) (x1 : Nat) : Option Int64 :=
  gL σ x1 (x0 &&& 63) (fun (v1 : Int64) => gL σ x1 ((x0 >>> (6 &&& 31)) &&& 63) (fun (v2 : Int64) => gL σ x1 ((x0 >>> (12 &&& 31)) &&& 63) (fun (v3 : Int64) => some ((v1 * v2) * v3))))
noncomputable def j_X9_merge_48 (σ : Mem) (a : Nat) (x0 : Int32) (x1 : Int64) : Option Mem :=
  (f_X9_append σ a x0 x1).bind (fun (σ1 : Mem) => some σ1)
noncomputable def j_X9_merge_30 (σ : Mem) (a : Nat) (x1 : Int64) (i2 : Int32) : Option (Unit ⊕ Mem) :=
  gL σ (rf a 2) i2 (fun (v3 : Int64) => pL σ (rf a 2) i2 (v3 + x1) (fun (σ4 : Mem) => some (Sum.inr σ4)))
noncomputable def l_X9_merge_10 (σ : Mem) (a : Nat) (x0 : Int32) (i5 : Int32) : Option (Int32 ⊕ (Int32 ⊕ (Unit ⊕ Mem))) :=
  gF σ a 0 (fun (v6 : Int32) => if v6 ≤ i5 then (some (Sum.inr (Sum.inr (Sum.inl ())))) else (gI σ (rf a 1) i5 (fun (v7 : Int32) => if v7 = x0 then (some (Sum.inr (Sum.inl i5))) else (some (Sum.inl (i5 + 1))))))
noncomputable def f_X9_merge (σ : Mem) (a : Nat) (x0 : Int32) (x1 : Int64) : Option Mem :=
  if x1 = 0 then (some σ) else (((loopO (fun (z5 : Int32) => l_X9_merge_10 σ a x0 z5) 0 : Option (Int32 ⊕ (Unit ⊕ Mem))).bind (Sum.elim (fun (z2 : Int32) => j_X9_merge_30 σ a x1 z2) some) : Option (Unit ⊕ Mem)).bind (Sum.elim (fun (z0 : Unit) => j_X9_merge_48 σ a x0 x1) some))
noncomputable def l_X7_findGap_2 (x0 : Nat) (x1 : Nat) (σ1 : Mem) (i2 : Int32) : Option ((Mem × Int32) ⊕ Mem) :=
  gF σ1 x0 0 (fun (v3 : Int32) => if v3 ≤ i2 then (some (Sum.inr σ1)) else (gI σ1 (rf x0 1) i2 (fun (v4 : Int32) => bd (v4 &&& 16773120) (fun (v5 : Int32) => gI σ1 (rf x0 1) i2 (fun (v6 : Int32) => bd (v6 &&& 4095) (fun (v7 : Int32) => gL σ1 (rf x0 2) i2 (fun (v8 : Int64) => (f_X9_placesOf σ1 v5).bind (fun (v9 : Int32) => (f_X9_factors σ1 v9 100).bind (fun (v10 : Int64) => (f_X9_merge σ1 x1 (v7 <<< (12 &&& 31)) (v8 * v10)).bind (fun (σ11 : Mem) => gL σ11 (rf x0 2) i2 (fun (v12 : Int64) => (f_X9_placesOf σ11 v7).bind (fun (v13 : Int32) => (f_X9_factors σ11 v13 100).bind (fun (v14 : Int64) => (f_X9_merge σ11 x1 v5 ((-v12) * v14)).bind (fun (σ15 : Mem) => some (Sum.inl (σ15, i2 + 1))))))))))))))))
noncomputable def f_X7_findGap (σ : Mem) (x0 : Nat) (x1 : Nat) : Option Mem :=
  loopO (fun (z2 : (Mem × Int32)) => l_X7_findGap_2 x0 x1 z2.1 z2.2) (σ, 0)
noncomputable def l_X7_findGaps_41 (σ2 : Mem) (i3 : Int32) : Option ((Mem × Int32) ⊕ Mem) :=
  if 6 ≤ i3 then (some (Sum.inr σ2)) else (gR 99 i3 (fun (p4 : Nat) => pF σ2 p4 0 0 (fun (σ5 : Mem) => gR 44 i3 (fun (p6 : Nat) => gR 99 i3 (fun (p7 : Nat) => (f_X7_findGap σ5 p6 p7).bind (fun (σ8 : Mem) => some (Sum.inl (σ8, i3 + 1))))))))
noncomputable def j_X7_findGaps_39 (σ1 : Mem) : Option Mem :=
  loopO (fun (z3 : (Mem × Int32)) => l_X7_findGaps_41 z3.1 z3.2) (σ1, 0)
noncomputable def l_X7_findGaps_2 (x0 : Nat) (x1 : Nat) (σ9 : Mem) (i10 : Int32) : Option ((Mem × Int32) ⊕ Mem) :=
  if 6 ≤ i10 then (some (Sum.inr σ9)) else (gL σ9 x0 i10 (fun (v11 : Int64) => (f_X4_put σ9 100 i10 v11).bind (fun (σ12 : Mem) => gL σ12 x1 i10 (fun (v13 : Int64) => (f_X4_put σ12 100 (6 + i10) v13).bind (fun (σ14 : Mem) => some (Sum.inl (σ14, i10 + 1)))))))
noncomputable def f_X7_findGaps (σ : Mem) (x0 : Nat) (x1 : Nat) : Option Mem :=
  (loopO (fun (z10 : (Mem × Int32)) => l_X7_findGaps_2 x0 x1 z10.1 z10.2) (σ, 0) : Option Mem).bind (fun (z1 : Mem) => j_X7_findGaps_39 z1)
noncomputable def f_X7_setU (σ : Mem) (x0 : Int32) (x1 : Int64) : Option Mem :=
  if x0 < 0 then (some σ) else (if 6 ≤ x0 then (some σ) else (pL σ 103 x0 x1 (fun (σ1 : Mem) => (f_X4_put σ1 100 x0 x1).bind (fun (σ2 : Mem) => some σ2))))
noncomputable def l_X7_putU_2 (x0 : Int64) (σ1 : Mem) (i2 : Int32) : Option ((Mem × Int32) ⊕ Mem) :=
  if 6 ≤ i2 then (some (Sum.inr σ1)) else ((f_X7_setU σ1 i2 x0).bind (fun (σ3 : Mem) => some (Sum.inl (σ3, i2 + 1))))
noncomputable def f_X7_putU (σ : Mem) (x0 : Int64) : Option Mem :=
  loopO (fun (z2 : (Mem × Int32)) => l_X7_putU_2 x0 z2.1 z2.2) (σ, 0)
noncomputable def l_X7_areClosed_2 (σ : Mem) (x1 : Int32) (i1 : Int32) : Option (Int32 ⊕ Bool) :=
  if x1 ≤ i1 then (some (Sum.inr true)) else (if 6 ≤ i1 then (some (Sum.inr true)) else (gR 99 i1 (fun (p2 : Nat) => (f_X9_value σ p2 100).bind (fun (v3 : Int64) => if v3 = 0 then (some (Sum.inl (i1 + 1))) else (some (Sum.inr false))))))
noncomputable def f_X7_areClosed (σ : Mem) (x0 : Int32) (x1 : Int32) : Option Bool :=
  loopO (fun (z1 : Int32) => l_X7_areClosed_2 σ x1 z1) x0
noncomputable def j_X7_findWithin_133 (x1 : Int32) (σ3 : Mem) (i4 : Int32) : Option (Bool × Mem) :=
  if i4 < x1 then (some (false, σ3)) else (some (true, σ3))
noncomputable def j_X7_findWithin_127 (i7 : Int32) (σ9 : Mem) (i10 : Int32) : Option ((Mem × Int32 × Int32) ⊕ ((Mem × Int32) ⊕ (Bool × Mem))) :=
  some (Sum.inl (σ9, i10, i7 + 1))
noncomputable def j_X7_findWithin_89 (x0 : Int32) (x1 : Int32) (σ5 : Mem) (i6 : Int32) (i11 : Int32) : Option ((Mem × Int32) ⊕ ((Mem × Int32 × Int32) ⊕ ((Mem × Int32) ⊕ (Bool × Mem)))) :=
  (f_X7_areClosed σ5 (i6 + 1) i11).bind (fun (b12 : Bool) => if b12 then if x1 ≤ (i6 + 1) then (some (Sum.inl (σ5, i6 + 1))) else ((f_X7_setU σ5 (i6 + 1) (Int32.toInt64 (-x0))).bind (fun (σ13 : Mem) => some (Sum.inl (σ13, i6 + 1)))) else gL σ5 103 i6 (fun (v14 : Int64) => (f_X7_setU σ5 i6 (v14 + 1)).bind (fun (σ15 : Mem) => some (Sum.inl (σ15, i6)))))
noncomputable def l_X7_findWithin_21 (x0 : Int32) (x1 : Int32) (σ5 : Mem) (i6 : Int32) (i7 : Int32) : Option ((Mem × Int32 × Int32) ⊕ ((Mem × Int32) ⊕ (Bool × Mem))) :=
  if 1000000 ≤ i7 then (some (Sum.inr (Sum.inl (σ5, i6)))) else (if x1 ≤ i6 then (some (Sum.inr (Sum.inl (σ5, i6)))) else (gL σ5 103 i6 (fun (v8 : Int64) => (if v8 ≤ (Int32.toInt64 x0) then ((if (i6 + 1) = x1 then (some 6) else (some (i6 + 2)) : Option Int32).bind (fun (z11 : Int32) => j_X7_findWithin_89 x0 x1 σ5 i6 z11)) else (if 0 ≤ (i6 + (-1)) then (gL σ5 103 (i6 + (-1)) (fun (v16 : Int64) => (f_X7_setU σ5 (i6 + (-1)) (v16 + 1)).bind (fun (σ17 : Mem) => some (Sum.inl (σ17, i6 + (-1)))))) else (some (Sum.inr (Sum.inr (Sum.inr (false, σ5)))))) : Option ((Mem × Int32) ⊕ ((Mem × Int32 × Int32) ⊕ ((Mem × Int32) ⊕ (Bool × Mem))))).bind (Sum.elim (fun (z10 : (Mem × Int32)) => j_X7_findWithin_127 i7 z10.1 z10.2) some))))
noncomputable def j_X7_findWithin_15 (σ : Mem) (x0 : Int32) (x1 : Int32) (l1 : Int64) : Option (Bool × Mem) :=
  (f_X7_setU σ 0 l1).bind (fun (σ2 : Mem) => (loopO (fun (z7 : (Mem × Int32 × Int32)) => l_X7_findWithin_21 x0 x1 z7.1 z7.2.1 z7.2.2) (σ2, 0, 0) : Option ((Mem × Int32) ⊕ (Bool × Mem))).bind (Sum.elim (fun (z4 : (Mem × Int32)) => j_X7_findWithin_133 x1 z4.1 z4.2) some))
noncomputable def f_X7_findWithin (σ : Mem) (x0 : Int32) (x1 : Int32) : Option (Bool × Mem) :=
  (if x1 = 0 then (some 0) else (some (Int32.toInt64 (-x0))) : Option Int64).bind (fun (z1 : Int64) => j_X7_findWithin_15 σ x0 x1 z1)
noncomputable def j_X7_conjugator_87 (x0 : Nat) (x3 : Int32) (σ2 : Mem) (i3 : Int32) (i4 : Int32) : Option (Bool × Mem) :=
  (f_X7_areClosed σ2 0 i4).bind (fun (b5 : Bool) => if b5 then bq (f_X7_findWithin σ2 x3 i3) (fun (b6 : Bool) (σ7 : Mem) => if b6 then (f_X0_copy σ7 103 x0).bind (fun (σ8 : Mem) => some (true, σ8)) else some (false, σ7)) else some (false, σ2))
noncomputable def j_X7_conjugator_74 (x0 : Nat) (x3 : Int32) (σ2 : Mem) (i3 : Int32) : Option (Bool × Mem) :=
  (if i3 = 0 then (some 6) else (some 1) : Option Int32).bind (fun (z4 : Int32) => j_X7_conjugator_87 x0 x3 σ2 i3 z4)
noncomputable def j_X7_conjugator_65 (i9 : Int32) (i10 : Int32) (b14 : Bool) : Option ((Int32 × Int32) ⊕ Int32) :=
  bd (i9 + (b2i b14)) (fun (v15 : Int32) => some (Sum.inl (v15, i10 + 1)))
noncomputable def l_X7_conjugator_17 (σ2 : Mem) (i9 : Int32) (i10 : Int32) : Option ((Int32 × Int32) ⊕ Int32) :=
  gF σ2 41 0 (fun (v11 : Int32) => if v11 ≤ i10 then (some (Sum.inr i9)) else (gI σ2 42 i10 (fun (v12 : Int32) => (f_X6_top σ2 41).bind (fun (v13 : Int32) => (if v13 ≤ v12 then (some false) else (some true) : Option Bool).bind (fun (z14 : Bool) => j_X7_conjugator_65 i9 i10 z14)))))
noncomputable def f_X7_conjugator (σ : Mem) (x0 : Nat) (x1 : Nat) (x2 : Nat) (x3 : Int32) : Option (Bool × Mem) :=
  (f_X7_findGaps σ x1 x2).bind (fun (σ1 : Mem) => (f_X7_putU σ1 0).bind (fun (σ2 : Mem) => (loopO (fun (z10 : (Int32 × Int32)) => l_X7_conjugator_17 σ2 z10.1 z10.2) (0, 0) : Option Int32).bind (fun (z3 : Int32) => j_X7_conjugator_74 x0 x3 σ2 z3)))
noncomputable def l_X7_copyGaps_8 (x0 : Int32) (x1 : Int32) (x2 : Nat) (σ2 : Mem) (i3 : Int32) : Option ((Mem × Int32) ⊕ Mem) :=
  if x1 ≤ i3 then (some (Sum.inr σ2)) else (if 6 ≤ (x0 + i3) then (some (Sum.inr σ2)) else (gR 99 (x0 + i3) (fun (p4 : Nat) => (f_X9_value σ2 p4 100).bind (fun (v5 : Int64) => pL σ2 x2 i3 v5 (fun (σ6 : Mem) => some (Sum.inl (σ6, i3 + 1)))))))
noncomputable def f_X7_copyGaps (σ : Mem) (x0 : Int32) (x1 : Int32) (x2 : Nat) : Option Mem :=
  (f_J7_fill_d0a16 σ x2 0).bind (fun (σ1 : Mem) => loopO (fun (z3 : (Mem × Int32)) => l_X7_copyGaps_8 x0 x1 x2 z3.1 z3.2) (σ1, 0))
noncomputable def j_X7_findTurns_123 (i5 : Int32) (σ17 : Mem) : Option ((Mem × Int32) ⊕ Mem) :=
  (f_X3_insert σ17 81 101).bind (fun (σ18 : Mem) => some (Sum.inl (σ18, i5 + 1)))
noncomputable def j_X7_findTurns_100 (i5 : Int32) (σ15 : Mem) : Option ((Mem × Int32) ⊕ Mem) :=
  gF σ15 80 9 (fun (v16 : Int32) => (if 6 ≤ (v16 + i5) then (some σ15) else (gF σ15 80 9 (fun (v19 : Int32) => pL σ15 101 (v19 + i5) 1 (fun (σ20 : Mem) => some σ20))) : Option Mem).bind (fun (z17 : Mem) => j_X7_findTurns_123 i5 z17))
noncomputable def l_X7_findTurns_71 (σ21 : Mem) (i22 : Int32) : Option ((Mem × Int32) ⊕ Mem) :=
  gF σ21 80 9 (fun (v23 : Int32) => if v23 ≤ i22 then (some (Sum.inr σ21)) else (gL σ21 101 i22 (fun (v24 : Int64) => gL σ21 102 i22 (fun (v25 : Int64) => pL σ21 101 i22 (v24 - v25) (fun (σ26 : Mem) => some (Sum.inl (σ26, i22 + 1)))))))
noncomputable def l_X7_findTurns_18 (σ4 : Mem) (i5 : Int32) : Option ((Mem × Int32) ⊕ Mem) :=
  gF σ4 80 8 (fun (v6 : Int32) => if v6 ≤ i5 then (some (Sum.inr σ4)) else ((f_X7_putU σ4 0).bind (fun (σ7 : Mem) => gF σ7 80 8 (fun (v8 : Int32) => gF σ7 80 9 (fun (v9 : Int32) => (f_X7_copyGaps σ7 v8 v9 102).bind (fun (σ10 : Mem) => (f_X7_setU σ10 i5 1).bind (fun (σ11 : Mem) => gF σ11 80 8 (fun (v12 : Int32) => gF σ11 80 9 (fun (v13 : Int32) => (f_X7_copyGaps σ11 v12 v13 101).bind (fun (σ14 : Mem) => (loopO (fun (z22 : (Mem × Int32)) => l_X7_findTurns_71 z22.1 z22.2) (σ14, 0) : Option Mem).bind (fun (z15 : Mem) => j_X7_findTurns_100 i5 z15)))))))))))
noncomputable def f_X7_findTurns (σ : Mem) : Option Mem :=
  gF σ 80 9 (fun (v1 : Int32) => gF σ 80 8 (fun (v2 : Int32) => (f_X3_clear σ 81 (v1 + v2)).bind (fun (σ3 : Mem) => loopO (fun (z5 : (Mem × Int32)) => l_X7_findTurns_18 z5.1 z5.2) (σ3, 0))))
noncomputable def l_X7_turnWeightTwo_64 (σ7 : Mem) (i8 : Int32) : Option ((Mem × Int32) ⊕ (Bool × Mem)) :=
  gF σ7 80 8 (fun (v9 : Int32) => if v9 ≤ i8 then (some (Sum.inr (true, σ7))) else (gF σ7 80 9 (fun (v10 : Int32) => if 6 ≤ (v10 + i8) then (some (Sum.inr (true, σ7))) else (gF σ7 80 9 (fun (v11 : Int32) => gL σ7 101 (v11 + i8) (fun (v12 : Int64) => (f_X7_setU σ7 i8 v12).bind (fun (σ13 : Mem) => some (Sum.inl (σ13, i8 + 1)))))))))
noncomputable def j_X7_turnWeightTwo_62 (σ6 : Mem) : Option (Bool × Mem) :=
  loopO (fun (z8 : (Mem × Int32)) => l_X7_turnWeightTwo_64 z8.1 z8.2) (σ6, 0)
noncomputable def l_X7_turnWeightTwo_35 (σ6 : Mem) (i14 : Int32) : Option (Int32 ⊕ (Unit ⊕ (Bool × Mem))) :=
  gF σ6 80 9 (fun (v15 : Int32) => if v15 ≤ i14 then (some (Sum.inr (Sum.inl ()))) else (gL σ6 101 i14 (fun (v16 : Int64) => if v16 = 0 then (some (Sum.inl (i14 + 1))) else (some (Sum.inr (Sum.inr (false, σ6)))))))
noncomputable def f_X7_turnWeightTwo (σ : Mem) : Option (Bool × Mem) :=
  (f_X7_putU σ 0).bind (fun (σ1 : Mem) => gF σ1 80 8 (fun (v2 : Int32) => gF σ1 80 9 (fun (v3 : Int32) => (f_X7_copyGaps σ1 v2 v3 101).bind (fun (σ4 : Mem) => bq (f_X3_reduce σ4 81 101) (fun (b5 : Bool) (σ6 : Mem) => (loopO (fun (z14 : Int32) => l_X7_turnWeightTwo_35 σ6 z14) 0 : Option (Unit ⊕ (Bool × Mem))).bind (Sum.elim (fun (z6 : Unit) => j_X7_turnWeightTwo_62 σ6) some))))))
noncomputable def f_X7_insertShift (σ : Mem) : Option Mem :=
  gF σ 80 8 (fun (v1 : Int32) => gF σ 80 9 (fun (v2 : Int32) => gF σ 80 10 (fun (v3 : Int32) => (f_X7_copyGaps σ (v1 + v2) v3 101).bind (fun (σ4 : Mem) => (f_X3_insert σ4 90 101).bind (fun (σ5 : Mem) => some σ5)))))
noncomputable def l_X7_findShifts_114 (σ6 : Mem) (i7 : Int32) : Option ((Mem × Int32) ⊕ Mem) :=
  gF σ6 80 8 (fun (v8 : Int32) => gF σ6 80 9 (fun (v9 : Int32) => if (v8 + v9) ≤ i7 then (some (Sum.inr σ6)) else ((f_X7_putU σ6 0).bind (fun (σ10 : Mem) => (f_X7_setU σ10 i7 1).bind (fun (σ11 : Mem) => (f_X7_insertShift σ11).bind (fun (σ12 : Mem) => some (Sum.inl (σ12, i7 + 1))))))))
noncomputable def j_X7_findShifts_109 (σ4 : Mem) : Option Mem :=
  gF σ4 80 8 (fun (v5 : Int32) => loopO (fun (z7 : (Mem × Int32)) => l_X7_findShifts_114 z7.1 z7.2) (σ4, v5))
noncomputable def j_X7_findShifts_103 (i14 : Int32) (σ18 : Mem) : Option ((Mem × Int32) ⊕ Mem) :=
  some (Sum.inl (σ18, i14 + 1))
noncomputable def j_X7_findShifts_99 (σ20 : Mem) : Option Mem :=
  (f_X7_insertShift σ20).bind (fun (σ21 : Mem) => some σ21)
noncomputable def l_X7_findShifts_53 (i14 : Int32) (σ22 : Mem) (i23 : Int32) : Option ((Mem × Int32) ⊕ Mem) :=
  gF σ22 80 8 (fun (v24 : Int32) => if v24 ≤ i23 then (some (Sum.inr σ22)) else (gF σ22 80 9 (fun (v25 : Int32) => if 6 ≤ (v25 + i23) then (some (Sum.inr σ22)) else (gR 82 i14 (fun (p26 : Nat) => gF σ22 80 9 (fun (v27 : Int32) => gL σ22 p26 (v27 + i23) (fun (v28 : Int64) => (f_X7_setU σ22 i23 v28).bind (fun (σ29 : Mem) => some (Sum.inl (σ29, i23 + 1))))))))))
noncomputable def l_X7_findShifts_16 (σ13 : Mem) (i14 : Int32) : Option ((Mem × Int32) ⊕ Mem) :=
  gF σ13 80 9 (fun (v15 : Int32) => gF σ13 80 8 (fun (v16 : Int32) => if (v15 + v16) ≤ i14 then (some (Sum.inr σ13)) else (if 6 ≤ i14 then (some (Sum.inr σ13)) else ((f_X3_hasStep σ13 81 i14).bind (fun (b17 : Bool) => (if b17 then (f_X7_putU σ13 0).bind (fun (σ19 : Mem) => (loopO (fun (z23 : (Mem × Int32)) => l_X7_findShifts_53 i14 z23.1 z23.2) (σ19, 0) : Option Mem).bind (fun (z20 : Mem) => j_X7_findShifts_99 z20)) else some σ13 : Option Mem).bind (fun (z18 : Mem) => j_X7_findShifts_103 i14 z18))))))
noncomputable def f_X7_findShifts (σ : Mem) : Option Mem :=
  gF σ 80 10 (fun (v1 : Int32) => (f_X3_clear σ 90 v1).bind (fun (σ2 : Mem) => gF σ2 80 9 (fun (v3 : Int32) => (loopO (fun (z14 : (Mem × Int32)) => l_X7_findShifts_16 z14.1 z14.2) (σ2, v3) : Option Mem).bind (fun (z4 : Mem) => j_X7_findShifts_109 z4))))
noncomputable def f_X7_areConjugates (σ : Mem) (x0 : Nat) (x1 : Nat) : Option (Bool × Mem) :=
  (f_X6_countOf σ 41 1).bind (fun (v1 : Int32) => pF σ 80 8 v1 (fun (σ2 : Mem) => (f_X6_countOf σ2 41 2).bind (fun (v3 : Int32) => pF σ2 80 9 v3 (fun (σ4 : Mem) => (f_X6_countOf σ4 41 3).bind (fun (v5 : Int32) => pF σ4 80 10 v5 (fun (σ6 : Mem) => (f_X7_findGaps σ6 x0 x1).bind (fun (σ7 : Mem) => (f_X7_putU σ7 0).bind (fun (σ8 : Mem) => gF σ8 80 8 (fun (v9 : Int32) => (f_X7_areClosed σ8 0 v9).bind (fun (b10 : Bool) => if b10 then (f_X7_findTurns σ8).bind (fun (σ11 : Mem) => bq (f_X7_turnWeightTwo σ11) (fun (b12 : Bool) (σ13 : Mem) => if b12 then gF σ13 80 8 (fun (v14 : Int32) => gF σ13 80 9 (fun (v15 : Int32) => gF σ13 80 10 (fun (v16 : Int32) => (f_X7_copyGaps σ13 (v14 + v15) v16 102).bind (fun (σ17 : Mem) => (f_X7_findGaps σ17 x1 x1).bind (fun (σ18 : Mem) => (f_X7_findShifts σ18).bind (fun (σ19 : Mem) => bq (f_X3_reduce σ19 90 102) (fun (b20 : Bool) (σ21 : Mem) => some (b20, σ21)))))))) else some (false, σ13))) else some (false, σ8)))))))))))
noncomputable def f_X8_takeAll (σ : Mem) (a : Nat) (x0 : Nat) : Option Mem :=
  (f_X8_takeActed σ a x0).bind (fun (σ1 : Mem) => cI σ1 (rf x0 2) 0 (rf a 2) 0 (Int32.ofNat (ln (rf a 2))) (fun (σ2 : Mem) => some σ2))
noncomputable def j_X9_greatestDegree_44 (σ : Mem) (i1 : Int32) (i2 : Int32) (i4 : Int32) : Option ((Int32 × Int32) ⊕ Int32) :=
  (f_J9_max_7cf53 σ i1 i4).bind (fun (v5 : Int32) => some (Sum.inl (v5, i2 + 1)))
noncomputable def l_X9_greatestDegree_17 (σ : Mem) (a : Nat) (i2 : Int32) (i6 : Int32) (i7 : Int32) : Option ((Int32 × Int32) ⊕ Int32) :=
  if 12 ≤ i7 then (some (Sum.inr i6)) else (gI σ (rf a 1) i2 (fun (v8 : Int32) => (f_X10_degree σ v8 i7).bind (fun (v9 : Int32) => bd (i6 + v9) (fun (v10 : Int32) => some (Sum.inl (v10, i7 + 1))))))
noncomputable def l_X9_greatestDegree_4 (σ : Mem) (a : Nat) (i1 : Int32) (i2 : Int32) : Option ((Int32 × Int32) ⊕ Int32) :=
  gF σ a 0 (fun (v3 : Int32) => if v3 ≤ i2 then (some (Sum.inr i1)) else ((loopO (fun (z7 : (Int32 × Int32)) => l_X9_greatestDegree_17 σ a i2 z7.1 z7.2) (0, 0) : Option Int32).bind (fun (z4 : Int32) => j_X9_greatestDegree_44 σ i1 i2 z4)))
noncomputable def f_X9_greatestDegree (σ : Mem) (a : Nat) : Option Int32 :=
  loopO (fun (z2 : (Int32 × Int32)) => l_X9_greatestDegree_4 σ a z2.1 z2.2) (0, 0)
noncomputable def j_X9_greatestWeight_58 (σ : Mem) (i1 : Int32) (i2 : Int32) (i4 : Int32) : Option ((Int32 × Int32) ⊕ Int32) :=
  (f_J9_max_7cf53 σ i1 i4).bind (fun (v5 : Int32) => some (Sum.inl (v5, i2 + 1)))
noncomputable def l_X9_greatestWeight_18 (σ : Mem) (a : Nat) (x0 : Nat) (i2 : Int32) (i6 : Int32) (i7 : Int32) : Option ((Int32 × Int32) ⊕ Int32) :=
  if 12 ≤ i7 then (some (Sum.inr i6)) else (gI σ (rf a 1) i2 (fun (v8 : Int32) => (f_X10_degree σ v8 i7).bind (fun (v9 : Int32) => nzI 6 (gI σ (rf x0 1) (i7 - i7 / 6 * 6) (fun (v10 : Int32) => bd (i6 + (v9 * v10)) (fun (v11 : Int32) => some (Sum.inl (v11, i7 + 1))))))))
noncomputable def l_X9_greatestWeight_4 (σ : Mem) (a : Nat) (x0 : Nat) (i1 : Int32) (i2 : Int32) : Option ((Int32 × Int32) ⊕ Int32) :=
  gF σ a 0 (fun (v3 : Int32) => if v3 ≤ i2 then (some (Sum.inr i1)) else ((loopO (fun (z7 : (Int32 × Int32)) => l_X9_greatestWeight_18 σ a x0 i2 z7.1 z7.2) (0, 0) : Option Int32).bind (fun (z4 : Int32) => j_X9_greatestWeight_58 σ i1 i2 z4)))
noncomputable def f_X9_greatestWeight (σ : Mem) (a : Nat) (x0 : Nat) : Option Int32 :=
  loopO (fun (z2 : (Int32 × Int32)) => l_X9_greatestWeight_4 σ a x0 z2.1 z2.2) (0, 0)
noncomputable def j_X9_hasBoth_29 (i1 : Int32) : Option (Int32 ⊕ Bool) :=
  some (Sum.inl (i1 + 1))
noncomputable def l_X9_hasBoth_2 (σ : Mem) (x0 : Int32) (i1 : Int32) : Option (Int32 ⊕ Bool) :=
  if 6 ≤ i1 then (some (Sum.inr false)) else ((f_X10_degree σ x0 i1).bind (fun (v2 : Int32) => (if v2 ≤ 0 then (some (Sum.inl ())) else ((f_X10_degree σ x0 (6 + i1)).bind (fun (v3 : Int32) => if v3 ≤ 0 then (some (Sum.inl ())) else (some (Sum.inr (Sum.inr true))))) : Option (Unit ⊕ (Int32 ⊕ Bool))).bind (Sum.elim (fun (z2 : Unit) => j_X9_hasBoth_29 i1) some)))
noncomputable def f_X9_hasBoth (σ : Mem) (x0 : Int32) : Option Bool :=
  loopO (fun (z1 : Int32) => l_X9_hasBoth_2 σ x0 z1) 0
noncomputable def j_X9_termsInBothRows_30 (i1 : Int32) (i2 : Int32) (b6 : Bool) : Option ((Int32 × Int32) ⊕ Int32) :=
  bd (i1 + (b2i b6)) (fun (v7 : Int32) => some (Sum.inl (v7, i2 + 1)))
noncomputable def l_X9_termsInBothRows_4 (σ : Mem) (a : Nat) (i1 : Int32) (i2 : Int32) : Option ((Int32 × Int32) ⊕ Int32) :=
  gF σ a 0 (fun (v3 : Int32) => if v3 ≤ i2 then (some (Sum.inr i1)) else (gI σ (rf a 1) i2 (fun (v4 : Int32) => (f_X9_hasBoth σ v4).bind (fun (b5 : Bool) => (if b5 then some true else some false : Option Bool).bind (fun (z6 : Bool) => j_X9_termsInBothRows_30 i1 i2 z6)))))
noncomputable def f_X9_termsInBothRows (σ : Mem) (a : Nat) : Option Int32 :=
  loopO (fun (z2 : (Int32 × Int32)) => l_X9_termsInBothRows_4 σ a z2.1 z2.2) (0, 0)
noncomputable def l_X9_sumOfNumbers_4 (σ : Mem) (a : Nat) (l1 : Int64) (i2 : Int32) : Option ((Int64 × Int32) ⊕ Int64) :=
  gF σ a 0 (fun (v3 : Int32) => if v3 ≤ i2 then (some (Sum.inr l1)) else (gL σ (rf a 2) i2 (fun (v4 : Int64) => bd (l1 + v4) (fun (v5 : Int64) => some (Sum.inl (v5, i2 + 1))))))
noncomputable def f_X9_sumOfNumbers (σ : Mem) (a : Nat) : Option Int64 :=
  loopO (fun (z2 : (Int64 × Int32)) => l_X9_sumOfNumbers_4 σ a z2.1 z2.2) (0, 0)
noncomputable def f_X10_generator (σ : Mem) (x0 : Int32) (x1 : Int32) : Option Int32 :=
  (f_X10_isGenerator σ x0).bind (fun (b1 : Bool) => if b1 then if x1 < 0 then (some (-1)) else (if x1 ≤ 1 then (if x1 = 0 then (gI σ 3 (x0 - 1) (fun (v5 : Int32) => some v5)) else (gZ σ 40 3 (fun (b2 : Bool) => if b2 then (f_X6_isCentral σ 2 (x0 - 1)).bind (fun (b3 : Bool) => (f_X10_bit σ b3).bind (fun (v4 : Int32) => some v4)) else some (-1)))) else (some (-1))) else some (-1))
noncomputable def f_X10_tailOf (σ : Mem) (x0 : Int32) (x1 : Int32) (x2 : Int32) : Option Int32 :=
  (f_X6_isTail σ 2 (x0 - 1) (x1 - 1) (x2 - 1)).bind (fun (b1 : Bool) => if b1 then (f_X6_read σ 2 (x0 - 1) (x1 - 1) (x2 - 1)).bind (fun (v2 : Int32) => some v2) else some (-1))
noncomputable def j_X10_term_100 (σ : Mem) (x1 : Int32) (p3 : Nat) (i5 : Int32) : Option Int32 :=
  gI σ (rf p3 1) x1 (fun (v6 : Int32) => (f_X10_degree σ v6 i5).bind (fun (v7 : Int32) => some v7))
noncomputable def f_X10_term (σ : Mem) (x0 : Int32) (x1 : Int32) (x2 : Int32) : Option Int32 :=
  gF σ 2 0 (fun (v1 : Int32) => (f_X10_hasPolynomial σ x0).bind (fun (b2 : Bool) => if b2 then if x2 < 0 then (some (-10000)) else (if x2 ≤ (2 * v1) then (gR 44 (x0 - 1) (fun (p3 : Nat) => if x1 < 0 then (some (-10000)) else (gF σ p3 0 (fun (v4 : Int32) => if x1 < v4 then (if x2 = 0 then (gL σ (rf p3 2) x1 (fun (v8 : Int64) => some (Int64.toInt32 v8))) else ((if v1 < x2 then (some (((6 + x2) - v1) - 1)) else (some (x2 - 1)) : Option Int32).bind (fun (z5 : Int32) => j_X10_term_100 σ x1 p3 z5))) else (some (-10000)))))) else (some (-10000))) else some (-10000)))
noncomputable def f_X10_shape (σ : Mem) (x0 : Int32) (x1 : Int32) : Option Int32 :=
  (f_X10_hasPolynomial σ x0).bind (fun (b1 : Bool) => if b1 then gR 44 (x0 - 1) (fun (p2 : Nat) => if x1 = 0 then ((f_X9_greatestDegree σ p2).bind (fun (v4 : Int32) => some v4)) else if x1 = 1 then ((f_X9_greatestWeight σ p2 2).bind (fun (v6 : Int32) => some v6)) else if x1 = 2 then ((f_X9_termsInBothRows σ p2).bind (fun (v8 : Int32) => some v8)) else if x1 = 3 then ((f_X9_sumOfNumbers σ p2).bind (fun (v10 : Int64) => some (Int64.toInt32 v10))) else (some (-10000))) else some (-10000))
noncomputable def f_X10_power (σ : Mem) (x0 : Int32) (x1 : Int32) (x2 : Int32) : Option (Bool × Mem) :=
  (f_X10_areUsable σ x0 x1).bind (fun (b1 : Bool) => if b1 then if x2 < (-99) then (some (false, σ)) else (if x2 ≤ 99 then (gR 5 x1 (fun (p2 : Nat) => (f_X0_raise σ 176 p2 (Int32.toInt64 x2)).bind (fun (σ3 : Mem) => bq (f_X10_keepCounted σ3 x0) (fun (b4 : Bool) (σ5 : Mem) => some (b4, σ5))))) else (some (false, σ))) else some (false, σ))
noncomputable def f_X10_commute (σ : Mem) (x0 : Int32) (x1 : Int32) (x2 : Int32) : Option (Bool × Mem) :=
  (f_X10_areUsable σ x0 x1).bind (fun (b1 : Bool) => if b1 then (f_X10_isRegister σ x2).bind (fun (b2 : Bool) => if b2 then gR 5 x1 (fun (p3 : Nat) => gR 5 x2 (fun (p4 : Nat) => (f_X0_commutator σ 176 p3 p4).bind (fun (σ5 : Mem) => bq (f_X10_keepCounted σ5 x0) (fun (b6 : Bool) (σ7 : Mem) => some (b6, σ7))))) else some (false, σ)) else some (false, σ))
noncomputable def f_X10_conjugate (σ : Mem) (x0 : Int32) (x1 : Int32) (x2 : Int32) : Option (Bool × Mem) :=
  (f_X10_areUsable σ x0 x1).bind (fun (b1 : Bool) => if b1 then (f_X10_isRegister σ x2).bind (fun (b2 : Bool) => if b2 then gR 5 x1 (fun (p3 : Nat) => gR 5 x2 (fun (p4 : Nat) => (f_X0_conjugated σ 176 p3 p4).bind (fun (σ5 : Mem) => bq (f_X10_keepCounted σ5 x0) (fun (b6 : Bool) (σ7 : Mem) => some (b6, σ7))))) else some (false, σ)) else some (false, σ))
noncomputable def j_X10_root_59 (σ5 : Mem) : Option (Bool × Mem) :=
  some (false, σ5)
noncomputable def f_X10_root (σ : Mem) (x0 : Int32) (x1 : Int32) (x2 : Int32) : Option (Bool × Mem) :=
  (f_X10_areUsable σ x0 x1).bind (fun (b1 : Bool) => if b1 then if x2 < 1 then (some (false, σ)) else (if x2 ≤ 99 then (gR 5 x1 (fun (p2 : Nat) => bq (f_X0_extract σ 176 p2 (Int32.toInt64 x2)) (fun (b3 : Bool) (σ4 : Mem) => (if b3 then bq (f_X10_keep σ4 x0) (fun (b6 : Bool) (σ7 : Mem) => if b6 then some (Sum.inr (true, σ7)) else some (Sum.inl σ7)) else some (Sum.inl σ4) : Option (Mem ⊕ (Bool × Mem))).bind (Sum.elim (fun (z5 : Mem) => j_X10_root_59 z5) some)))) else (some (false, σ))) else some (false, σ))
noncomputable def j_X10_seek_76 (σ7 : Mem) : Option (Bool × Mem) :=
  some (false, σ7)
noncomputable def f_X10_seek (σ : Mem) (x0 : Int32) (x1 : Int32) (x2 : Int32) (x3 : Int32) : Option (Bool × Mem) :=
  (f_X10_areUsable σ x0 x1).bind (fun (b1 : Bool) => if b1 then (f_X10_isRegister σ x2).bind (fun (b2 : Bool) => if b2 then if x3 < 1 then (some (false, σ)) else (if x3 ≤ 3 then (gR 5 x1 (fun (p3 : Nat) => gR 5 x2 (fun (p4 : Nat) => bq (f_X7_conjugator σ 176 p3 p4 x3) (fun (b5 : Bool) (σ6 : Mem) => (if b5 then bq (f_X10_keep σ6 x0) (fun (b8 : Bool) (σ9 : Mem) => if b8 then some (Sum.inr (true, σ9)) else some (Sum.inl σ9)) else some (Sum.inl σ6) : Option (Mem ⊕ (Bool × Mem))).bind (Sum.elim (fun (z7 : Mem) => j_X10_seek_76 z7) some))))) else (some (false, σ))) else some (false, σ)) else some (false, σ))
noncomputable def f_X10_text (σ : Mem) (x0 : Int32) : Option (Bool × Mem) :=
  gF σ 0 7 (fun (v1 : Int32) => pF σ 0 7 0 (fun (σ2 : Mem) => (f_X5_forget σ2).bind (fun (σ3 : Mem) => (f_X10_isRegister σ3 x0).bind (fun (b4 : Bool) => if b4 then gZ σ3 40 3 (fun (b5 : Bool) => if b5 then bq (f_X5_read σ3 34 v1) (fun (b6 : Bool) (σ7 : Mem) => if b6 then gR 145 0 (fun (p11 : Nat) => (f_X0_copy σ7 p11 176).bind (fun (σ12 : Mem) => bq (f_X10_keep σ12 x0) (fun (b13 : Bool) (σ14 : Mem) => some (b13, σ14)))) else gF σ7 144 0 (fun (v8 : Int32) => if v8 = 5 then (gI σ7 16 0 (fun (v9 : Int32) => pI σ7 16 0 (v9 + 1) (fun (σ10 : Mem) => some (false, σ10)))) else (some (false, σ7)))) else some (false, σ3)) else some (false, σ3)))))
noncomputable def f_X10_fault (σ : Mem) (x0 : Int32) : Option Int32 :=
  if x0 = 0 then (gF σ 144 0 (fun (v2 : Int32) => some v2)) else if x0 = 1 then (gF σ 144 1 (fun (v4 : Int32) => some v4)) else (some (-1))
noncomputable def j_X10_layerOf_43 (σ : Mem) : Option Int32 :=
  (f_X6_top σ 2).bind (fun (v1 : Int32) => some (v1 + 1))
noncomputable def j_X10_layerOf_24 (σ : Mem) (i2 : Int32) : Option (Unit ⊕ Int32) :=
  gI σ 3 i2 (fun (v3 : Int32) => some (Sum.inr v3))
noncomputable def l_X10_layerOf_2 (σ : Mem) (x0 : Nat) (i4 : Int32) : Option (Int32 ⊕ (Int32 ⊕ (Unit ⊕ Int32))) :=
  gF σ 2 0 (fun (v5 : Int32) => if v5 ≤ i4 then (some (Sum.inr (Sum.inr (Sum.inl ())))) else (gL σ x0 i4 (fun (v6 : Int64) => if v6 = 0 then (some (Sum.inl (i4 + 1))) else (some (Sum.inr (Sum.inl i4))))))
noncomputable def f_X10_layerOf (σ : Mem) (x0 : Nat) : Option Int32 :=
  ((loopO (fun (z4 : Int32) => l_X10_layerOf_2 σ x0 z4) 0 : Option (Int32 ⊕ (Unit ⊕ Int32))).bind (Sum.elim (fun (z2 : Int32) => j_X10_layerOf_24 σ z2) some) : Option (Unit ⊕ Int32)).bind (Sum.elim (fun (z0 : Unit) => j_X10_layerOf_43 σ) some)
noncomputable def l_X10_commutesWithAll_2 (x0 : Nat) (σ1 : Mem) (i2 : Int32) : Option ((Mem × Int32) ⊕ (Bool × Mem)) :=
  gF σ1 2 0 (fun (v3 : Int32) => if v3 ≤ i2 then (some (Sum.inr (true, σ1))) else ((f_X0_makeGenerator σ1 177 i2 1).bind (fun (σ4 : Mem) => bq (f_X0_doCommute σ4 x0 177) (fun (b5 : Bool) (σ6 : Mem) => if b5 then some (Sum.inl (σ6, i2 + 1)) else some (Sum.inr (false, σ6))))))
noncomputable def f_X10_commutesWithAll (σ : Mem) (x0 : Nat) : Option (Bool × Mem) :=
  loopO (fun (z2 : (Mem × Int32)) => l_X10_commutesWithAll_2 x0 z2.1 z2.2) (σ, 0)
noncomputable def l_X10_greatestRoot_3 (x0 : Nat) (σ1 : Mem) (i2 : Int32) : Option ((Mem × Int32) ⊕ (Int32 × Mem)) :=
  if i2 ≤ 1 then (some (Sum.inr (1, σ1))) else (bq (f_X0_extract σ1 176 x0 (Int32.toInt64 i2)) (fun (b3 : Bool) (σ4 : Mem) => if b3 then some (Sum.inr (i2, σ4)) else some (Sum.inl (σ4, i2 + (-1)))))
noncomputable def f_X10_greatestRoot (σ : Mem) (x0 : Nat) : Option (Int32 × Mem) :=
  loopO (fun (z2 : (Mem × Int32)) => l_X10_greatestRoot_3 x0 z2.1 z2.2) (σ, 99)
noncomputable def j_X10_sameAs_32 (i2 : Int32) (i5 : Int32) : Option ((Int32 × Int32) ⊕ Int32) :=
  some (Sum.inl (i5, i2 + 1))
noncomputable def l_X10_sameAs_4 (σ : Mem) (x0 : Nat) (i1 : Int32) (i2 : Int32) : Option ((Int32 × Int32) ⊕ Int32) :=
  if 10 ≤ i2 then (some (Sum.inr i1)) else (gR 5 i2 (fun (p3 : Nat) => (f_X0_areSame σ x0 p3).bind (fun (b4 : Bool) => (if b4 then bd (i1 ||| (1 <<< (i2 &&& 31))) (fun (v6 : Int32) => some v6) else some i1 : Option Int32).bind (fun (z5 : Int32) => j_X10_sameAs_32 i2 z5))))
noncomputable def f_X10_sameAs (σ : Mem) (x0 : Nat) : Option Int32 :=
  loopO (fun (z2 : (Int32 × Int32)) => l_X10_sameAs_4 σ x0 z2.1 z2.2) (0, 0)
noncomputable def l_X10_leastMade_76 (x0 : Nat) (x1 : Int32) (σ3 : Mem) (i4 : Int32) : Option ((Mem × Int32) ⊕ (Int32 × Mem)) :=
  if x1 < i4 then (some (Sum.inr (0, σ3))) else ((f_X0_raise σ3 176 x0 (Int32.toInt64 i4)).bind (fun (σ5 : Mem) => bq (f_X3_reduce σ5 135 176) (fun (b6 : Bool) (σ7 : Mem) => if b6 then some (Sum.inr (i4, σ7)) else some (Sum.inl (σ7, i4 + 1)))))
noncomputable def j_X10_leastMade_74 (x0 : Nat) (x1 : Int32) (σ2 : Mem) : Option (Int32 × Mem) :=
  loopO (fun (z4 : (Mem × Int32)) => l_X10_leastMade_76 x0 x1 z4.1 z4.2) (σ2, 1)
noncomputable def j_X10_leastMade_68 (i9 : Int32) (σ11 : Mem) : Option ((Mem × Int32) ⊕ Mem) :=
  some (Sum.inl (σ11, i9 + 1))
noncomputable def l_X10_leastMade_28 (i9 : Int32) (σ12 : Mem) (i13 : Int32) : Option ((Mem × Int32) ⊕ Mem) :=
  if i9 ≤ i13 then (some (Sum.inr σ12)) else ((f_X6_copyTails σ12 2 i9 i13 176).bind (fun (σ14 : Mem) => (f_X3_insert σ14 135 176).bind (fun (σ15 : Mem) => some (Sum.inl (σ15, i13 + 1)))))
noncomputable def l_X10_leastMade_11 (σ8 : Mem) (i9 : Int32) : Option ((Mem × Int32) ⊕ Mem) :=
  gF σ8 2 0 (fun (v10 : Int32) => if v10 ≤ i9 then (some (Sum.inr σ8)) else ((loopO (fun (z13 : (Mem × Int32)) => l_X10_leastMade_28 i9 z13.1 z13.2) (σ8, 0) : Option Mem).bind (fun (z11 : Mem) => j_X10_leastMade_68 i9 z11)))
noncomputable def f_X10_leastMade (σ : Mem) (x0 : Nat) (x1 : Int32) : Option (Int32 × Mem) :=
  (f_X3_clear σ 135 6).bind (fun (σ1 : Mem) => (loopO (fun (z9 : (Mem × Int32)) => l_X10_leastMade_11 z9.1 z9.2) (σ1, 1) : Option Mem).bind (fun (z2 : Mem) => j_X10_leastMade_74 x0 x1 z2))
noncomputable def f_X10_register (σ : Mem) (x0 : Int32) (x1 : Int32) : Option (Int32 × Mem) :=
  (f_X10_isRegister σ x0).bind (fun (b1 : Bool) => if b1 then gZ σ 40 3 (fun (b2 : Bool) => if b2 then gR 5 x0 (fun (p3 : Nat) => if x1 = 0 then ((f_X10_layerOf σ p3).bind (fun (v5 : Int32) => some (v5, σ))) else if x1 = 1 then (bq (f_X10_commutesWithAll σ p3) (fun (b7 : Bool) (σ8 : Mem) => (f_X10_bit σ8 b7).bind (fun (v9 : Int32) => some (v9, σ8)))) else if x1 = 2 then ((f_X0_isOne σ p3).bind (fun (b11 : Bool) => (f_X10_bit σ b11).bind (fun (v12 : Int32) => some (v12, σ)))) else if x1 = 3 then (bq (f_X1_levelOf σ p3) (fun (v14 : Int32) (σ15 : Mem) => some (v14, σ15))) else if x1 = 4 then (bq (f_X10_greatestRoot σ p3) (fun (v17 : Int32) (σ18 : Mem) => some (v17, σ18))) else if x1 = 5 then ((f_X10_sameAs σ p3).bind (fun (v20 : Int32) => some (v20, σ))) else if x1 = 6 then (bq (f_X10_leastMade σ p3 1) (fun (v22 : Int32) (σ23 : Mem) => some (v22, σ23))) else if x1 = 7 then (bq (f_X10_leastMade σ p3 99) (fun (v25 : Int32) (σ26 : Mem) => some (v25, σ26))) else (some ((-1), σ))) else some ((-1), σ)) else some ((-1), σ))
noncomputable def j_X10_firstDifference_26 (i1 : Int32) : Option Int32 :=
  some (i1 + 1)
noncomputable def l_X10_firstDifference_2 (σ : Mem) (x0 : Nat) (x1 : Nat) (i2 : Int32) : Option (Int32 ⊕ (Int32 ⊕ Int32)) :=
  gF σ 2 0 (fun (v3 : Int32) => if v3 ≤ i2 then (some (Sum.inr (Sum.inr 0))) else (gL σ x0 i2 (fun (v4 : Int64) => gL σ x1 i2 (fun (v5 : Int64) => if v4 = v5 then (some (Sum.inl (i2 + 1))) else (some (Sum.inr (Sum.inl i2)))))))
noncomputable def f_X10_firstDifference (σ : Mem) (x0 : Nat) (x1 : Nat) : Option Int32 :=
  (loopO (fun (z2 : Int32) => l_X10_firstDifference_2 σ x0 x1 z2) 0 : Option (Int32 ⊕ Int32)).bind (Sum.elim (fun (z1 : Int32) => j_X10_firstDifference_26 z1) some)
noncomputable def f_X10_both (σ : Mem) (x0 : Int32) (x1 : Int32) (x2 : Int32) : Option (Int32 × Mem) :=
  (f_X10_areUsable σ x0 x1).bind (fun (b1 : Bool) => if b1 then gR 5 x0 (fun (p2 : Nat) => gR 5 x1 (fun (p3 : Nat) => if x2 = 0 then (bq (f_X0_doCommute σ p2 p3) (fun (b5 : Bool) (σ6 : Mem) => (f_X10_bit σ6 b5).bind (fun (v7 : Int32) => some (v7, σ6)))) else if x2 = 1 then ((f_X0_commutator σ 176 p2 p3).bind (fun (σ9 : Mem) => (f_X10_layerOf σ9 176).bind (fun (v10 : Int32) => some (v10, σ9)))) else if x2 = 2 then ((f_X10_firstDifference σ p2 p3).bind (fun (v12 : Int32) => some (v12, σ))) else (some ((-1), σ)))) else some ((-1), σ))
noncomputable def f_X10_alike (σ : Mem) (x0 : Int32) (x1 : Int32) : Option (Int32 × Mem) :=
  (f_X10_areUsable σ x0 x1).bind (fun (b1 : Bool) => if b1 then gR 5 x0 (fun (p2 : Nat) => gR 5 x1 (fun (p3 : Nat) => (f_X0_isWithin σ p2 30).bind (fun (b4 : Bool) => if b4 then (f_X0_isWithin σ p3 30).bind (fun (b5 : Bool) => if b5 then bq (f_X7_areConjugates σ p2 p3) (fun (b6 : Bool) (σ7 : Mem) => (f_X10_bit σ7 b6).bind (fun (v8 : Int32) => some (v8, σ7))) else some ((-2), σ)) else some ((-2), σ)))) else some ((-1), σ))
noncomputable def f_X10_powers (σ : Mem) (x0 : Int32) (x1 : Int32) (x2 : Int32) : Option (Int64 × Mem) :=
  (f_X10_isRegister σ x0).bind (fun (b1 : Bool) => if b1 then (f_X10_isGenerator σ x1).bind (fun (b2 : Bool) => if b2 then if x2 < 0 then (some ((-100000000000000), σ)) else (if 3 < x2 then (some ((-100000000000000), σ)) else (gZ σ 40 3 (fun (b3 : Bool) => if b3 then gR 5 x0 (fun (p4 : Nat) => (f_X0_findPowers σ p4).bind (fun (σ5 : Mem) => (f_X0_powerNumber σ5 (x1 - 1) x2).bind (fun (v6 : Int64) => some (v6, σ5)))) else some ((-100000000000000), σ)))) else some ((-100000000000000), σ)) else some ((-100000000000000), σ))
noncomputable def f_X10_ball (σ : Mem) (x0 : Int32) : Option (Int32 × Mem) :=
  if x0 < 0 then (some ((-1), σ)) else (if 4 < x0 then (some ((-1), σ)) else (gZ σ 40 3 (fun (b1 : Bool) => if b1 then bq (f_X1_sizeOf σ x0) (fun (v2 : Int32) (σ3 : Mem) => some (v2, σ3)) else some ((-1), σ))))
noncomputable def f_X10_undo (σ : Mem) : Option (Int32 × Mem) :=
  gF σ 0 4 (fun (v1 : Int32) => if v1 = 0 then (some ((-1), σ)) else (gF σ 0 4 (fun (v2 : Int32) => pF σ 0 4 (v2 - 1) (fun (σ3 : Mem) => gF σ3 0 5 (fun (v4 : Int32) => nzI 8 (pF σ3 0 5 (((v4 + 8) - 1) - ((v4 + 8) - 1) / 8 * 8) (fun (σ5 : Mem) => gF σ5 0 5 (fun (v6 : Int32) => gR 33 v6 (fun (p7 : Nat) => (f_X8_takeActed σ5 1 p7).bind (fun (σ8 : Mem) => (f_X4_follow σ8 2).bind (fun (σ9 : Mem) => gF σ9 0 4 (fun (v10 : Int32) => some (v10, σ9)))))))))))))
noncomputable def f_X10_image (σ : Mem) (x0 : Bool) : Option (Bool × Mem) :=
  if x0 then (f_X8_takeAll σ 17 1).bind (fun (σ5 : Mem) => pF σ5 0 2 1 (fun (σ6 : Mem) => some (true, σ6))) else gZ σ 0 2 (fun (b1 : Bool) => if b1 then (f_X8_takeAll σ 1 17).bind (fun (σ2 : Mem) => pF σ2 0 4 0 (fun (σ3 : Mem) => (f_X4_follow σ3 2).bind (fun (σ4 : Mem) => some (true, σ4)))) else some (false, σ))
noncomputable def j_X11_isIn_17  : Option Bool :=
  some false
noncomputable def f_X11_isIn (σ : Mem) (x0 : Int64) (x1 : Int64) (x2 : Int64) : Option Bool :=
  (if x0 < x1 then (some (Sum.inl ())) else (if x2 < x0 then (some (Sum.inl ())) else (some (Sum.inr true))) : Option (Unit ⊕ Bool)).bind (Sum.elim (fun (z0 : Unit) => j_X11_isIn_17) some)
noncomputable def j_X11_clears_22 (x0 : Int32) (σ1 : Mem) : Option Mem :=
  pI σ1 307 0 x0 (fun (σ2 : Mem) => pF σ2 306 9 0 (fun (σ3 : Mem) => some σ3))
noncomputable def l_X11_clears_2 (σ4 : Mem) (i5 : Int32) : Option ((Mem × Int32) ⊕ Mem) :=
  if 283 ≤ i5 then (some (Sum.inr σ4)) else (pI σ4 307 i5 0 (fun (σ6 : Mem) => some (Sum.inl (σ6, i5 + 1))))
noncomputable def f_X11_clears (σ : Mem) (x0 : Int32) : Option Mem :=
  (loopO (fun (z5 : (Mem × Int32)) => l_X11_clears_2 z5.1 z5.2) (σ, 0) : Option Mem).bind (fun (z1 : Mem) => j_X11_clears_22 x0 z1)
noncomputable def f_X11_putsTail (σ : Mem) (x0 : Int32) (x1 : Int32) (x2 : Int32) (x3 : Int32) : Option Mem :=
  pI σ 307 (((7 + (36 * x0)) + (6 * x1)) + x2) x3 (fun (σ1 : Mem) => pF σ1 306 9 0 (fun (σ2 : Mem) => some σ2))
noncomputable def f_X11_plain (σ : Mem) : Option Mem :=
  (f_X11_clears σ 3).bind (fun (σ1 : Mem) => pI σ1 307 1 1 (fun (σ2 : Mem) => pI σ2 307 2 1 (fun (σ3 : Mem) => pI σ3 307 3 2 (fun (σ4 : Mem) => (f_X11_putsTail σ4 1 0 2 1).bind (fun (σ5 : Mem) => some σ5)))))
noncomputable def f_X11_n (σ : Mem) : Option Int32 :=
  gI σ 307 0 (fun (v1 : Int32) => some v1)
noncomputable def f_X11_weight (σ : Mem) (x0 : Int32) : Option Int32 :=
  gI σ 307 (1 + x0) (fun (v1 : Int32) => some v1)
noncomputable def f_X11_level (σ : Mem) : Option Int32 :=
  (f_X11_n σ).bind (fun (v1 : Int32) => (f_X11_weight σ (v1 - 1)).bind (fun (v2 : Int32) => some v2))
noncomputable def f_X11_tail (σ : Mem) (x0 : Int32) (x1 : Int32) (x2 : Int32) : Option Int32 :=
  gI σ 307 (((7 + (36 * x0)) + (6 * x1)) + x2) (fun (v1 : Int32) => some v1)
noncomputable def f_X11_ofRow (σ : Mem) (x0 : Int32) (x1 : Int32) : Option Int32 :=
  gI σ 307 ((223 + (6 * x0)) + x1) (fun (v1 : Int32) => some v1)
noncomputable def j_X11_keepsAct_82 (σ3 : Mem) : Option Mem :=
  gF σ3 306 3 (fun (v4 : Int32) => pF σ3 306 3 (v4 + 1) (fun (σ5 : Mem) => some σ5))
noncomputable def l_X11_keepsAct_48 (σ6 : Mem) (i7 : Int32) : Option ((Mem × Int32) ⊕ Mem) :=
  if 283 ≤ i7 then (some (Sum.inr σ6)) else (gF σ6 306 3 (fun (v8 : Int32) => gI σ6 307 i7 (fun (v9 : Int32) => pI σ6 308 ((v8 * 283) + i7) v9 (fun (σ10 : Mem) => some (Sum.inl (σ10, i7 + 1))))))
noncomputable def j_X11_keepsAct_46 (σ2 : Mem) : Option Mem :=
  (loopO (fun (z7 : (Mem × Int32)) => l_X11_keepsAct_48 z7.1 z7.2) (σ2, 0) : Option Mem).bind (fun (z3 : Mem) => j_X11_keepsAct_82 z3)
noncomputable def j_X11_keepsAct_40 (σ11 : Mem) : Option Mem :=
  pF σ11 306 3 7 (fun (σ12 : Mem) => some σ12)
noncomputable def l_X11_keepsAct_11 (σ13 : Mem) (i14 : Int32) : Option ((Mem × Int32) ⊕ Mem) :=
  if 1981 ≤ i14 then (some (Sum.inr σ13)) else (gI σ13 308 (i14 + 283) (fun (v15 : Int32) => pI σ13 308 i14 v15 (fun (σ16 : Mem) => some (Sum.inl (σ16, i14 + 1)))))
noncomputable def f_X11_keepsAct (σ : Mem) : Option Mem :=
  gF σ 306 3 (fun (v1 : Int32) => (if v1 = 8 then ((loopO (fun (z14 : (Mem × Int32)) => l_X11_keepsAct_11 z14.1 z14.2) (σ, 0) : Option Mem).bind (fun (z11 : Mem) => j_X11_keepsAct_40 z11)) else (some σ) : Option Mem).bind (fun (z2 : Mem) => j_X11_keepsAct_46 z2))
noncomputable def j_X11_undo_60 (σ5 : Mem) : Option (Int32 × Mem) :=
  pF σ5 306 9 0 (fun (σ6 : Mem) => gF σ6 306 3 (fun (v7 : Int32) => some (v7, σ6)))
noncomputable def l_X11_undo_26 (σ8 : Mem) (i9 : Int32) : Option ((Mem × Int32) ⊕ Mem) :=
  if 283 ≤ i9 then (some (Sum.inr σ8)) else (gF σ8 306 3 (fun (v10 : Int32) => gI σ8 308 ((v10 * 283) + i9) (fun (v11 : Int32) => pI σ8 307 i9 v11 (fun (σ12 : Mem) => some (Sum.inl (σ12, i9 + 1))))))
noncomputable def f_X11_undo (σ : Mem) : Option (Int32 × Mem) :=
  pF σ 306 0 0 (fun (σ1 : Mem) => gF σ1 306 3 (fun (v2 : Int32) => if v2 = 0 then (some ((-1), σ1)) else (gF σ1 306 3 (fun (v3 : Int32) => pF σ1 306 3 (v3 - 1) (fun (σ4 : Mem) => (loopO (fun (z9 : (Mem × Int32)) => l_X11_undo_26 z9.1 z9.2) (σ4, 0) : Option Mem).bind (fun (z5 : Mem) => j_X11_undo_60 z5))))))
noncomputable def j_X11_areWeights_49  : Option Bool :=
  some false
noncomputable def j_X11_areWeights_59 (i3 : Int32) (v4 : Int32) : Option ((Int32 × Int32) ⊕ (Unit ⊕ Bool)) :=
  some (Sum.inl (v4, i3 + 1))
noncomputable def l_X11_areWeights_20 (x0 : Int32) (x1 : Int32) (i2 : Int32) (i3 : Int32) : Option ((Int32 × Int32) ⊕ (Unit ⊕ Bool)) :=
  if 6 ≤ i3 then (some (Sum.inr (Sum.inr true))) else (bd ((x1 >>> ((2 * i3) &&& 31)) &&& 3) (fun (v4 : Int32) => (if x0 ≤ i3 then (if v4 ≤ 0 then (some (Sum.inl ())) else (some (Sum.inr (Sum.inr (Sum.inr false))))) else (if i2 ≤ v4 then (some (Sum.inl ())) else (some (Sum.inr (Sum.inr (Sum.inl ()))))) : Option (Unit ⊕ ((Int32 × Int32) ⊕ (Unit ⊕ Bool)))).bind (Sum.elim (fun (z4 : Unit) => j_X11_areWeights_59 i3 v4) some)))
noncomputable def f_X11_areWeights (σ : Mem) (x0 : Int32) (x1 : Int32) : Option Bool :=
  (f_X11_isIn σ (Int32.toInt64 x1) 0 4095).bind (fun (b1 : Bool) => if b1 then (loopO (fun (z3 : (Int32 × Int32)) => l_X11_areWeights_20 x0 x1 z3.1 z3.2) (1, 0) : Option (Unit ⊕ Bool)).bind (Sum.elim (fun (z1 : Unit) => j_X11_areWeights_49) some) else some false)
noncomputable def l_X11_group_40 (x0 : Int32) (x1 : Int32) (σ6 : Mem) (i7 : Int32) : Option ((Mem × Int32) ⊕ (Bool × Mem)) :=
  if x0 ≤ i7 then (some (Sum.inr (true, σ6))) else (pI σ6 307 (1 + i7) ((x1 >>> ((2 * i7) &&& 31)) &&& 3) (fun (σ8 : Mem) => some (Sum.inl (σ8, i7 + 1))))
noncomputable def f_X11_group (σ : Mem) (x0 : Int32) (x1 : Int32) : Option (Bool × Mem) :=
  pF σ 306 0 0 (fun (σ1 : Mem) => (f_X11_isIn σ1 (Int32.toInt64 x0) 1 6).bind (fun (b2 : Bool) => if b2 then (f_X11_areWeights σ1 x0 x1).bind (fun (b3 : Bool) => if b3 then (f_X11_keepsAct σ1).bind (fun (σ4 : Mem) => (f_X11_clears σ4 x0).bind (fun (σ5 : Mem) => loopO (fun (z7 : (Mem × Int32)) => l_X11_group_40 x0 x1 z7.1 z7.2) (σ5, 0))) else some (false, σ1)) else some (false, σ1)))
noncomputable def j_X11_isTail_55  : Option Bool :=
  some false
noncomputable def f_X11_isTail (σ : Mem) (x0 : Int32) (x1 : Int32) (x2 : Int32) : Option Bool :=
  (f_X11_n σ).bind (fun (v1 : Int32) => (f_X11_isIn σ (Int32.toInt64 x1) 1 (Int32.toInt64 v1)).bind (fun (b2 : Bool) => (if b2 then (f_X11_n σ).bind (fun (v3 : Int32) => (f_X11_isIn σ (Int32.toInt64 x0) ((Int32.toInt64 x1) + 1) (Int32.toInt64 v3)).bind (fun (b4 : Bool) => if b4 then (f_X11_n σ).bind (fun (v5 : Int32) => (f_X11_isIn σ (Int32.toInt64 x2) ((Int32.toInt64 x0) + 1) (Int32.toInt64 v5)).bind (fun (b6 : Bool) => if b6 then some (Sum.inr true) else some (Sum.inl ()))) else some (Sum.inl ()))) else some (Sum.inl ()) : Option (Unit ⊕ Bool)).bind (Sum.elim (fun (z2 : Unit) => j_X11_isTail_55) some)))
noncomputable def l_X11_onesAll_4 (σ1 : Mem) (i2 : Int32) : Option ((Mem × Int32) ⊕ Mem) :=
  if 283 ≤ i2 then (some (Sum.inr σ1)) else (pI σ1 307 i2 0 (fun (σ3 : Mem) => some (Sum.inl (σ3, i2 + 1))))
noncomputable def f_X11_onesAll (σ : Mem) : Option Mem :=
  loopO (fun (z2 : (Mem × Int32)) => l_X11_onesAll_4 z2.1 z2.2) (σ, 223)
noncomputable def j_X11_tail__61 (x0 : Int32) (x1 : Int32) (x2 : Int32) (x3 : Int32) (σ1 : Mem) : Option (Bool × Mem) :=
  (f_X11_keepsAct σ1).bind (fun (σ4 : Mem) => (f_X11_onesAll σ4).bind (fun (σ5 : Mem) => (f_X11_putsTail σ5 (x0 - 1) (x1 - 1) (x2 - 1) x3).bind (fun (σ6 : Mem) => some (true, σ6))))
noncomputable def f_X11_tail_ (σ : Mem) (x0 : Int32) (x1 : Int32) (x2 : Int32) (x3 : Int32) : Option (Bool × Mem) :=
  pF σ 306 0 0 (fun (σ1 : Mem) => (f_X11_isTail σ1 x0 x1 x2).bind (fun (b2 : Bool) => if b2 then (f_X11_isIn σ1 (Int32.toInt64 x3) 0 3).bind (fun (b3 : Bool) => if b3 then (if x3 ≤ 0 then (some (Sum.inl ())) else ((f_X11_weight σ1 (x2 - 1)).bind (fun (v7 : Int32) => (f_X11_weight σ1 (x1 - 1)).bind (fun (v8 : Int32) => (f_X11_weight σ1 (x0 - 1)).bind (fun (v9 : Int32) => if (v8 + v9) ≤ v7 then (some (Sum.inl ())) else (some (Sum.inr (false, σ1))))))) : Option (Unit ⊕ (Bool × Mem))).bind (Sum.elim (fun (z3 : Unit) => j_X11_tail__61 x0 x1 x2 x3 σ1) some) else some (false, σ1)) else some (false, σ1)))
noncomputable def f_X11_weighs (σ : Mem) (x0 : Int32) (x1 : Int32) (x2 : Int32) (x3 : Int32) (x4 : Int32) (x5 : Int32) : Option Mem :=
  pI σ 307 1 x0 (fun (σ1 : Mem) => pI σ1 307 2 x1 (fun (σ2 : Mem) => pI σ2 307 3 x2 (fun (σ3 : Mem) => pI σ3 307 4 x3 (fun (σ4 : Mem) => pI σ4 307 5 x4 (fun (σ5 : Mem) => pI σ5 307 6 x5 (fun (σ6 : Mem) => some σ6))))))
noncomputable def j_X11_kind_123 (x0 : Int32) (σ9 : Mem) : Option (Bool × Mem) :=
  if x0 = 2 then ((f_X11_putsTail σ9 2 0 3 1).bind (fun (σ10 : Mem) => (f_X11_putsTail σ10 2 1 4 1).bind (fun (σ11 : Mem) => (f_X11_putsTail σ11 3 1 5 1).bind (fun (σ12 : Mem) => (f_X11_putsTail σ12 4 0 5 1).bind (fun (σ13 : Mem) => some (true, σ13)))))) else (some (true, σ9))
noncomputable def j_X11_kind_94 (x0 : Int32) (σ8 : Mem) : Option (Bool × Mem) :=
  (if x0 = 1 then ((f_X11_putsTail σ8 1 0 2 1).bind (fun (σ14 : Mem) => (f_X11_putsTail σ14 2 0 3 1).bind (fun (σ15 : Mem) => (f_X11_putsTail σ15 2 1 4 1).bind (fun (σ16 : Mem) => some σ16)))) else (some σ8) : Option Mem).bind (fun (z9 : Mem) => j_X11_kind_123 x0 z9)
noncomputable def j_X11_kind_79 (x0 : Int32) (σ7 : Mem) : Option (Bool × Mem) :=
  (if x0 = 3 then ((f_X11_weighs σ7 1 1 1 1 1 1).bind (fun (σ17 : Mem) => some σ17)) else (some σ7) : Option Mem).bind (fun (z8 : Mem) => j_X11_kind_94 x0 z8)
noncomputable def j_X11_kind_64 (x0 : Int32) (σ6 : Mem) : Option (Bool × Mem) :=
  (if x0 = 2 then ((f_X11_weighs σ6 1 1 1 2 2 3).bind (fun (σ18 : Mem) => some σ18)) else (some σ6) : Option Mem).bind (fun (z7 : Mem) => j_X11_kind_79 x0 z7)
noncomputable def j_X11_kind_46 (x0 : Int32) (σ3 : Mem) (i4 : Int32) : Option (Bool × Mem) :=
  (f_X11_clears σ3 i4).bind (fun (σ5 : Mem) => (if x0 = 1 then ((f_X11_weighs σ5 1 1 2 3 3 0).bind (fun (σ19 : Mem) => some σ19)) else (some σ5) : Option Mem).bind (fun (z6 : Mem) => j_X11_kind_64 x0 z6))
noncomputable def f_X11_kind (σ : Mem) (x0 : Int32) : Option (Bool × Mem) :=
  pF σ 306 0 0 (fun (σ1 : Mem) => (f_X11_isIn σ1 (Int32.toInt64 x0) 0 3).bind (fun (b2 : Bool) => if b2 then (f_X11_keepsAct σ1).bind (fun (σ3 : Mem) => if x0 = 0 then ((f_X11_plain σ3).bind (fun (σ20 : Mem) => some (true, σ20))) else ((if x0 = 1 then (some 5) else (some 6) : Option Int32).bind (fun (z4 : Int32) => j_X11_kind_46 x0 σ3 z4))) else some (false, σ1)))
noncomputable def f_X11_writes (σ : Mem) (x0 : Int32) : Option Mem :=
  gF σ 306 6 (fun (v1 : Int32) => pI σ 309 v1 x0 (fun (σ2 : Mem) => gF σ2 306 6 (fun (v3 : Int32) => pF σ2 306 6 (v3 + 1) (fun (σ4 : Mem) => some σ4))))
noncomputable def j_X11_exchanges_179 (σ14 : Mem) : Option Mem :=
  gF σ14 306 7 (fun (v15 : Int32) => pF σ14 306 7 (v15 + 1) (fun (σ16 : Mem) => some σ16))
noncomputable def j_X11_exchanges_173 (i19 : Int32) (σ22 : Mem) (i23 : Int32) : Option ((Mem × Int32 × Int32) ⊕ Mem) :=
  some (Sum.inl (σ22, i23, i19 + 1))
noncomputable def l_X11_exchanges_147 (i19 : Int32) (σ24 : Mem) (i25 : Int32) (i26 : Int32) : Option ((Mem × Int32 × Int32) ⊕ (Mem × Int32)) :=
  if i26 ≤ 0 then (some (Sum.inr (σ24, i25))) else (pI σ24 309 i25 i19 (fun (σ27 : Mem) => bd (i25 + 1) (fun (v28 : Int32) => some (Sum.inl (σ27, v28, i26 + (-1))))))
noncomputable def l_X11_exchanges_128 (v1 : Int32) (v2 : Int32) (σ17 : Mem) (i18 : Int32) (i19 : Int32) : Option ((Mem × Int32 × Int32) ⊕ Mem) :=
  (f_X11_n σ17).bind (fun (v20 : Int32) => if v20 ≤ i19 then (some (Sum.inr σ17)) else ((f_X11_tail σ17 v1 v2 i19).bind (fun (v21 : Int32) => (loopO (fun (z26 : (Mem × Int32 × Int32)) => l_X11_exchanges_147 i19 z26.1 z26.2.1 z26.2.2) (σ17, i18, v21) : Option (Mem × Int32)).bind (fun (z23 : (Mem × Int32)) => j_X11_exchanges_173 i19 z23.1 z23.2))))
noncomputable def j_X11_exchanges_91 (x0 : Int32) (v1 : Int32) (v2 : Int32) (i4 : Int32) (σ7 : Mem) : Option Mem :=
  gF σ7 306 6 (fun (v8 : Int32) => pF σ7 306 6 (v8 + i4) (fun (σ9 : Mem) => pI σ9 309 x0 v2 (fun (σ10 : Mem) => pI σ10 309 (x0 + 1) v1 (fun (σ11 : Mem) => bd (x0 + 2) (fun (v12 : Int32) => bd (v1 + 1) (fun (v13 : Int32) => (loopO (fun (z19 : (Mem × Int32 × Int32)) => l_X11_exchanges_128 v1 v2 z19.1 z19.2.1 z19.2.2) (σ11, v12, v13) : Option Mem).bind (fun (z14 : Mem) => j_X11_exchanges_179 z14)))))))
noncomputable def l_X11_exchanges_60 (x0 : Int32) (i4 : Int32) (σ29 : Mem) (i30 : Int32) : Option ((Mem × Int32) ⊕ Mem) :=
  if i30 ≤ (x0 + 1) then (some (Sum.inr σ29)) else (gI σ29 309 i30 (fun (v31 : Int32) => pI σ29 309 (i30 + i4) v31 (fun (σ32 : Mem) => some (Sum.inl (σ32, i30 + (-1))))))
noncomputable def j_X11_exchanges_52 (σ : Mem) (x0 : Int32) (v1 : Int32) (v2 : Int32) (i4 : Int32) : Option Mem :=
  gF σ 306 6 (fun (v5 : Int32) => bd (v5 - 1) (fun (v6 : Int32) => (loopO (fun (z30 : (Mem × Int32)) => l_X11_exchanges_60 x0 i4 z30.1 z30.2) (σ, v6) : Option Mem).bind (fun (z7 : Mem) => j_X11_exchanges_91 x0 v1 v2 i4 z7)))
noncomputable def l_X11_exchanges_24 (σ : Mem) (v1 : Int32) (v2 : Int32) (i33 : Int32) (i34 : Int32) : Option ((Int32 × Int32) ⊕ Int32) :=
  (f_X11_n σ).bind (fun (v35 : Int32) => if v35 ≤ i34 then (some (Sum.inr i33)) else ((f_X11_tail σ v1 v2 i34).bind (fun (v36 : Int32) => bd (i33 + v36) (fun (v37 : Int32) => some (Sum.inl (v37, i34 + 1))))))
noncomputable def f_X11_exchanges (σ : Mem) (x0 : Int32) : Option Mem :=
  gI σ 309 x0 (fun (v1 : Int32) => gI σ 309 (x0 + 1) (fun (v2 : Int32) => bd (v1 + 1) (fun (v3 : Int32) => (loopO (fun (z34 : (Int32 × Int32)) => l_X11_exchanges_24 σ v1 v2 z34.1 z34.2) (0, v3) : Option Int32).bind (fun (z4 : Int32) => j_X11_exchanges_52 σ x0 v1 v2 z4))))
noncomputable def j_X11_collects_64 (σ7 : Mem) (i8 : Int32) : Option ((Mem × Int32) ⊕ (Bool × Mem)) :=
  some (Sum.inl (σ7, i8))
noncomputable def l_X11_collects_2 (σ1 : Mem) (i2 : Int32) : Option ((Mem × Int32) ⊕ (Bool × Mem)) :=
  gF σ1 306 6 (fun (v3 : Int32) => if v3 ≤ (i2 + 1) then (some (Sum.inr (true, σ1))) else (gI σ1 309 i2 (fun (v4 : Int32) => gI σ1 309 (i2 + 1) (fun (v5 : Int32) => if v5 < v4 then (gF σ1 306 7 (fun (v6 : Int32) => if v6 = 1000 then (some (Sum.inr (false, σ1))) else ((f_X11_exchanges σ1 i2).bind (fun (σ7 : Mem) => (if i2 ≤ 0 then (some 0) else (some (i2 - 1)) : Option Int32).bind (fun (z8 : Int32) => j_X11_collects_64 σ7 z8))))) else (bd (i2 + 1) (fun (v9 : Int32) => some (Sum.inl (σ1, v9))))))))
noncomputable def f_X11_collects (σ : Mem) : Option (Bool × Mem) :=
  loopO (fun (z2 : (Mem × Int32)) => l_X11_collects_2 z2.1 z2.2) (σ, 0)
noncomputable def j_X11_letters_26 (i2 : Int32) (i5 : Int32) : Option ((Int32 × Int32) ⊕ Int32) :=
  some (Sum.inl (i5, i2 + 1))
noncomputable def l_X11_letters_4 (σ : Mem) (x0 : Int32) (i1 : Int32) (i2 : Int32) : Option ((Int32 × Int32) ⊕ Int32) :=
  gF σ 306 6 (fun (v3 : Int32) => if v3 ≤ i2 then (some (Sum.inr i1)) else (gI σ 309 i2 (fun (v4 : Int32) => (if v4 = x0 then (bd (i1 + 1) (fun (v6 : Int32) => some v6)) else (some i1) : Option Int32).bind (fun (z5 : Int32) => j_X11_letters_26 i2 z5))))
noncomputable def f_X11_letters (σ : Mem) (x0 : Int32) : Option Int32 :=
  loopO (fun (z2 : (Int32 × Int32)) => l_X11_letters_4 σ x0 z2.1 z2.2) (0, 0)
noncomputable def j_X11_isAlikeBy_108 (i2 : Int32) (σ11 : Mem) : Option ((Mem × Int32) ⊕ (Bool × Mem)) :=
  some (Sum.inl (σ11, i2 + 1))
noncomputable def j_X11_isAlikeBy_102 (i13 : Int32) (σ15 : Mem) : Option ((Mem × Int32) ⊕ (Mem ⊕ ((Mem × Int32) ⊕ (Bool × Mem)))) :=
  some (Sum.inl (σ15, i13 + 1))
noncomputable def l_X11_isAlikeBy_49 (i2 : Int32) (b9 : Bool) (σ12 : Mem) (i13 : Int32) : Option ((Mem × Int32) ⊕ (Mem ⊕ ((Mem × Int32) ⊕ (Bool × Mem)))) :=
  (f_X11_n σ12).bind (fun (v14 : Int32) => if v14 ≤ i13 then (some (Sum.inr (Sum.inl σ12))) else (if b9 then (if i2 = 0 then ((f_X11_letters σ12 i13).bind (fun (v18 : Int32) => pI σ12 310 i13 v18 (fun (σ19 : Mem) => some (Sum.inl σ19)))) else (gI σ12 310 i13 (fun (v16 : Int32) => (f_X11_letters σ12 i13).bind (fun (v17 : Int32) => if v16 = v17 then (some (Sum.inl σ12)) else (some (Sum.inr (Sum.inr (Sum.inr (Sum.inr (false, σ12))))))))) : Option (Mem ⊕ ((Mem × Int32) ⊕ (Mem ⊕ ((Mem × Int32) ⊕ (Bool × Mem)))))).bind (Sum.elim (fun (z15 : Mem) => j_X11_isAlikeBy_102 i13 z15) some) else some (Sum.inr (Sum.inl σ12))))
noncomputable def l_X11_isAlikeBy_3 (x0 : Int32) (x1 : Int32) (x2 : Int32) (σ1 : Mem) (i2 : Int32) : Option ((Mem × Int32) ⊕ (Bool × Mem)) :=
  if 2 ≤ i2 then (some (Sum.inr (true, σ1))) else (pF σ1 306 6 0 (fun (σ3 : Mem) => pF σ3 306 7 0 (fun (σ4 : Mem) => (f_X11_writes σ4 x0).bind (fun (σ5 : Mem) => (f_X11_writes σ5 x1).bind (fun (σ6 : Mem) => (f_X11_writes σ6 x2).bind (fun (σ7 : Mem) => (f_X11_exchanges σ7 i2).bind (fun (σ8 : Mem) => bq (f_X11_collects σ8) (fun (b9 : Bool) (σ10 : Mem) => (loopO (fun (z13 : (Mem × Int32)) => l_X11_isAlikeBy_49 i2 b9 z13.1 z13.2) (σ10, 0) : Option (Mem ⊕ ((Mem × Int32) ⊕ (Bool × Mem)))).bind (Sum.elim (fun (z11 : Mem) => j_X11_isAlikeBy_108 i2 z11) some)))))))))
noncomputable def f_X11_isAlikeBy (σ : Mem) (x0 : Int32) (x1 : Int32) (x2 : Int32) : Option (Bool × Mem) :=
  loopO (fun (z2 : (Mem × Int32)) => l_X11_isAlikeBy_3 x0 x1 x2 z2.1 z2.2) (σ, 0)
noncomputable def f_X11_puts (σ : Mem) (x0 : Int32) (x1 : Int32) (x2 : Int64) : Option Mem :=
  pL σ 313 ((6 * x0) + x1) x2 (fun (σ1 : Mem) => some σ1)
noncomputable def f_X11_of (σ : Mem) (x0 : Int32) (x1 : Int32) : Option Int64 :=
  gL σ 313 ((6 * x0) + x1) (fun (v1 : Int64) => some v1)
noncomputable def l_X11_passesTwo_5 (x0 : Int32) (x1 : Int32) (x2 : Int32) (x3 : Int64) (σ2 : Mem) (i3 : Int32) : Option ((Mem × Int32) ⊕ Mem) :=
  (f_X11_n σ2).bind (fun (v4 : Int32) => if v4 ≤ i3 then (some (Sum.inr σ2)) else ((f_X11_of σ2 x0 i3).bind (fun (v5 : Int64) => (f_X11_tail σ2 x1 x2 i3).bind (fun (v6 : Int32) => (f_X11_puts σ2 x0 i3 (v5 + ((Int32.toInt64 v6) * x3))).bind (fun (σ7 : Mem) => some (Sum.inl (σ7, i3 + 1)))))))
noncomputable def f_X11_passesTwo (σ : Mem) (x0 : Int32) (x1 : Int32) (x2 : Int32) (x3 : Int64) : Option Mem :=
  bd (x1 + 1) (fun (v1 : Int32) => loopO (fun (z3 : (Mem × Int32)) => l_X11_passesTwo_5 x0 x1 x2 x3 z3.1 z3.2) (σ, v1))
noncomputable def f_X11_two (σ : Mem) (x0 : Int64) : Option Int64 :=
  nzL 2 (some ((x0 * (x0 - 1)) / 2))
noncomputable def j_X11_passesOne_232 (i4 : Int32) (σ7 : Mem) : Option ((Mem × Int32) ⊕ Mem) :=
  some (Sum.inl (σ7, i4 + 1))
noncomputable def j_X11_passesOne_226 (i13 : Int32) (σ22 : Mem) : Option ((Mem × Int32) ⊕ Mem) :=
  some (Sum.inl (σ22, i13 + 1))
noncomputable def l_X11_passesOne_157 (x0 : Int32) (x3 : Int64) (v1 : Int64) (i4 : Int32) (v6 : Int32) (i13 : Int32) (σ23 : Mem) (i24 : Int32) : Option ((Mem × Int32) ⊕ Mem) :=
  (f_X11_n σ23).bind (fun (v25 : Int32) => if v25 ≤ i24 then (some (Sum.inr σ23)) else ((f_X11_weight σ23 i24).bind (fun (v26 : Int32) => if v26 = 1 then (gL σ23 314 i13 (fun (v27 : Int64) => (f_X11_tail σ23 i4 i24 i13).bind (fun (v28 : Int32) => (f_X11_of σ23 x0 i24).bind (fun (v29 : Int64) => pL σ23 314 i13 (v27 + (((((Int32.toInt64 v6) * v1) * x3) * (Int32.toInt64 v28)) * v29)) (fun (σ30 : Mem) => some (Sum.inl (σ30, i24 + 1))))))) else (some (Sum.inr σ23)))))
noncomputable def l_X11_passesOne_83 (x0 : Int32) (x1 : Int32) (x2 : Int32) (x3 : Int64) (v1 : Int64) (i4 : Int32) (v6 : Int32) (σ12 : Mem) (i13 : Int32) : Option ((Mem × Int32) ⊕ Mem) :=
  (f_X11_n σ12).bind (fun (v14 : Int32) => if v14 ≤ i13 then (some (Sum.inr σ12)) else (gL σ12 314 i13 (fun (v15 : Int64) => (f_X11_tail σ12 i4 x2 i13).bind (fun (v16 : Int32) => (f_X11_two σ12 x3).bind (fun (v17 : Int64) => (f_X11_tail σ12 i4 x1 i13).bind (fun (v18 : Int32) => (f_X11_two σ12 v1).bind (fun (v19 : Int64) => pL σ12 314 i13 (v15 + ((Int32.toInt64 v6) * ((((Int32.toInt64 v16) * v1) * v17) + (((Int32.toInt64 v18) * x3) * v19)))) (fun (σ20 : Mem) => bd (x1 + 1) (fun (v21 : Int32) => (loopO (fun (z24 : (Mem × Int32)) => l_X11_passesOne_157 x0 x3 v1 i4 v6 i13 z24.1 z24.2) (σ20, v21) : Option Mem).bind (fun (z22 : Mem) => j_X11_passesOne_226 i13 z22))))))))))
noncomputable def l_X11_passesOne_13 (x0 : Int32) (x1 : Int32) (x2 : Int32) (x3 : Int64) (v1 : Int64) (σ3 : Mem) (i4 : Int32) : Option ((Mem × Int32) ⊕ Mem) :=
  (f_X11_n σ3).bind (fun (v5 : Int32) => if v5 ≤ i4 then (some (Sum.inr σ3)) else ((f_X11_tail σ3 x1 x2 i4).bind (fun (v6 : Int32) => (if v6 = 0 then (some σ3) else (gL σ3 314 i4 (fun (v8 : Int64) => pL σ3 314 i4 (v8 + (((Int32.toInt64 v6) * v1) * x3)) (fun (σ9 : Mem) => (f_X11_weight σ9 i4).bind (fun (v10 : Int32) => if v10 ≤ 2 then (bd (i4 + 1) (fun (v11 : Int32) => loopO (fun (z13 : (Mem × Int32)) => l_X11_passesOne_83 x0 x1 x2 x3 v1 i4 v6 z13.1 z13.2) (σ9, v11))) else (some σ9))))) : Option Mem).bind (fun (z7 : Mem) => j_X11_passesOne_232 i4 z7))))
noncomputable def f_X11_passesOne (σ : Mem) (x0 : Int32) (x1 : Int32) (x2 : Int32) (x3 : Int64) : Option Mem :=
  (f_X11_of σ x0 x1).bind (fun (v1 : Int64) => bd (x1 + 1) (fun (v2 : Int32) => loopO (fun (z4 : (Mem × Int32)) => l_X11_passesOne_13 x0 x1 x2 x3 v1 z4.1 z4.2) (σ, v2)))
noncomputable def j_X11_timesLetter_171 (x0 : Int32) (x1 : Int32) (x2 : Int64) (σ4 : Mem) : Option Mem :=
  (f_X11_of σ4 x0 x1).bind (fun (v5 : Int64) => (f_X11_puts σ4 x0 x1 (v5 + x2)).bind (fun (σ6 : Mem) => some σ6))
noncomputable def l_X11_timesLetter_128 (x0 : Int32) (σ9 : Mem) (i10 : Int32) : Option ((Mem × Int32) ⊕ Mem) :=
  if 6 ≤ i10 then (some (Sum.inr σ9)) else ((f_X11_of σ9 x0 i10).bind (fun (v11 : Int64) => gL σ9 314 i10 (fun (v12 : Int64) => (f_X11_puts σ9 x0 i10 (v11 + v12)).bind (fun (σ13 : Mem) => pL σ13 314 i10 0 (fun (σ14 : Mem) => some (Sum.inl (σ14, i10 + 1)))))))
noncomputable def j_X11_timesLetter_125 (x0 : Int32) (σ8 : Mem) : Option Mem :=
  loopO (fun (z10 : (Mem × Int32)) => l_X11_timesLetter_128 x0 z10.1 z10.2) (σ8, 0)
noncomputable def l_X11_timesLetter_91 (x0 : Int32) (x1 : Int32) (x2 : Int64) (σ15 : Mem) (i16 : Int32) : Option ((Mem × Int32) ⊕ Mem) :=
  (f_X11_n σ15).bind (fun (v17 : Int32) => if v17 ≤ i16 then (some (Sum.inr σ15)) else ((f_X11_weight σ15 i16).bind (fun (v18 : Int32) => if v18 = 1 then ((f_X11_passesOne σ15 x0 i16 x1 x2).bind (fun (σ19 : Mem) => some (Sum.inl (σ19, i16 + 1)))) else (some (Sum.inr σ15)))))
noncomputable def j_X11_timesLetter_77 (x0 : Int32) (x1 : Int32) (x2 : Int64) (σ2 : Mem) : Option Mem :=
  (f_X11_weight σ2 x1).bind (fun (v3 : Int32) => (if v3 = 1 then (bd (x1 + 1) (fun (v7 : Int32) => (loopO (fun (z16 : (Mem × Int32)) => l_X11_timesLetter_91 x0 x1 x2 z16.1 z16.2) (σ2, v7) : Option Mem).bind (fun (z8 : Mem) => j_X11_timesLetter_125 x0 z8))) else (some σ2) : Option Mem).bind (fun (z4 : Mem) => j_X11_timesLetter_171 x0 x1 x2 z4))
noncomputable def j_X11_timesLetter_71 (i22 : Int32) (σ27 : Mem) : Option ((Mem × Int32) ⊕ Mem) :=
  some (Sum.inl (σ27, i22 + 1))
noncomputable def l_X11_timesLetter_21 (x0 : Int32) (x1 : Int32) (x2 : Int64) (σ21 : Mem) (i22 : Int32) : Option ((Mem × Int32) ⊕ Mem) :=
  (f_X11_n σ21).bind (fun (v23 : Int32) => if v23 ≤ i22 then (some (Sum.inr σ21)) else ((f_X11_weight σ21 i22).bind (fun (v24 : Int32) => if 3 ≤ v24 then (some (Sum.inr σ21)) else ((f_X11_of σ21 x0 i22).bind (fun (v25 : Int64) => (f_X11_weight σ21 i22).bind (fun (v26 : Int32) => (if v26 = 2 then ((f_X11_passesTwo σ21 x0 i22 x1 (v25 * x2)).bind (fun (σ28 : Mem) => some σ28)) else (some σ21) : Option Mem).bind (fun (z27 : Mem) => j_X11_timesLetter_71 i22 z27)))))))
noncomputable def f_X11_timesLetter (σ : Mem) (x0 : Int32) (x1 : Int32) (x2 : Int64) : Option Mem :=
  if x2 = 0 then (some σ) else ((f_X11_weight σ x1).bind (fun (v1 : Int32) => (if v1 = 1 then (bd (x1 + 1) (fun (v20 : Int32) => loopO (fun (z22 : (Mem × Int32)) => l_X11_timesLetter_21 x0 x1 x2 z22.1 z22.2) (σ, v20))) else (some σ) : Option Mem).bind (fun (z2 : Mem) => j_X11_timesLetter_77 x0 x1 x2 z2)))
noncomputable def l_X11_times_2 (x0 : Int32) (x1 : Int32) (σ1 : Mem) (i2 : Int32) : Option ((Mem × Int32) ⊕ Mem) :=
  (f_X11_n σ1).bind (fun (v3 : Int32) => if v3 ≤ i2 then (some (Sum.inr σ1)) else ((f_X11_of σ1 x1 i2).bind (fun (v4 : Int64) => (f_X11_timesLetter σ1 x0 i2 v4).bind (fun (σ5 : Mem) => some (Sum.inl (σ5, i2 + 1))))))
noncomputable def f_X11_times (σ : Mem) (x0 : Int32) (x1 : Int32) : Option Mem :=
  loopO (fun (z2 : (Mem × Int32)) => l_X11_times_2 x0 x1 z2.1 z2.2) (σ, 0)
noncomputable def l_X11_choose_5 (x0 : Int32) (x1 : Int32) (l1 : Int64) (i2 : Int32) : Option ((Int64 × Int32) ⊕ Int64) :=
  if x1 ≤ i2 then (some (Sum.inr l1)) else (nzL (Int32.toInt64 (i2 + 1)) (bd ((l1 * (Int32.toInt64 (x0 - i2))) / (Int32.toInt64 (i2 + 1))) (fun (v3 : Int64) => some (Sum.inl (v3, i2 + 1)))))
noncomputable def f_X11_choose (σ : Mem) (x0 : Int32) (x1 : Int32) : Option Int64 :=
  loopO (fun (z2 : (Int64 × Int32)) => l_X11_choose_5 x0 x1 z2.1 z2.2) (1, 0)
noncomputable def j_X11_difference_170 (rec : Mem → Int32 → Int32 → Int64 → Option (Int64 × Mem)) (x0 : Int32) (x1 : Int32) (x2 : Int64) (l4 : Int64) (i5 : Int32) (σ6 : Mem) (v7 : Int64) (l8 : Int64) : Option ((Mem × Int64 × Int32) ⊕ (Int64 × Mem)) :=
  bq (rec σ6 x0 (x1 + 1) ((x2 * v7) * l8)) (fun (v9 : Int64) (σ10 : Mem) => bd (l4 + v9) (fun (v11 : Int64) => some (Sum.inl (σ10, v11, i5 + 1))))
noncomputable def l_X11_difference_121 (rec : Mem → Int32 → Int32 → Int64 → Option (Int64 × Mem)) (x0 : Int32) (x1 : Int32) (x2 : Int64) (v2 : Int32) (σ3 : Mem) (l4 : Int64) (i5 : Int32) : Option ((Mem × Int64 × Int32) ⊕ (Int64 × Mem)) :=
  if v2 < i5 then (some (Sum.inr (l4, σ3))) else (pI σ3 316 x1 i5 (fun (σ6 : Mem) => (f_X11_choose σ6 v2 i5).bind (fun (v7 : Int64) => nzI 2 ((if ((v2 - i5) - (v2 - i5) / 2 * 2) = 0 then (some 1) else (some (-1)) : Option Int64).bind (fun (z8 : Int64) => j_X11_difference_170 rec x0 x1 x2 l4 i5 σ6 v7 z8)))))
noncomputable def j_X11_difference_89 (rec : Mem → Int32 → Int32 → Int64 → Option (Int64 × Mem)) (x0 : Int32) (x2 : Int64) (σ12 : Mem) : Option (Int64 × Mem) :=
  (f_X11_times σ12 90 91).bind (fun (σ13 : Mem) => (f_X11_of σ13 90 x0).bind (fun (v14 : Int64) => some (x2 * v14, σ13)))
noncomputable def j_X11_difference_80 (rec : Mem → Int32 → Int32 → Int64 → Option (Int64 × Mem)) (i16 : Int32) (σ19 : Mem) (l21 : Int64) : Option ((Mem × Int32) ⊕ Mem) :=
  (f_X11_puts σ19 91 i16 l21).bind (fun (σ22 : Mem) => some (Sum.inl (σ22, i16 + 1)))
noncomputable def j_X11_difference_46 (rec : Mem → Int32 → Int32 → Int64 → Option (Int64 × Mem)) (σ15 : Mem) (i16 : Int32) (l18 : Int64) : Option ((Mem × Int32) ⊕ Mem) :=
  (f_X11_puts σ15 90 i16 l18).bind (fun (σ19 : Mem) => (f_X11_n σ19).bind (fun (v20 : Int32) => (if v20 ≤ i16 then (some 0) else ((f_X11_n σ19).bind (fun (v23 : Int32) => gI σ19 316 (v23 + i16) (fun (v24 : Int32) => some (Int32.toInt64 v24)))) : Option Int64).bind (fun (z21 : Int64) => j_X11_difference_80 rec i16 σ19 z21)))
noncomputable def l_X11_difference_13 (rec : Mem → Int32 → Int32 → Int64 → Option (Int64 × Mem)) (σ15 : Mem) (i16 : Int32) : Option ((Mem × Int32) ⊕ Mem) :=
  if 6 ≤ i16 then (some (Sum.inr σ15)) else ((f_X11_n σ15).bind (fun (v17 : Int32) => (if v17 ≤ i16 then (some 0) else (gI σ15 316 i16 (fun (v25 : Int32) => some (Int32.toInt64 v25))) : Option Int64).bind (fun (z18 : Int64) => j_X11_difference_46 rec σ15 i16 z18)))
noncomputable def o_X11_difference (rec : Mem → Int32 → Int32 → Int64 → Option (Int64 × Mem)) (σ : Mem) (x0 : Int32) (x1 : Int32) (x2 : Int64) : Option (Int64 × Mem) :=
  (f_X11_n σ).bind (fun (v1 : Int32) => if x1 = (2 * v1) then ((loopO (fun (z16 : (Mem × Int32)) => l_X11_difference_13 rec z16.1 z16.2) (σ, 0) : Option Mem).bind (fun (z12 : Mem) => j_X11_difference_89 rec x0 x2 z12)) else (gI σ 315 x1 (fun (v2 : Int32) => loopO (fun (z5 : (Mem × Int64 × Int32)) => l_X11_difference_121 rec x0 x1 x2 v2 z5.1 z5.2.1 z5.2.2) (σ, 0, 0))))
noncomputable def f_X11_difference : Nat → Mem → Int32 → Int32 → Int64 → Option (Int64 × Mem)
  | 0 => fun _ _ _ _ => none
  | n + 1 => fun σ x0 x1 x2 => o_X11_difference (f_X11_difference n) σ x0 x1 x2
noncomputable def f_X11_weightOf (σ : Mem) (x0 : Int32) : Option Int32 :=
  (f_X11_n σ).bind (fun (v1 : Int32) => nzI v1 ((f_X11_weight σ (x0 - x0 / v1 * v1)).bind (fun (v2 : Int32) => some v2)))
noncomputable def j_X11_rows_155 (rec : Mem → Int32 → Int32 → Int32 → Option Mem) (x1 : Int32) (σ2 : Mem) : Option Mem :=
  pI σ2 315 x1 0 (fun (σ3 : Mem) => some σ3)
noncomputable def l_X11_rows_111 (rec : Mem → Int32 → Int32 → Int32 → Option Mem) (x0 : Int32) (x1 : Int32) (x2 : Int32) (σ4 : Mem) (i5 : Int32) : Option ((Mem × Int32) ⊕ Mem) :=
  (f_X11_weightOf σ4 x1).bind (fun (v6 : Int32) => if x2 < (i5 * v6) then (some (Sum.inr σ4)) else (pI σ4 315 x1 i5 (fun (σ7 : Mem) => (f_X11_weightOf σ7 x1).bind (fun (v8 : Int32) => (rec σ7 x0 (x1 + 1) (x2 - (i5 * v8))).bind (fun (σ9 : Mem) => some (Sum.inl (σ9, i5 + 1)))))))
noncomputable def j_X11_rows_93 (rec : Mem → Int32 → Int32 → Int32 → Option Mem) (x0 : Int32) (σ15 : Mem) : Option Mem :=
  gI σ15 311 x0 (fun (v16 : Int32) => pI σ15 311 x0 (v16 + 1) (fun (σ17 : Mem) => some σ17))
noncomputable def l_X11_rows_56 (rec : Mem → Int32 → Int32 → Int32 → Option Mem) (v13 : Int32) (σ18 : Mem) (i19 : Int32) : Option ((Mem × Int32) ⊕ Mem) :=
  (f_X11_n σ18).bind (fun (v20 : Int32) => if (2 * v20) ≤ i19 then (some (Sum.inr σ18)) else (gI σ18 315 i19 (fun (v21 : Int32) => pL σ18 312 ((v13 + 1) + i19) (Int32.toInt64 v21) (fun (σ22 : Mem) => some (Sum.inl (σ22, i19 + 1))))))
noncomputable def o_X11_rows (rec : Mem → Int32 → Int32 → Int32 → Option Mem) (σ : Mem) (x0 : Int32) (x1 : Int32) (x2 : Int32) : Option Mem :=
  (f_X11_n σ).bind (fun (v1 : Int32) => if x1 = (2 * v1) then (bq (f_X11_difference 14 σ x0 0 1) (fun (v10 : Int64) (σ11 : Mem) => if v10 = 0 then (some σ11) else (gI σ11 311 x0 (fun (v12 : Int32) => bd ((9100 * x0) + (13 * v12)) (fun (v13 : Int32) => pL σ11 312 v13 v10 (fun (σ14 : Mem) => (loopO (fun (z19 : (Mem × Int32)) => l_X11_rows_56 rec v13 z19.1 z19.2) (σ14, 0) : Option Mem).bind (fun (z15 : Mem) => j_X11_rows_93 rec x0 z15))))))) else ((loopO (fun (z5 : (Mem × Int32)) => l_X11_rows_111 rec x0 x1 x2 z5.1 z5.2) (σ, 0) : Option Mem).bind (fun (z2 : Mem) => j_X11_rows_155 rec x1 z2)))
noncomputable def f_X11_rows : Nat → Mem → Int32 → Int32 → Int32 → Option Mem
  | 0 => fun _ _ _ _ => none
  | n + 1 => fun σ x0 x1 x2 => o_X11_rows (f_X11_rows n) σ x0 x1 x2
noncomputable def f_X11_laysTerms (σ : Mem) (x0 : Int32) : Option Mem :=
  (f_X11_weight σ x0).bind (fun (v1 : Int32) => (f_X11_rows 14 σ x0 0 v1).bind (fun (σ2 : Mem) => some σ2))
noncomputable def l_X11_lays_117 (σ7 : Mem) (i8 : Int32) : Option ((Mem × Int32) ⊕ Mem) :=
  (f_X11_n σ7).bind (fun (v9 : Int32) => if v9 ≤ i8 then (some (Sum.inr σ7)) else ((f_X11_laysTerms σ7 i8).bind (fun (σ10 : Mem) => some (Sum.inl (σ10, i8 + 1)))))
noncomputable def j_X11_lays_107 (σ5 : Mem) : Option Mem :=
  gZ σ5 306 10 (fun (b6 : Bool) => if b6 then loopO (fun (z8 : (Mem × Int32)) => l_X11_lays_117 z8.1 z8.2) (σ5, 0) else some σ5)
noncomputable def l_X11_lays_88 (σ11 : Mem) (i12 : Int32) : Option ((Mem × Int32) ⊕ Mem) :=
  if 6 ≤ i12 then (some (Sum.inr σ11)) else (pI σ11 311 i12 0 (fun (σ13 : Mem) => some (Sum.inl (σ13, i12 + 1))))
noncomputable def j_X11_lays_86 (σ4 : Mem) : Option Mem :=
  (loopO (fun (z12 : (Mem × Int32)) => l_X11_lays_88 z12.1 z12.2) (σ4, 0) : Option Mem).bind (fun (z5 : Mem) => j_X11_lays_107 z5)
noncomputable def j_X11_lays_80 (i15 : Int32) (σ17 : Mem) : Option ((Mem × Int32) ⊕ Mem) :=
  some (Sum.inl (σ17, i15 + 1))
noncomputable def j_X11_lays_74 (i19 : Int32) (σ20 : Mem) : Option ((Mem × Int32) ⊕ Mem) :=
  some (Sum.inl (σ20, i19 + 1))
noncomputable def j_X11_lays_65 (i22 : Int32) (σ24 : Mem) (b25 : Bool) : Option ((Mem × Int32) ⊕ Mem) :=
  pF σ24 306 10 (b2i b25) (fun (σ26 : Mem) => some (Sum.inl (σ26, i22 + 1)))
noncomputable def j_X11_lays_64 (σ27 : Mem) : Option (Mem × Bool) :=
  some (σ27, false)
noncomputable def l_X11_lays_37 (i15 : Int32) (i19 : Int32) (σ21 : Mem) (i22 : Int32) : Option ((Mem × Int32) ⊕ Mem) :=
  if i19 ≤ i22 then (some (Sum.inr σ21)) else (gZ σ21 306 10 (fun (b23 : Bool) => ((if b23 then bq (f_X11_isAlikeBy σ21 i15 i19 i22) (fun (b28 : Bool) (σ29 : Mem) => if b28 then some (Sum.inr (σ29, true)) else some (Sum.inl σ29)) else some (Sum.inl σ21) : Option (Mem ⊕ (Mem × Bool))).bind (Sum.elim (fun (z27 : Mem) => j_X11_lays_64 z27) some) : Option (Mem × Bool)).bind (fun (z25 : (Mem × Bool)) => j_X11_lays_65 i22 z25.1 z25.2)))
noncomputable def l_X11_lays_30 (i15 : Int32) (σ18 : Mem) (i19 : Int32) : Option ((Mem × Int32) ⊕ Mem) :=
  if i15 ≤ i19 then (some (Sum.inr σ18)) else ((loopO (fun (z22 : (Mem × Int32)) => l_X11_lays_37 i15 i19 z22.1 z22.2) (σ18, 0) : Option Mem).bind (fun (z20 : Mem) => j_X11_lays_74 i19 z20))
noncomputable def l_X11_lays_20 (σ14 : Mem) (i15 : Int32) : Option ((Mem × Int32) ⊕ Mem) :=
  (f_X11_n σ14).bind (fun (v16 : Int32) => if v16 ≤ i15 then (some (Sum.inr σ14)) else ((loopO (fun (z19 : (Mem × Int32)) => l_X11_lays_30 i15 z19.1 z19.2) (σ14, 0) : Option Mem).bind (fun (z17 : Mem) => j_X11_lays_80 i15 z17)))
noncomputable def f_X11_lays (σ : Mem) : Option Mem :=
  gZ σ 306 9 (fun (b1 : Bool) => if b1 then some σ else pF σ 306 9 1 (fun (σ2 : Mem) => pF σ2 306 10 1 (fun (σ3 : Mem) => (loopO (fun (z15 : (Mem × Int32)) => l_X11_lays_20 z15.1 z15.2) (σ3, 0) : Option Mem).bind (fun (z4 : Mem) => j_X11_lays_86 z4))))
noncomputable def f_X11_isConsistent (σ : Mem) : Option (Bool × Mem) :=
  (f_X11_lays σ).bind (fun (σ1 : Mem) => gZ σ1 306 10 (fun (b2 : Bool) => some (b2, σ1)))
noncomputable def l_X11_ones_2 (x0 : Int32) (σ1 : Mem) (i2 : Int32) : Option ((Mem × Int32) ⊕ Mem) :=
  if 6 ≤ i2 then (some (Sum.inr σ1)) else ((f_X11_puts σ1 x0 i2 0).bind (fun (σ3 : Mem) => some (Sum.inl (σ3, i2 + 1))))
noncomputable def f_X11_ones (σ : Mem) (x0 : Int32) : Option Mem :=
  loopO (fun (z2 : (Mem × Int32)) => l_X11_ones_2 x0 z2.1 z2.2) (σ, 0)
noncomputable def l_X11_copies_2 (x0 : Int32) (x1 : Int32) (σ1 : Mem) (i2 : Int32) : Option ((Mem × Int32) ⊕ Mem) :=
  if 6 ≤ i2 then (some (Sum.inr σ1)) else ((f_X11_of σ1 x0 i2).bind (fun (v3 : Int64) => (f_X11_puts σ1 x1 i2 v3).bind (fun (σ4 : Mem) => some (Sum.inl (σ4, i2 + 1)))))
noncomputable def f_X11_copies (σ : Mem) (x0 : Int32) (x1 : Int32) : Option Mem :=
  loopO (fun (z2 : (Mem × Int32)) => l_X11_copies_2 x0 x1 z2.1 z2.2) (σ, 0)
noncomputable def l_X11_laysRegister_2 (x0 : Int32) (x1 : Int32) (σ1 : Mem) (i2 : Int32) : Option ((Mem × Int32) ⊕ Mem) :=
  if 6 ≤ i2 then (some (Sum.inr σ1)) else ((f_X11_ofRow σ1 x1 i2).bind (fun (v3 : Int32) => (f_X11_puts σ1 x0 i2 (Int32.toInt64 v3)).bind (fun (σ4 : Mem) => some (Sum.inl (σ4, i2 + 1)))))
noncomputable def f_X11_laysRegister (σ : Mem) (x0 : Int32) (x1 : Int32) : Option Mem :=
  loopO (fun (z2 : (Mem × Int32)) => l_X11_laysRegister_2 x0 x1 z2.1 z2.2) (σ, 0)
noncomputable def l_X11_inverse_7 (x0 : Int32) (x1 : Int32) (σ2 : Mem) (i3 : Int32) : Option ((Mem × Int32) ⊕ Mem) :=
  (f_X11_n σ2).bind (fun (v4 : Int32) => if v4 ≤ i3 then (some (Sum.inr σ2)) else ((f_X11_copies σ2 x0 (x1 + 1)).bind (fun (σ5 : Mem) => (f_X11_times σ5 (x1 + 1) x1).bind (fun (σ6 : Mem) => (f_X11_of σ6 (x1 + 1) i3).bind (fun (v7 : Int64) => (f_X11_puts σ6 x1 i3 (-v7)).bind (fun (σ8 : Mem) => some (Sum.inl (σ8, i3 + 1))))))))
noncomputable def f_X11_inverse (σ : Mem) (x0 : Int32) (x1 : Int32) : Option Mem :=
  (f_X11_ones σ x1).bind (fun (σ1 : Mem) => loopO (fun (z3 : (Mem × Int32)) => l_X11_inverse_7 x0 x1 z3.1 z3.2) (σ1, 0))
noncomputable def l_X11_raises_40 (x1 : Int32) (σ4 : Mem) (i5 : Int32) : Option ((Mem × Int32) ⊕ Mem) :=
  if i5 ≤ 0 then (some (Sum.inr σ4)) else ((f_X11_times σ4 x1 (x1 + 2)).bind (fun (σ6 : Mem) => some (Sum.inl (σ6, i5 + (-1)))))
noncomputable def j_X11_raises_38 (x1 : Int32) (σ2 : Mem) (i3 : Int32) : Option Mem :=
  loopO (fun (z5 : (Mem × Int32)) => l_X11_raises_40 x1 z5.1 z5.2) (σ2, i3)
noncomputable def j_X11_raises_23 (x1 : Int32) (x2 : Int32) (σ1 : Mem) : Option Mem :=
  (f_X11_ones σ1 x1).bind (fun (σ2 : Mem) => (if 0 ≤ x2 then (some x2) else (some (-x2)) : Option Int32).bind (fun (z3 : Int32) => j_X11_raises_38 x1 σ2 z3))
noncomputable def f_X11_raises (σ : Mem) (x0 : Int32) (x1 : Int32) (x2 : Int32) : Option Mem :=
  (if 0 ≤ x2 then ((f_X11_copies σ x0 (x1 + 2)).bind (fun (σ7 : Mem) => some σ7)) else ((f_X11_inverse σ x0 (x1 + 2)).bind (fun (σ8 : Mem) => some σ8)) : Option Mem).bind (fun (z1 : Mem) => j_X11_raises_23 x1 x2 z1)
noncomputable def f_X11_commutator (σ : Mem) (x0 : Int32) (x1 : Int32) (x2 : Int32) : Option Mem :=
  (f_X11_inverse σ x0 x2).bind (fun (σ1 : Mem) => (f_X11_inverse σ1 x1 (x2 + 1)).bind (fun (σ2 : Mem) => (f_X11_times σ2 x2 (x2 + 1)).bind (fun (σ3 : Mem) => (f_X11_times σ3 x2 x0).bind (fun (σ4 : Mem) => (f_X11_times σ4 x2 x1).bind (fun (σ5 : Mem) => some σ5)))))
noncomputable def f_X11_conjugates (σ : Mem) (x0 : Int32) (x1 : Int32) (x2 : Int32) : Option Mem :=
  (f_X11_inverse σ x1 x2).bind (fun (σ1 : Mem) => (f_X11_times σ1 x2 x0).bind (fun (σ2 : Mem) => (f_X11_times σ2 x2 x1).bind (fun (σ3 : Mem) => some σ3)))
noncomputable def l_X11_isElement_2 (σ : Mem) (x0 : Int32) (i1 : Int32) : Option (Int32 ⊕ Bool) :=
  (f_X11_n σ).bind (fun (v2 : Int32) => if v2 ≤ i1 then (some (Sum.inr true)) else ((f_X11_of σ x0 i1).bind (fun (v3 : Int64) => (f_X11_isIn σ v3 (-999) 999).bind (fun (b4 : Bool) => if b4 then some (Sum.inl (i1 + 1)) else some (Sum.inr false)))))
noncomputable def f_X11_isElement (σ : Mem) (x0 : Int32) : Option Bool :=
  loopO (fun (z1 : Int32) => l_X11_isElement_2 σ x0 z1) 0
noncomputable def l_X11_isOne_2 (σ : Mem) (x0 : Int32) (i1 : Int32) : Option (Int32 ⊕ Bool) :=
  (f_X11_n σ).bind (fun (v2 : Int32) => if v2 ≤ i1 then (some (Sum.inr true)) else ((f_X11_of σ x0 i1).bind (fun (v3 : Int64) => if v3 = 0 then (some (Sum.inl (i1 + 1))) else (some (Sum.inr false)))))
noncomputable def f_X11_isOne (σ : Mem) (x0 : Int32) : Option Bool :=
  loopO (fun (z1 : Int32) => l_X11_isOne_2 σ x0 z1) 0
noncomputable def l_X11_areSame_2 (σ : Mem) (x0 : Int32) (x1 : Int32) (i1 : Int32) : Option (Int32 ⊕ Bool) :=
  (f_X11_n σ).bind (fun (v2 : Int32) => if v2 ≤ i1 then (some (Sum.inr true)) else ((f_X11_of σ x0 i1).bind (fun (v3 : Int64) => (f_X11_of σ x1 i1).bind (fun (v4 : Int64) => if v3 = v4 then (some (Sum.inl (i1 + 1))) else (some (Sum.inr false))))))
noncomputable def f_X11_areSame (σ : Mem) (x0 : Int32) (x1 : Int32) : Option Bool :=
  loopO (fun (z1 : Int32) => l_X11_areSame_2 σ x0 x1 z1) 0
noncomputable def f_X11_isRegister (σ : Mem) (x0 : Int32) : Option Bool :=
  (f_X11_isIn σ (Int32.toInt64 x0) 0 9).bind (fun (b1 : Bool) => some b1)
noncomputable def j_X11_gives_65 (x0 : Int32) (σ3 : Mem) (i4 : Int32) (i6 : Int32) : Option ((Mem × Int32) ⊕ (Bool × Mem)) :=
  pI σ3 307 ((223 + (6 * x0)) + i4) i6 (fun (σ7 : Mem) => some (Sum.inl (σ7, i4 + 1)))
noncomputable def l_X11_gives_26 (x0 : Int32) (x1 : Int32) (σ3 : Mem) (i4 : Int32) : Option ((Mem × Int32) ⊕ (Bool × Mem)) :=
  if 6 ≤ i4 then (some (Sum.inr (true, σ3))) else ((f_X11_n σ3).bind (fun (v5 : Int32) => (if v5 ≤ i4 then (some 0) else ((f_X11_of σ3 x1 i4).bind (fun (v8 : Int64) => some (Int64.toInt32 v8))) : Option Int32).bind (fun (z6 : Int32) => j_X11_gives_65 x0 σ3 i4 z6)))
noncomputable def f_X11_gives (σ : Mem) (x0 : Int32) (x1 : Int32) : Option (Bool × Mem) :=
  (f_X11_isElement σ x1).bind (fun (b1 : Bool) => if b1 then (f_X11_keepsAct σ).bind (fun (σ2 : Mem) => loopO (fun (z4 : (Mem × Int32)) => l_X11_gives_26 x0 x1 z4.1 z4.2) (σ2, 0)) else gF σ 306 4 (fun (v9 : Int32) => pF σ 306 4 (v9 + 1) (fun (σ10 : Mem) => some (false, σ10))))
noncomputable def j_X11_can_40 (σ3 : Mem) : Option (Bool × Mem) :=
  some (false, σ3)
noncomputable def f_X11_can (σ : Mem) (x0 : Int32) (x1 : Int32) (x2 : Int32) : Option (Bool × Mem) :=
  pF σ 306 0 0 (fun (σ1 : Mem) => (f_X11_isRegister σ1 x0).bind (fun (b2 : Bool) => (if b2 then (f_X11_isRegister σ1 x1).bind (fun (b4 : Bool) => if b4 then (f_X11_isRegister σ1 x2).bind (fun (b5 : Bool) => if b5 then bq (f_X11_isConsistent σ1) (fun (b6 : Bool) (σ7 : Mem) => if b6 then some (Sum.inr (true, σ7)) else some (Sum.inl σ7)) else some (Sum.inl σ1)) else some (Sum.inl σ1)) else some (Sum.inl σ1) : Option (Mem ⊕ (Bool × Mem))).bind (Sum.elim (fun (z3 : Mem) => j_X11_can_40 z3) some)))
noncomputable def f_X11_set (σ : Mem) (x0 : Int32) (x1 : Int32) (x2 : Int32) : Option (Bool × Mem) :=
  bq (f_X11_can σ x0 0 0) (fun (b1 : Bool) (σ2 : Mem) => if b1 then (f_X11_n σ2).bind (fun (v3 : Int32) => (f_X11_isIn σ2 (Int32.toInt64 x1) 1 (Int32.toInt64 v3)).bind (fun (b4 : Bool) => if b4 then (f_X11_isIn σ2 (Int32.toInt64 x2) (-999) 999).bind (fun (b5 : Bool) => if b5 then (f_X11_laysRegister σ2 0 x0).bind (fun (σ6 : Mem) => (f_X11_puts σ6 0 (x1 - 1) (Int32.toInt64 x2)).bind (fun (σ7 : Mem) => bq (f_X11_gives σ7 x0 0) (fun (b8 : Bool) (σ9 : Mem) => some (b8, σ9)))) else some (false, σ2)) else some (false, σ2))) else some (false, σ2))
noncomputable def f_X11_multiply (σ : Mem) (x0 : Int32) (x1 : Int32) (x2 : Int32) : Option (Bool × Mem) :=
  bq (f_X11_can σ x0 x1 x2) (fun (b1 : Bool) (σ2 : Mem) => if b1 then (f_X11_laysRegister σ2 0 x1).bind (fun (σ3 : Mem) => (f_X11_laysRegister σ3 1 x2).bind (fun (σ4 : Mem) => (f_X11_times σ4 0 1).bind (fun (σ5 : Mem) => bq (f_X11_gives σ5 x0 0) (fun (b6 : Bool) (σ7 : Mem) => some (b6, σ7))))) else some (false, σ2))
noncomputable def f_X11_invert (σ : Mem) (x0 : Int32) (x1 : Int32) : Option (Bool × Mem) :=
  bq (f_X11_can σ x0 x1 x1) (fun (b1 : Bool) (σ2 : Mem) => if b1 then (f_X11_laysRegister σ2 0 x1).bind (fun (σ3 : Mem) => (f_X11_inverse σ3 0 1).bind (fun (σ4 : Mem) => bq (f_X11_gives σ4 x0 1) (fun (b5 : Bool) (σ6 : Mem) => some (b5, σ6)))) else some (false, σ2))
noncomputable def f_X11_power (σ : Mem) (x0 : Int32) (x1 : Int32) (x2 : Int32) : Option (Bool × Mem) :=
  bq (f_X11_can σ x0 x1 x1) (fun (b1 : Bool) (σ2 : Mem) => if b1 then (f_X11_isIn σ2 (Int32.toInt64 x2) (-99) 99).bind (fun (b3 : Bool) => if b3 then (f_X11_laysRegister σ2 0 x1).bind (fun (σ4 : Mem) => (f_X11_raises σ4 0 1 x2).bind (fun (σ5 : Mem) => bq (f_X11_gives σ5 x0 1) (fun (b6 : Bool) (σ7 : Mem) => some (b6, σ7)))) else some (false, σ2)) else some (false, σ2))
noncomputable def f_X11_commute (σ : Mem) (x0 : Int32) (x1 : Int32) (x2 : Int32) : Option (Bool × Mem) :=
  bq (f_X11_can σ x0 x1 x2) (fun (b1 : Bool) (σ2 : Mem) => if b1 then (f_X11_laysRegister σ2 0 x1).bind (fun (σ3 : Mem) => (f_X11_laysRegister σ3 1 x2).bind (fun (σ4 : Mem) => (f_X11_commutator σ4 0 1 2).bind (fun (σ5 : Mem) => bq (f_X11_gives σ5 x0 2) (fun (b6 : Bool) (σ7 : Mem) => some (b6, σ7))))) else some (false, σ2))
noncomputable def f_X11_conjugate (σ : Mem) (x0 : Int32) (x1 : Int32) (x2 : Int32) : Option (Bool × Mem) :=
  bq (f_X11_can σ x0 x1 x2) (fun (b1 : Bool) (σ2 : Mem) => if b1 then (f_X11_laysRegister σ2 0 x1).bind (fun (σ3 : Mem) => (f_X11_laysRegister σ3 1 x2).bind (fun (σ4 : Mem) => (f_X11_conjugates σ4 0 1 2).bind (fun (σ5 : Mem) => bq (f_X11_gives σ5 x0 2) (fun (b6 : Bool) (σ7 : Mem) => some (b6, σ7))))) else some (false, σ2))
noncomputable def l_X11_extracts_8 (x0 : Int32) (x1 : Int32) (x2 : Int32) (σ2 : Mem) (i3 : Int32) : Option ((Mem × Int32) ⊕ (Bool × Mem)) :=
  (f_X11_n σ2).bind (fun (v4 : Int32) => if v4 ≤ i3 then (some (Sum.inr (true, σ2))) else ((f_X11_raises σ2 x1 (x1 + 1) x2).bind (fun (σ5 : Mem) => (f_X11_of σ5 x0 i3).bind (fun (v6 : Int64) => (f_X11_of σ5 (x1 + 1) i3).bind (fun (v7 : Int64) => bd (v6 - v7) (fun (v8 : Int64) => nzL (Int32.toInt64 x2) (if (v8 - v8 / (Int32.toInt64 x2) * (Int32.toInt64 x2)) = 0 then (nzL (Int32.toInt64 x2) ((f_X11_puts σ5 x1 i3 (v8 / (Int32.toInt64 x2))).bind (fun (σ9 : Mem) => some (Sum.inl (σ9, i3 + 1))))) else (some (Sum.inr (false, σ5))))))))))
noncomputable def f_X11_extracts (σ : Mem) (x0 : Int32) (x1 : Int32) (x2 : Int32) : Option (Bool × Mem) :=
  (f_X11_ones σ x1).bind (fun (σ1 : Mem) => loopO (fun (z3 : (Mem × Int32)) => l_X11_extracts_8 x0 x1 x2 z3.1 z3.2) (σ1, 0))
noncomputable def j_X11_root_62 (σ7 : Mem) : Option (Bool × Mem) :=
  some (false, σ7)
noncomputable def f_X11_root (σ : Mem) (x0 : Int32) (x1 : Int32) (x2 : Int32) : Option (Bool × Mem) :=
  bq (f_X11_can σ x0 x1 x1) (fun (b1 : Bool) (σ2 : Mem) => if b1 then (f_X11_isIn σ2 (Int32.toInt64 x2) 1 99).bind (fun (b3 : Bool) => if b3 then (f_X11_laysRegister σ2 0 x1).bind (fun (σ4 : Mem) => bq (f_X11_extracts σ4 0 1 x2) (fun (b5 : Bool) (σ6 : Mem) => (if b5 then (f_X11_isElement σ6 1).bind (fun (b8 : Bool) => if b8 then bq (f_X11_gives σ6 x0 1) (fun (b9 : Bool) (σ10 : Mem) => if b9 then some (Sum.inr (true, σ10)) else some (Sum.inl σ10)) else some (Sum.inl σ6)) else some (Sum.inl σ6) : Option (Mem ⊕ (Bool × Mem))).bind (Sum.elim (fun (z7 : Mem) => j_X11_root_62 z7) some))) else some (false, σ2)) else some (false, σ2))
noncomputable def j_X11_seeks_20 (rec : Mem → Int32 → Int32 → Option (Bool × Mem)) (σ : Mem) : Option (Bool × Mem) :=
  (f_X11_conjugates σ 0 2 3).bind (fun (σ2 : Mem) => (f_X11_areSame σ2 3 1).bind (fun (b3 : Bool) => some (b3, σ2)))
noncomputable def j_X11_seeks_69 (rec : Mem → Int32 → Int32 → Option (Bool × Mem)) (x0 : Int32) (σ7 : Mem) : Option (Unit ⊕ (Bool × Mem)) :=
  (f_X11_puts σ7 2 x0 0).bind (fun (σ8 : Mem) => some (Sum.inr (false, σ8)))
noncomputable def l_X11_seeks_37 (rec : Mem → Int32 → Int32 → Option (Bool × Mem)) (x0 : Int32) (x1 : Int32) (σ9 : Mem) (i10 : Int32) : Option ((Mem × Int32) ⊕ (Mem ⊕ (Unit ⊕ (Bool × Mem)))) :=
  if x1 < i10 then (some (Sum.inr (Sum.inl σ9))) else ((f_X11_puts σ9 2 x0 (Int32.toInt64 i10)).bind (fun (σ11 : Mem) => bq (rec σ11 (x0 + 1) x1) (fun (b12 : Bool) (σ13 : Mem) => if b12 then some (Sum.inr (Sum.inr (Sum.inr (true, σ13)))) else some (Sum.inl (σ13, i10 + 1)))))
noncomputable def o_X11_seeks (rec : Mem → Int32 → Int32 → Option (Bool × Mem)) (σ : Mem) (x0 : Int32) (x1 : Int32) : Option (Bool × Mem) :=
  (f_X11_n σ).bind (fun (v1 : Int32) => (if x0 = v1 then (some (Sum.inl ())) else ((f_X11_weight σ x0).bind (fun (v4 : Int32) => (f_X11_level σ).bind (fun (v5 : Int32) => if v4 = v5 then (some (Sum.inl ())) else (bd (-x1) (fun (v6 : Int32) => (loopO (fun (z10 : (Mem × Int32)) => l_X11_seeks_37 rec x0 x1 z10.1 z10.2) (σ, v6) : Option (Mem ⊕ (Unit ⊕ (Bool × Mem)))).bind (Sum.elim (fun (z7 : Mem) => j_X11_seeks_69 rec x0 z7) some)))))) : Option (Unit ⊕ (Bool × Mem))).bind (Sum.elim (fun (z1 : Unit) => j_X11_seeks_20 rec σ) some))
noncomputable def f_X11_seeks : Nat → Mem → Int32 → Int32 → Option (Bool × Mem)
  | 0 => fun _ _ _ => none
  | n + 1 => fun σ x0 x1 => o_X11_seeks (f_X11_seeks n) σ x0 x1
noncomputable def j_X11_seek_66 (σ9 : Mem) : Option (Bool × Mem) :=
  some (false, σ9)
noncomputable def f_X11_seek (σ : Mem) (x0 : Int32) (x1 : Int32) (x2 : Int32) (x3 : Int32) : Option (Bool × Mem) :=
  bq (f_X11_can σ x0 x1 x2) (fun (b1 : Bool) (σ2 : Mem) => if b1 then (f_X11_isIn σ2 (Int32.toInt64 x3) 1 3).bind (fun (b3 : Bool) => if b3 then (f_X11_laysRegister σ2 0 x1).bind (fun (σ4 : Mem) => (f_X11_laysRegister σ4 1 x2).bind (fun (σ5 : Mem) => (f_X11_ones σ5 2).bind (fun (σ6 : Mem) => bq (f_X11_seeks 8 σ6 0 x3) (fun (b7 : Bool) (σ8 : Mem) => (if b7 then bq (f_X11_gives σ8 x0 2) (fun (b10 : Bool) (σ11 : Mem) => if b10 then some (Sum.inr (true, σ11)) else some (Sum.inl σ11)) else some (Sum.inl σ8) : Option (Mem ⊕ (Bool × Mem))).bind (Sum.elim (fun (z9 : Mem) => j_X11_seek_66 z9) some))))) else some (false, σ2)) else some (false, σ2))
noncomputable def l_X11_types_3 (x0 : Int32) (σ1 : Mem) (i2 : Int32) : Option ((Mem × Int32) ⊕ Mem) :=
  if i2 < 0 then (some (Sum.inr σ1)) else (gF σ1 306 18 (fun (v3 : Int32) => pI σ1 317 v3 ((x0 >>> (i2 &&& 31)) &&& 255) (fun (σ4 : Mem) => gF σ4 306 18 (fun (v5 : Int32) => pF σ4 306 18 (v5 + 1) (fun (σ6 : Mem) => some (Sum.inl (σ6, i2 + (-8))))))))
noncomputable def f_X11_types (σ : Mem) (x0 : Int32) : Option Mem :=
  loopO (fun (z2 : (Mem × Int32)) => l_X11_types_3 x0 z2.1 z2.2) (σ, 24)
noncomputable def f_X11_feed (σ : Mem) (x0 : Int32) (x1 : Int32) (x2 : Int32) (x3 : Int32) (x4 : Int32) : Option (Int32 × Mem) :=
  pF σ 306 0 0 (fun (σ1 : Mem) => gF σ1 306 18 (fun (v2 : Int32) => if v2 ≤ 180 then ((f_X11_types σ1 x0).bind (fun (σ3 : Mem) => (f_X11_types σ3 x1).bind (fun (σ4 : Mem) => (f_X11_types σ4 x2).bind (fun (σ5 : Mem) => (f_X11_types σ5 x3).bind (fun (σ6 : Mem) => (f_X11_types σ6 x4).bind (fun (σ7 : Mem) => gF σ7 306 18 (fun (v8 : Int32) => some (v8, σ7)))))))) else (some ((-1), σ1))))
noncomputable def f_X11_end (σ : Mem) (x0 : Int32) : Option (Bool × Mem) :=
  pF σ 306 0 0 (fun (σ1 : Mem) => gF σ1 306 18 (fun (v2 : Int32) => (f_X11_isIn σ1 (Int32.toInt64 x0) 0 (Int32.toInt64 v2)).bind (fun (b3 : Bool) => if b3 then pF σ1 306 18 x0 (fun (σ4 : Mem) => some (true, σ4)) else some (false, σ1))))
noncomputable def f_X11_here (σ : Mem) : Option Int32 :=
  gF σ 306 21 (fun (v1 : Int32) => gF σ 306 22 (fun (v2 : Int32) => if v2 ≤ v1 then (some (-1)) else (gF σ 306 21 (fun (v3 : Int32) => gI σ 317 v3 (fun (v4 : Int32) => some v4)))))
noncomputable def j_X11_behindBlanks_22 (σ1 : Mem) : Option (Int32 × Mem) :=
  (f_X11_here σ1).bind (fun (v2 : Int32) => some (v2, σ1))
noncomputable def l_X11_behindBlanks_0 (σ3 : Mem) : Option (Mem ⊕ Mem) :=
  (f_X11_here σ3).bind (fun (v4 : Int32) => if v4 = 32 then (gF σ3 306 21 (fun (v5 : Int32) => pF σ3 306 21 (v5 + 1) (fun (σ6 : Mem) => some (Sum.inl σ6)))) else (some (Sum.inr σ3)))
noncomputable def f_X11_behindBlanks (σ : Mem) : Option (Int32 × Mem) :=
  (loopO (fun (z3 : Mem) => l_X11_behindBlanks_0 z3) σ : Option Mem).bind (fun (z1 : Mem) => j_X11_behindBlanks_22 z1)
noncomputable def j_X11_isDigit_16  : Option Bool :=
  some false
noncomputable def f_X11_isDigit (σ : Mem) (x0 : Int32) : Option Bool :=
  (if x0 < 48 then (some (Sum.inl ())) else (if 57 < x0 then (some (Sum.inl ())) else (some (Sum.inr true))) : Option (Unit ⊕ Bool)).bind (Sum.elim (fun (z0 : Unit) => j_X11_isDigit_16) some)
noncomputable def f_X11_isWrong (σ : Mem) : Option Bool :=
  gF σ 306 20 (fun (v1 : Int32) => if v1 = (-1) then (some false) else (some true))
noncomputable def f_X11_errs (σ : Mem) (x0 : Int32) (x1 : Int32) : Option Mem :=
  (f_X11_isWrong σ).bind (fun (b1 : Bool) => if b1 then some σ else pF σ 306 19 x0 (fun (σ2 : Mem) => pF σ2 306 20 x1 (fun (σ3 : Mem) => some σ3)))
noncomputable def f_X11_checks (σ : Mem) (x0 : Int32) : Option Mem :=
  gF σ 306 24 (fun (v1 : Int32) => if v1 = (-1) then ((f_X11_isElement σ x0).bind (fun (b2 : Bool) => if b2 then some σ else gF σ 306 23 (fun (v3 : Int32) => pF σ 306 24 v3 (fun (σ4 : Mem) => (f_X11_ones σ4 x0).bind (fun (σ5 : Mem) => some σ5))))) else ((f_X11_ones σ x0).bind (fun (σ6 : Mem) => some σ6)))
noncomputable def j_X11_isFactor_30  : Option Bool :=
  some true
noncomputable def j_X11_isFactor_12 (x0 : Int32) : Option (Unit ⊕ Bool) :=
  if x0 = 82 then (some (Sum.inl ())) else (if x0 = 40 then (some (Sum.inl ())) else (if x0 = 91 then (some (Sum.inl ())) else (some (Sum.inr false))))
noncomputable def f_X11_isFactor (σ : Mem) (x0 : Int32) : Option Bool :=
  ((if x0 < 97 then (some (Sum.inl ())) else (if x0 ≤ 102 then (some (Sum.inr (Sum.inl ()))) else (some (Sum.inl ()))) : Option (Unit ⊕ (Unit ⊕ Bool))).bind (Sum.elim (fun (z0 : Unit) => j_X11_isFactor_12 x0) some) : Option (Unit ⊕ Bool)).bind (Sum.elim (fun (z0 : Unit) => j_X11_isFactor_30) some)
noncomputable def f_X11_must (σ : Mem) (x0 : Int32) : Option Mem :=
  (f_X11_isWrong σ).bind (fun (b1 : Bool) => if b1 then some σ else bq (f_X11_behindBlanks σ) (fun (v2 : Int32) (σ3 : Mem) => if v2 = x0 then (gF σ3 306 21 (fun (v4 : Int32) => pF σ3 306 21 (v4 + 1) (fun (σ5 : Mem) => some σ5))) else (gF σ3 306 21 (fun (v6 : Int32) => (f_X11_errs σ3 1 v6).bind (fun (σ7 : Mem) => some σ7)))))
noncomputable def j_X11_readPower_193 (x0 : Int32) (σ17 : Mem) (i18 : Int32) : Option Mem :=
  (f_X11_raises σ17 x0 (x0 + 1) i18).bind (fun (σ19 : Mem) => (f_X11_copies σ19 (x0 + 1) x0).bind (fun (σ20 : Mem) => (f_X11_checks σ20 x0).bind (fun (σ21 : Mem) => some σ21)))
noncomputable def j_X11_readPower_153 (x0 : Int32) (b9 : Bool) (v11 : Int32) (σ14 : Mem) (i15 : Int32) : Option Mem :=
  if i15 ≤ 99 then (gF σ14 306 21 (fun (v16 : Int32) => pF σ14 306 23 v16 (fun (σ17 : Mem) => (if b9 then some (-i15) else some i15 : Option Int32).bind (fun (z18 : Int32) => j_X11_readPower_193 x0 σ17 z18)))) else ((f_X11_errs σ14 2 v11).bind (fun (σ22 : Mem) => some σ22))
noncomputable def j_X11_readPower_138 (σ23 : Mem) (i27 : Int32) : Option ((Mem × Int32) ⊕ (Mem × Int32)) :=
  gF σ23 306 21 (fun (v28 : Int32) => pF σ23 306 21 (v28 + 1) (fun (σ29 : Mem) => some (Sum.inl (σ29, i27))))
noncomputable def l_X11_readPower_102 (σ23 : Mem) (i24 : Int32) : Option ((Mem × Int32) ⊕ (Mem × Int32)) :=
  (f_X11_here σ23).bind (fun (v25 : Int32) => (f_X11_isDigit σ23 v25).bind (fun (b26 : Bool) => if b26 then (if i24 ≤ 99 then ((f_X11_here σ23).bind (fun (v30 : Int32) => some (((10 * i24) + v30) - 48))) else (some i24) : Option Int32).bind (fun (z27 : Int32) => j_X11_readPower_138 σ23 z27) else some (Sum.inr (σ23, i24))))
noncomputable def j_X11_readPower_72 (x0 : Int32) (b9 : Bool) (σ10 : Mem) : Option Mem :=
  gF σ10 306 21 (fun (v11 : Int32) => (f_X11_here σ10).bind (fun (v12 : Int32) => (f_X11_isDigit σ10 v12).bind (fun (b13 : Bool) => if b13 then (loopO (fun (z24 : (Mem × Int32)) => l_X11_readPower_102 z24.1 z24.2) (σ10, 0) : Option (Mem × Int32)).bind (fun (z15 : (Mem × Int32)) => j_X11_readPower_153 x0 b9 v11 z15.1 z15.2) else gF σ10 306 21 (fun (v31 : Int32) => (f_X11_errs σ10 1 v31).bind (fun (σ32 : Mem) => some σ32)))))
noncomputable def j_X11_readPower_52 (x0 : Int32) (σ8 : Mem) (b9 : Bool) : Option Mem :=
  (if b9 then gF σ8 306 21 (fun (v33 : Int32) => pF σ8 306 21 (v33 + 1) (fun (σ34 : Mem) => bq (f_X11_behindBlanks σ34) (fun (v35 : Int32) (σ36 : Mem) => some σ36))) else some σ8 : Option Mem).bind (fun (z10 : Mem) => j_X11_readPower_72 x0 b9 z10)
noncomputable def f_X11_readPower (σ : Mem) (x0 : Int32) : Option Mem :=
  (f_X11_isWrong σ).bind (fun (b1 : Bool) => if b1 then some σ else gF σ 306 21 (fun (v2 : Int32) => bq (f_X11_behindBlanks σ) (fun (v3 : Int32) (σ4 : Mem) => if v3 = 94 then (gF σ4 306 21 (fun (v5 : Int32) => pF σ4 306 21 (v5 + 1) (fun (σ6 : Mem) => bq (f_X11_behindBlanks σ6) (fun (v7 : Int32) (σ8 : Mem) => (if v7 = 45 then (some true) else (some false) : Option Bool).bind (fun (z9 : Bool) => j_X11_readPower_52 x0 σ8 z9))))) else (pF σ4 306 21 v2 (fun (σ37 : Mem) => some σ37)))))
noncomputable def j_X11_readCommutator_82 (rec : Mem → Int32 → Option Mem) (σ1 : Mem) : Option Mem :=
  (f_X11_must σ1 93).bind (fun (σ2 : Mem) => some σ2)
noncomputable def j_X11_readCommutator_22 (rec : Mem → Int32 → Option Mem) (x0 : Int32) (i4 : Int32) (σ6 : Mem) : Option ((Mem × Int32) ⊕ (Mem ⊕ Mem)) :=
  (f_X11_must σ6 44).bind (fun (σ7 : Mem) => gF σ7 306 21 (fun (v8 : Int32) => pF σ7 306 23 v8 (fun (σ9 : Mem) => (rec σ9 (x0 + 1)).bind (fun (σ10 : Mem) => (f_X11_isWrong σ10).bind (fun (b11 : Bool) => if b11 then some (Sum.inr (Sum.inr σ10)) else (f_X11_commutator σ10 x0 (x0 + 1) (x0 + 2)).bind (fun (σ12 : Mem) => (f_X11_copies σ12 (x0 + 2) x0).bind (fun (σ13 : Mem) => (f_X11_checks σ13 x0).bind (fun (σ14 : Mem) => bd (i4 + 1) (fun (v15 : Int32) => some (Sum.inl (σ14, v15)))))))))))
noncomputable def l_X11_readCommutator_2 (rec : Mem → Int32 → Option Mem) (x0 : Int32) (σ3 : Mem) (i4 : Int32) : Option ((Mem × Int32) ⊕ (Mem ⊕ Mem)) :=
  (f_X11_isWrong σ3).bind (fun (b5 : Bool) => if b5 then some (Sum.inr (Sum.inl σ3)) else (if i4 = 0 then (some (Sum.inl σ3)) else (bq (f_X11_behindBlanks σ3) (fun (v16 : Int32) (σ17 : Mem) => if v16 = 44 then (some (Sum.inl σ17)) else (some (Sum.inr (Sum.inr (Sum.inl σ17)))))) : Option (Mem ⊕ ((Mem × Int32) ⊕ (Mem ⊕ Mem)))).bind (Sum.elim (fun (z6 : Mem) => j_X11_readCommutator_22 rec x0 i4 z6) some))
noncomputable def o_X11_readCommutator (rec : Mem → Int32 → Option Mem) (σ : Mem) (x0 : Int32) : Option Mem :=
  (loopO (fun (z4 : (Mem × Int32)) => l_X11_readCommutator_2 rec x0 z4.1 z4.2) (σ, 0) : Option (Mem ⊕ Mem)).bind (Sum.elim (fun (z1 : Mem) => j_X11_readCommutator_82 rec z1) some)
noncomputable def j_X11_readOpen_72 (rec : Mem → Int32 → Option Mem) (σ9 : Mem) : Option Mem :=
  gF σ9 306 25 (fun (v10 : Int32) => pF σ9 306 25 (v10 - 1) (fun (σ11 : Mem) => some σ11))
noncomputable def o_X11_readOpen (rec : Mem → Int32 → Option Mem) (σ : Mem) (x0 : Int32) (x1 : Int32) : Option Mem :=
  gF σ 306 25 (fun (v1 : Int32) => if v1 = 8 then (gF σ 306 21 (fun (v14 : Int32) => (f_X11_errs σ 4 v14).bind (fun (σ15 : Mem) => some σ15))) else (gF σ 306 25 (fun (v2 : Int32) => pF σ 306 25 (v2 + 1) (fun (σ3 : Mem) => gF σ3 306 21 (fun (v4 : Int32) => pF σ3 306 21 (v4 + 1) (fun (σ5 : Mem) => gF σ5 306 21 (fun (v6 : Int32) => pF σ5 306 23 v6 (fun (σ7 : Mem) => (rec σ7 x0).bind (fun (σ8 : Mem) => (if x1 = 40 then ((f_X11_must σ8 41).bind (fun (σ13 : Mem) => some σ13)) else ((o_X11_readCommutator rec σ8 x0).bind (fun (σ12 : Mem) => some σ12)) : Option Mem).bind (fun (z9 : Mem) => j_X11_readOpen_72 rec z9))))))))))
noncomputable def j_X11_readFactor_134 (rec : Mem → Int32 → Option Mem) (σ2 : Mem) : Option Mem :=
  gF σ2 306 21 (fun (v3 : Int32) => pF σ2 306 23 v3 (fun (σ4 : Mem) => some σ4))
noncomputable def j_X11_readFactor_66 (rec : Mem → Int32 → Option Mem) (σ : Mem) (x0 : Int32) (v1 : Int32) : Option (Mem ⊕ Mem) :=
  if v1 = 82 then (gF σ 306 21 (fun (v6 : Int32) => pF σ 306 21 (v6 + 1) (fun (σ7 : Mem) => (f_X11_here σ7).bind (fun (v8 : Int32) => (f_X11_isDigit σ7 v8).bind (fun (b9 : Bool) => if b9 then (f_X11_here σ7).bind (fun (v10 : Int32) => (f_X11_laysRegister σ7 x0 (v10 - 48)).bind (fun (σ11 : Mem) => gF σ11 306 21 (fun (v12 : Int32) => pF σ11 306 21 (v12 + 1) (fun (σ13 : Mem) => some (Sum.inl σ13))))) else gF σ7 306 21 (fun (v14 : Int32) => (f_X11_errs σ7 1 v14).bind (fun (σ15 : Mem) => some (Sum.inr σ15)))))))) else ((o_X11_readOpen rec σ x0 v1).bind (fun (σ5 : Mem) => some (Sum.inl σ5)))
noncomputable def o_X11_readFactor (rec : Mem → Int32 → Option Mem) (σ : Mem) (x0 : Int32) : Option Mem :=
  (f_X11_here σ).bind (fun (v1 : Int32) => ((if v1 < 97 then (some (Sum.inl ())) else (if 102 < v1 then (some (Sum.inl ())) else ((f_X11_n σ).bind (fun (v16 : Int32) => if (v1 - 97) < v16 then ((f_X11_ones σ x0).bind (fun (σ17 : Mem) => (f_X11_puts σ17 x0 (v1 - 97) 1).bind (fun (σ18 : Mem) => gF σ18 306 21 (fun (v19 : Int32) => pF σ18 306 21 (v19 + 1) (fun (σ20 : Mem) => some (Sum.inr (Sum.inl σ20))))))) else (gF σ 306 21 (fun (v21 : Int32) => (f_X11_errs σ 3 v21).bind (fun (σ22 : Mem) => some (Sum.inr (Sum.inr σ22)))))))) : Option (Unit ⊕ (Mem ⊕ Mem))).bind (Sum.elim (fun (z4 : Unit) => j_X11_readFactor_66 rec σ x0 v1) some) : Option (Mem ⊕ Mem)).bind (Sum.elim (fun (z2 : Mem) => j_X11_readFactor_134 rec z2) some))
noncomputable def l_X11_readWord_5 (rec : Mem → Int32 → Option Mem) (x0 : Int32) (σ2 : Mem) : Option (Mem ⊕ Mem) :=
  (f_X11_isWrong σ2).bind (fun (b3 : Bool) => if b3 then some (Sum.inr σ2) else bq (f_X11_behindBlanks σ2) (fun (v4 : Int32) (σ5 : Mem) => (f_X11_isFactor σ5 v4).bind (fun (b6 : Bool) => if b6 then (o_X11_readFactor rec σ5 (x0 + 1)).bind (fun (σ7 : Mem) => (f_X11_readPower σ7 (x0 + 1)).bind (fun (σ8 : Mem) => (f_X11_isWrong σ8).bind (fun (b9 : Bool) => if b9 then some (Sum.inr σ8) else (f_X11_times σ8 x0 (x0 + 1)).bind (fun (σ10 : Mem) => (f_X11_checks σ10 x0).bind (fun (σ11 : Mem) => some (Sum.inl σ11)))))) else some (Sum.inr σ5))))
noncomputable def o_X11_readWord (rec : Mem → Int32 → Option Mem) (σ : Mem) (x0 : Int32) : Option Mem :=
  (f_X11_ones σ x0).bind (fun (σ1 : Mem) => loopO (fun (z2 : Mem) => l_X11_readWord_5 rec x0 z2) σ1)
noncomputable def f_X11_readWord : Nat → Mem → Int32 → Option Mem
  | 0 => fun _ _ => none
  | n + 1 => fun σ x0 => o_X11_readWord (f_X11_readWord n) σ x0
noncomputable def j_X11_text_165 (σ20 : Mem) : Option (Bool × Mem) :=
  some (false, σ20)
noncomputable def j_X11_text_144 (x0 : Int32) (σ18 : Mem) : Option (Bool × Mem) :=
  (f_X11_isWrong σ18).bind (fun (b19 : Bool) => (if b19 then some (Sum.inl σ18) else bq (f_X11_gives σ18 x0 10) (fun (b21 : Bool) (σ22 : Mem) => if b21 then some (Sum.inr (true, σ22)) else some (Sum.inl σ22)) : Option (Mem ⊕ (Bool × Mem))).bind (Sum.elim (fun (z20 : Mem) => j_X11_text_165 z20) some))
noncomputable def j_X11_text_121 (σ16 : Mem) : Option Mem :=
  pF σ16 306 19 5 (fun (σ24 : Mem) => gF σ24 306 24 (fun (v25 : Int32) => pF σ24 306 20 v25 (fun (σ26 : Mem) => gF σ26 306 4 (fun (v27 : Int32) => pF σ26 306 4 (v27 + 1) (fun (σ28 : Mem) => some σ28)))))
noncomputable def j_X11_text_95 (x0 : Int32) (σ16 : Mem) : Option (Bool × Mem) :=
  gF σ16 306 24 (fun (v17 : Int32) => (if v17 = (-1) then (some σ16) else ((f_X11_isWrong σ16).bind (fun (b23 : Bool) => (if b23 then gF σ16 306 20 (fun (v29 : Int32) => gF σ16 306 24 (fun (v30 : Int32) => if v29 < v30 then (some (Sum.inr σ16)) else (some (Sum.inl ())))) else some (Sum.inl ()) : Option (Unit ⊕ Mem)).bind (Sum.elim (fun (z23 : Unit) => j_X11_text_121 σ16) some))) : Option Mem).bind (fun (z18 : Mem) => j_X11_text_144 x0 z18))
noncomputable def f_X11_text (σ : Mem) (x0 : Int32) : Option (Bool × Mem) :=
  pF σ 306 0 0 (fun (σ1 : Mem) => pF σ1 306 21 0 (fun (σ2 : Mem) => gF σ2 306 18 (fun (v3 : Int32) => pF σ2 306 22 v3 (fun (σ4 : Mem) => pF σ4 306 18 0 (fun (σ5 : Mem) => pF σ5 306 19 0 (fun (σ6 : Mem) => pF σ6 306 20 (-1) (fun (σ7 : Mem) => pF σ7 306 24 (-1) (fun (σ8 : Mem) => pF σ8 306 25 0 (fun (σ9 : Mem) => pF σ9 306 23 0 (fun (σ10 : Mem) => (f_X11_isRegister σ10 x0).bind (fun (b11 : Bool) => if b11 then bq (f_X11_isConsistent σ10) (fun (b12 : Bool) (σ13 : Mem) => if b12 then (f_X11_readWord 20 σ13 10).bind (fun (σ14 : Mem) => (f_X11_isWrong σ14).bind (fun (b15 : Bool) => (if b15 then some σ14 else bq (f_X11_behindBlanks σ14) (fun (v31 : Int32) (σ32 : Mem) => if v31 = (-1) then (some σ32) else (gF σ32 306 21 (fun (v33 : Int32) => (f_X11_errs σ32 1 v33).bind (fun (σ34 : Mem) => some σ34)))) : Option Mem).bind (fun (z16 : Mem) => j_X11_text_95 x0 z16))) else some (false, σ13)) else some (false, σ10))))))))))))
noncomputable def f_X11_fault (σ : Mem) (x0 : Int32) : Option (Int32 × Mem) :=
  pF σ 306 0 0 (fun (σ1 : Mem) => if x0 = 0 then (gF σ1 306 19 (fun (v3 : Int32) => some (v3, σ1))) else (if x0 = 1 then (gF σ1 306 20 (fun (v2 : Int32) => some (v2, σ1))) else (some ((-1), σ1))))
noncomputable def j_X11_collect_146 (σ11 : Mem) : Option (Int32 × Mem) :=
  gF σ11 306 7 (fun (v12 : Int32) => some (v12, σ11))
noncomputable def l_X11_collect_121 (σ13 : Mem) (i14 : Int32) : Option ((Mem × Int32) ⊕ Mem) :=
  (f_X11_n σ13).bind (fun (v15 : Int32) => if v15 ≤ i14 then (some (Sum.inr σ13)) else ((f_X11_letters σ13 i14).bind (fun (v16 : Int32) => pI σ13 318 i14 v16 (fun (σ17 : Mem) => some (Sum.inl (σ17, i14 + 1))))))
noncomputable def j_X11_collect_101 (σ6 : Mem) : Option (Int32 × Mem) :=
  bq (f_X11_collects σ6) (fun (b7 : Bool) (σ8 : Mem) => if b7 then (f_X11_n σ8).bind (fun (v9 : Int32) => pF σ8 306 27 v9 (fun (σ10 : Mem) => (loopO (fun (z14 : (Mem × Int32)) => l_X11_collect_121 z14.1 z14.2) (σ10, 0) : Option Mem).bind (fun (z11 : Mem) => j_X11_collect_146 z11))) else some ((-2), σ8))
noncomputable def l_X11_collect_77 (v2 : Int32) (σ18 : Mem) (i19 : Int32) : Option ((Mem × Int32) ⊕ Mem) :=
  if v2 ≤ i19 then (some (Sum.inr σ18)) else (gI σ18 317 i19 (fun (v20 : Int32) => (f_X11_writes σ18 (v20 - 97)).bind (fun (σ21 : Mem) => some (Sum.inl (σ21, i19 + 1)))))
noncomputable def j_X11_collect_65 (v2 : Int32) (σ3 : Mem) : Option (Int32 × Mem) :=
  pF σ3 306 6 0 (fun (σ4 : Mem) => pF σ4 306 7 0 (fun (σ5 : Mem) => (loopO (fun (z19 : (Mem × Int32)) => l_X11_collect_77 v2 z19.1 z19.2) (σ5, 0) : Option Mem).bind (fun (z6 : Mem) => j_X11_collect_101 z6)))
noncomputable def l_X11_collect_25 (v2 : Int32) (σ3 : Mem) (i22 : Int32) : Option (Int32 ⊕ (Unit ⊕ (Int32 × Mem))) :=
  if v2 ≤ i22 then (some (Sum.inr (Sum.inl ()))) else (gI σ3 317 i22 (fun (v23 : Int32) => (f_X11_n σ3).bind (fun (v24 : Int32) => (f_X11_isIn σ3 (Int32.toInt64 v23) 97 ((Int32.toInt64 (97 + v24)) - 1)).bind (fun (b25 : Bool) => if b25 then some (Sum.inl (i22 + 1)) else some (Sum.inr (Sum.inr ((-1), σ3)))))))
noncomputable def f_X11_collect (σ : Mem) : Option (Int32 × Mem) :=
  pF σ 306 0 0 (fun (σ1 : Mem) => gF σ1 306 18 (fun (v2 : Int32) => pF σ1 306 18 0 (fun (σ3 : Mem) => if v2 ≤ 24 then ((loopO (fun (z22 : Int32) => l_X11_collect_25 v2 σ3 z22) 0 : Option (Unit ⊕ (Int32 × Mem))).bind (Sum.elim (fun (z3 : Unit) => j_X11_collect_65 v2 σ3) some)) else (some ((-1), σ3)))))
noncomputable def f_X11_collected (σ : Mem) (x0 : Int32) : Option (Int32 × Mem) :=
  pF σ 306 0 0 (fun (σ1 : Mem) => gF σ1 306 27 (fun (v2 : Int32) => (f_X11_isIn σ1 (Int32.toInt64 x0) 1 (Int32.toInt64 v2)).bind (fun (b3 : Bool) => if b3 then gI σ1 318 (x0 - 1) (fun (v4 : Int32) => some (v4, σ1)) else some ((-1), σ1))))
noncomputable def f_X11_consistent (σ : Mem) : Option (Int32 × Mem) :=
  pF σ 306 0 0 (fun (σ1 : Mem) => bq (f_X11_isConsistent σ1) (fun (b2 : Bool) (σ3 : Mem) => if b2 then some (1, σ3) else some (0, σ3)))
noncomputable def j_X11_exponent_39 (σ1 : Mem) : Option (Int32 × Mem) :=
  some ((-10000), σ1)
noncomputable def f_X11_exponent (σ : Mem) (x0 : Int32) (x1 : Int32) : Option (Int32 × Mem) :=
  pF σ 306 0 0 (fun (σ1 : Mem) => (f_X11_isRegister σ1 x0).bind (fun (b2 : Bool) => (if b2 then (f_X11_n σ1).bind (fun (v3 : Int32) => (f_X11_isIn σ1 (Int32.toInt64 x1) 1 (Int32.toInt64 v3)).bind (fun (b4 : Bool) => if b4 then (f_X11_ofRow σ1 x0 (x1 - 1)).bind (fun (v5 : Int32) => some (Sum.inr (v5, σ1))) else some (Sum.inl ()))) else some (Sum.inl ()) : Option (Unit ⊕ (Int32 × Mem))).bind (Sum.elim (fun (z2 : Unit) => j_X11_exponent_39 σ1) some)))
noncomputable def f_X11_areCommuting (σ : Mem) (x0 : Int32) (x1 : Int32) (x2 : Int32) : Option (Bool × Mem) :=
  (f_X11_commutator σ x0 x1 x2).bind (fun (σ1 : Mem) => (f_X11_isOne σ1 x2).bind (fun (b2 : Bool) => some (b2, σ1)))
noncomputable def l_X11_isCentral_2 (x0 : Int32) (x1 : Int32) (σ1 : Mem) (i2 : Int32) : Option ((Mem × Int32) ⊕ (Bool × Mem)) :=
  (f_X11_n σ1).bind (fun (v3 : Int32) => if v3 ≤ i2 then (some (Sum.inr (true, σ1))) else ((f_X11_ones σ1 x1).bind (fun (σ4 : Mem) => (f_X11_puts σ4 x1 i2 1).bind (fun (σ5 : Mem) => bq (f_X11_areCommuting σ5 x0 x1 (x1 + 1)) (fun (b6 : Bool) (σ7 : Mem) => if b6 then some (Sum.inl (σ7, i2 + 1)) else some (Sum.inr (false, σ7)))))))
noncomputable def f_X11_isCentral (σ : Mem) (x0 : Int32) (x1 : Int32) : Option (Bool × Mem) :=
  loopO (fun (z2 : (Mem × Int32)) => l_X11_isCentral_2 x0 x1 z2.1 z2.2) (σ, 0)
noncomputable def f_X11_isCentralLetter (σ : Mem) (x0 : Int32) : Option (Bool × Mem) :=
  (f_X11_ones σ 0).bind (fun (σ1 : Mem) => (f_X11_puts σ1 0 x0 1).bind (fun (σ2 : Mem) => bq (f_X11_isCentral σ2 0 1) (fun (b3 : Bool) (σ4 : Mem) => some (b3, σ4))))
noncomputable def j_X11_generator_64 (σ4 : Mem) : Option (Int32 × Mem) :=
  some ((-1), σ4)
noncomputable def f_X11_generator (σ : Mem) (x0 : Int32) (x1 : Int32) : Option (Int32 × Mem) :=
  pF σ 306 0 0 (fun (σ1 : Mem) => (f_X11_n σ1).bind (fun (v2 : Int32) => (f_X11_isIn σ1 (Int32.toInt64 x0) 1 (Int32.toInt64 v2)).bind (fun (b3 : Bool) => if b3 then if x1 = 0 then ((f_X11_weight σ1 (x0 - 1)).bind (fun (v9 : Int32) => some (v9, σ1))) else ((if x1 = 1 then (bq (f_X11_isConsistent σ1) (fun (b5 : Bool) (σ6 : Mem) => if b5 then bq (f_X11_isCentralLetter σ6 (x0 - 1)) (fun (b7 : Bool) (σ8 : Mem) => if b7 then some (Sum.inr (1, σ8)) else some (Sum.inr (0, σ8))) else some (Sum.inl σ6))) else (some (Sum.inl σ1)) : Option (Mem ⊕ (Int32 × Mem))).bind (Sum.elim (fun (z4 : Mem) => j_X11_generator_64 z4) some)) else some ((-1), σ1))))
noncomputable def f_X11_tailOf (σ : Mem) (x0 : Int32) (x1 : Int32) (x2 : Int32) : Option (Int32 × Mem) :=
  pF σ 306 0 0 (fun (σ1 : Mem) => (f_X11_isTail σ1 x0 x1 x2).bind (fun (b2 : Bool) => if b2 then (f_X11_tail σ1 (x0 - 1) (x1 - 1) (x2 - 1)).bind (fun (v3 : Int32) => some (v3, σ1)) else some ((-1), σ1)))
noncomputable def j_X11_isPolynomial_26 (σ3 : Mem) : Option (Bool × Mem) :=
  some (false, σ3)
noncomputable def f_X11_isPolynomial (σ : Mem) (x0 : Int32) : Option (Bool × Mem) :=
  (f_X11_n σ).bind (fun (v1 : Int32) => (f_X11_isIn σ (Int32.toInt64 x0) 1 (Int32.toInt64 v1)).bind (fun (b2 : Bool) => (if b2 then bq (f_X11_isConsistent σ) (fun (b4 : Bool) (σ5 : Mem) => if b4 then some (Sum.inr (true, σ5)) else some (Sum.inl σ5)) else some (Sum.inl σ) : Option (Mem ⊕ (Bool × Mem))).bind (Sum.elim (fun (z3 : Mem) => j_X11_isPolynomial_26 z3) some)))
noncomputable def f_X11_terms (σ : Mem) (x0 : Int32) : Option (Int32 × Mem) :=
  pF σ 306 0 0 (fun (σ1 : Mem) => bq (f_X11_isPolynomial σ1 x0) (fun (b2 : Bool) (σ3 : Mem) => if b2 then gI σ3 311 (x0 - 1) (fun (v4 : Int32) => some (v4, σ3)) else some ((-1), σ3)))
noncomputable def f_X11_termAt (σ : Mem) (x0 : Int32) (x1 : Int32) : Option Int32 :=
  some ((9100 * (x0 - 1)) + (13 * x1))
noncomputable def f_X11_term (σ : Mem) (x0 : Int32) (x1 : Int32) (x2 : Int32) : Option (Int32 × Mem) :=
  pF σ 306 0 0 (fun (σ1 : Mem) => bq (f_X11_isPolynomial σ1 x0) (fun (b2 : Bool) (σ3 : Mem) => if b2 then gI σ3 311 (x0 - 1) (fun (v4 : Int32) => (f_X11_isIn σ3 (Int32.toInt64 x1) 0 ((Int32.toInt64 v4) - 1)).bind (fun (b5 : Bool) => if b5 then (f_X11_n σ3).bind (fun (v6 : Int32) => (f_X11_isIn σ3 (Int32.toInt64 x2) 0 (2 * (Int32.toInt64 v6))).bind (fun (b7 : Bool) => if b7 then (f_X11_termAt σ3 x0 x1).bind (fun (v8 : Int32) => gL σ3 312 (v8 + x2) (fun (v9 : Int64) => some (Int64.toInt32 v9, σ3))) else some ((-10000), σ3))) else some ((-10000), σ3))) else some ((-10000), σ3)))
noncomputable def l_X11_degreeOf_5 (σ : Mem) (x0 : Int32) (x1 : Int32) (i1 : Int32) (i2 : Int32) : Option ((Int32 × Int32) ⊕ Int32) :=
  (f_X11_n σ).bind (fun (v3 : Int32) => if (2 * v3) < i2 then (some (Sum.inr i1)) else ((f_X11_termAt σ x0 x1).bind (fun (v4 : Int32) => gL σ 312 (v4 + i2) (fun (v5 : Int64) => bd (i1 + (Int64.toInt32 v5)) (fun (v6 : Int32) => some (Sum.inl (v6, i2 + 1)))))))
noncomputable def f_X11_degreeOf (σ : Mem) (x0 : Int32) (x1 : Int32) : Option Int32 :=
  loopO (fun (z2 : (Int32 × Int32)) => l_X11_degreeOf_5 σ x0 x1 z2.1 z2.2) (0, 1)
noncomputable def l_X11_weightOfTerm_5 (σ : Mem) (x0 : Int32) (x1 : Int32) (i1 : Int32) (i2 : Int32) : Option ((Int32 × Int32) ⊕ Int32) :=
  (f_X11_n σ).bind (fun (v3 : Int32) => if (2 * v3) < i2 then (some (Sum.inr i1)) else ((f_X11_weightOf σ (i2 - 1)).bind (fun (v4 : Int32) => (f_X11_termAt σ x0 x1).bind (fun (v5 : Int32) => gL σ 312 (v5 + i2) (fun (v6 : Int64) => bd (i1 + (v4 * (Int64.toInt32 v6))) (fun (v7 : Int32) => some (Sum.inl (v7, i2 + 1))))))))
noncomputable def f_X11_weightOfTerm (σ : Mem) (x0 : Int32) (x1 : Int32) : Option Int32 :=
  loopO (fun (z2 : (Int32 × Int32)) => l_X11_weightOfTerm_5 σ x0 x1 z2.1 z2.2) (0, 1)
noncomputable def j_X11_isInBoth_53 (i1 : Int32) : Option (Int32 ⊕ Bool) :=
  some (Sum.inl (i1 + 1))
noncomputable def l_X11_isInBoth_2 (σ : Mem) (x0 : Int32) (x1 : Int32) (i1 : Int32) : Option (Int32 ⊕ Bool) :=
  (f_X11_n σ).bind (fun (v2 : Int32) => if v2 < i1 then (some (Sum.inr false)) else ((f_X11_termAt σ x0 x1).bind (fun (v3 : Int32) => gL σ 312 (v3 + i1) (fun (v4 : Int64) => (if v4 ≤ 0 then (some (Sum.inl ())) else ((f_X11_termAt σ x0 x1).bind (fun (v5 : Int32) => (f_X11_n σ).bind (fun (v6 : Int32) => gL σ 312 ((v5 + v6) + i1) (fun (v7 : Int64) => if v7 ≤ 0 then (some (Sum.inl ())) else (some (Sum.inr (Sum.inr true))))))) : Option (Unit ⊕ (Int32 ⊕ Bool))).bind (Sum.elim (fun (z4 : Unit) => j_X11_isInBoth_53 i1) some)))))
noncomputable def f_X11_isInBoth (σ : Mem) (x0 : Int32) (x1 : Int32) : Option Bool :=
  loopO (fun (z1 : Int32) => l_X11_isInBoth_2 σ x0 x1 z1) 1
noncomputable def j_X11_shape_121 (i6 : Int32) (i11 : Int32) : Option ((Int32 × Int32) ⊕ (Int32 × Mem)) :=
  some (Sum.inl (i11, i6 + 1))
noncomputable def j_X11_shape_100 (x0 : Int32) (x1 : Int32) (σ3 : Mem) (i6 : Int32) (i10 : Int32) : Option ((Int32 × Int32) ⊕ (Int32 × Mem)) :=
  (if x1 = 3 then ((f_X11_termAt σ3 x0 i6).bind (fun (v12 : Int32) => gL σ3 312 v12 (fun (v13 : Int64) => bd (i10 + (Int64.toInt32 v13)) (fun (v14 : Int32) => some v14)))) else (some i10) : Option Int32).bind (fun (z11 : Int32) => j_X11_shape_121 i6 z11)
noncomputable def j_X11_shape_81 (x0 : Int32) (x1 : Int32) (σ3 : Mem) (i6 : Int32) (i9 : Int32) : Option ((Int32 × Int32) ⊕ (Int32 × Mem)) :=
  (if x1 = 2 then ((f_X11_isInBoth σ3 x0 i6).bind (fun (b15 : Bool) => if b15 then bd (i9 + 1) (fun (v16 : Int32) => some v16) else some i9)) else (some i9) : Option Int32).bind (fun (z10 : Int32) => j_X11_shape_100 x0 x1 σ3 i6 z10)
noncomputable def j_X11_shape_64 (x0 : Int32) (x1 : Int32) (σ3 : Mem) (i6 : Int32) (i8 : Int32) : Option ((Int32 × Int32) ⊕ (Int32 × Mem)) :=
  (if x1 = 1 then ((f_X11_weightOfTerm σ3 x0 i6).bind (fun (v17 : Int32) => (f_J9_max_7cf53 σ3 i8 v17).bind (fun (v18 : Int32) => some v18))) else (some i8) : Option Int32).bind (fun (z9 : Int32) => j_X11_shape_81 x0 x1 σ3 i6 z9)
noncomputable def l_X11_shape_35 (x0 : Int32) (x1 : Int32) (σ3 : Mem) (i5 : Int32) (i6 : Int32) : Option ((Int32 × Int32) ⊕ (Int32 × Mem)) :=
  gI σ3 311 (x0 - 1) (fun (v7 : Int32) => if v7 ≤ i6 then (some (Sum.inr (i5, σ3))) else ((if x1 = 0 then ((f_X11_degreeOf σ3 x0 i6).bind (fun (v19 : Int32) => (f_J9_max_7cf53 σ3 i5 v19).bind (fun (v20 : Int32) => some v20))) else (some i5) : Option Int32).bind (fun (z8 : Int32) => j_X11_shape_64 x0 x1 σ3 i6 z8)))
noncomputable def f_X11_shape (σ : Mem) (x0 : Int32) (x1 : Int32) : Option (Int32 × Mem) :=
  pF σ 306 0 0 (fun (σ1 : Mem) => bq (f_X11_isPolynomial σ1 x0) (fun (b2 : Bool) (σ3 : Mem) => if b2 then (f_X11_isIn σ3 (Int32.toInt64 x1) 0 3).bind (fun (b4 : Bool) => if b4 then loopO (fun (z6 : (Int32 × Int32)) => l_X11_shape_35 x0 x1 σ3 z6.1 z6.2) (0, 0) else some ((-10000), σ3)) else some ((-10000), σ3)))
noncomputable def j_X11_layer_33 (σ : Mem) : Option Int32 :=
  (f_X11_level σ).bind (fun (v1 : Int32) => some (v1 + 1))
noncomputable def j_X11_layer_21 (σ : Mem) (i2 : Int32) : Option (Unit ⊕ Int32) :=
  (f_X11_weight σ i2).bind (fun (v3 : Int32) => some (Sum.inr v3))
noncomputable def l_X11_layer_2 (σ : Mem) (x0 : Int32) (i4 : Int32) : Option (Int32 ⊕ (Int32 ⊕ (Unit ⊕ Int32))) :=
  (f_X11_n σ).bind (fun (v5 : Int32) => if v5 ≤ i4 then (some (Sum.inr (Sum.inr (Sum.inl ())))) else ((f_X11_of σ x0 i4).bind (fun (v6 : Int64) => if v6 = 0 then (some (Sum.inl (i4 + 1))) else (some (Sum.inr (Sum.inl i4))))))
noncomputable def f_X11_layer (σ : Mem) (x0 : Int32) : Option Int32 :=
  ((loopO (fun (z4 : Int32) => l_X11_layer_2 σ x0 z4) 0 : Option (Int32 ⊕ (Unit ⊕ Int32))).bind (Sum.elim (fun (z2 : Int32) => j_X11_layer_21 σ z2) some) : Option (Unit ⊕ Int32)).bind (Sum.elim (fun (z0 : Unit) => j_X11_layer_33 σ) some)
noncomputable def j_X11_place_75 (σ : Mem) : Option Int32 :=
  gF σ 306 29 (fun (v1 : Int32) => some v1)
noncomputable def j_X11_place_63 (i2 : Int32) (i4 : Int32) : Option (Int32 ⊕ (Unit ⊕ Int32)) :=
  if i4 = 0 then (some (Sum.inl (i2 + 1))) else (some (Sum.inr (Sum.inr i2)))
noncomputable def j_X11_place_56 (i6 : Int32) (b10 : Bool) : Option ((Int32 × Int32) ⊕ Int32) :=
  some (Sum.inl (b2i b10, i6 + 1))
noncomputable def l_X11_place_15 (σ : Mem) (x0 : Int32) (i2 : Int32) (i5 : Int32) (i6 : Int32) : Option ((Int32 × Int32) ⊕ Int32) :=
  (f_X11_n σ).bind (fun (v7 : Int32) => if v7 ≤ i6 then (some (Sum.inr i5)) else (if i5 = 0 then (some (Sum.inr i5)) else (gL σ 319 ((6 * i2) + i6) (fun (v8 : Int64) => (f_X11_of σ x0 i6).bind (fun (v9 : Int64) => (if v8 = v9 then (some true) else (some false) : Option Bool).bind (fun (z10 : Bool) => j_X11_place_56 i6 z10))))))
noncomputable def l_X11_place_2 (σ : Mem) (x0 : Int32) (i2 : Int32) : Option (Int32 ⊕ (Unit ⊕ Int32)) :=
  gF σ 306 29 (fun (v3 : Int32) => if v3 ≤ i2 then (some (Sum.inr (Sum.inl ()))) else ((loopO (fun (z6 : (Int32 × Int32)) => l_X11_place_15 σ x0 i2 z6.1 z6.2) (1, 0) : Option Int32).bind (fun (z4 : Int32) => j_X11_place_63 i2 z4)))
noncomputable def f_X11_place (σ : Mem) (x0 : Int32) : Option Int32 :=
  (loopO (fun (z2 : Int32) => l_X11_place_2 σ x0 z2) 0 : Option (Unit ⊕ Int32)).bind (Sum.elim (fun (z0 : Unit) => j_X11_place_75 σ) some)
noncomputable def j_X11_meets_46 (σ3 : Mem) : Option Mem :=
  gF σ3 306 29 (fun (v4 : Int32) => pF σ3 306 29 (v4 + 1) (fun (σ5 : Mem) => some σ5))
noncomputable def l_X11_meets_17 (x0 : Int32) (v1 : Int32) (σ6 : Mem) (i7 : Int32) : Option ((Mem × Int32) ⊕ Mem) :=
  if 6 ≤ i7 then (some (Sum.inr σ6)) else ((f_X11_of σ6 x0 i7).bind (fun (v8 : Int64) => pL σ6 319 ((6 * v1) + i7) v8 (fun (σ9 : Mem) => some (Sum.inl (σ9, i7 + 1)))))
noncomputable def f_X11_meets (σ : Mem) (x0 : Int32) : Option Mem :=
  (f_X11_place σ x0).bind (fun (v1 : Int32) => gF σ 306 29 (fun (v2 : Int32) => if v2 ≤ v1 then ((loopO (fun (z7 : (Mem × Int32)) => l_X11_meets_17 x0 v1 z7.1 z7.2) (σ, 0) : Option Mem).bind (fun (z3 : Mem) => j_X11_meets_46 z3)) else (some σ)))
noncomputable def j_X11_laysBall_174 (σ4 : Mem) : Option (Int32 × Mem) :=
  gF σ4 306 29 (fun (v5 : Int32) => some (v5, σ4))
noncomputable def j_X11_laysBall_148 (σ6 : Mem) : Option (Mem ⊕ (Int32 × Mem)) :=
  gF σ6 306 29 (fun (v7 : Int32) => some (Sum.inr (v7, σ6)))
noncomputable def j_X11_laysBall_165 (i10 : Int32) (v11 : Int32) (σ12 : Mem) : Option ((Mem × Int32 × Int32) ⊕ (Mem ⊕ (Mem ⊕ (Int32 × Mem)))) :=
  some (Sum.inl (σ12, v11, i10 + 1))
noncomputable def j_X11_laysBall_159 (i14 : Int32) (σ15 : Mem) : Option ((Mem × Int32) ⊕ (Mem ⊕ ((Mem × Int32 × Int32) ⊕ (Mem ⊕ (Mem ⊕ (Int32 × Mem)))))) :=
  some (Sum.inl (σ15, i14 + 1))
noncomputable def j_X11_laysBall_153 (i17 : Int32) (σ20 : Mem) : Option ((Mem × Int32) ⊕ (Mem ⊕ ((Mem × Int32) ⊕ (Mem ⊕ ((Mem × Int32 × Int32) ⊕ (Mem ⊕ (Mem ⊕ (Int32 × Mem)))))))) :=
  some (Sum.inl (σ20, i17 + 1))
noncomputable def j_X11_laysBall_129 (i17 : Int32) (σ21 : Mem) (l22 : Int64) : Option (Mem ⊕ ((Mem × Int32) ⊕ (Mem ⊕ ((Mem × Int32) ⊕ (Mem ⊕ ((Mem × Int32 × Int32) ⊕ (Mem ⊕ (Mem ⊕ (Int32 × Mem))))))))) :=
  (f_X11_timesLetter σ21 20 (i17 / 2) l22).bind (fun (σ23 : Mem) => (f_X11_meets σ23 20).bind (fun (σ24 : Mem) => gF σ24 306 29 (fun (v25 : Int32) => if v25 ≤ 1000 then (some (Sum.inl σ24)) else (some (Sum.inr (Sum.inr (Sum.inr (Sum.inr (Sum.inr (Sum.inr (Sum.inl σ24)))))))))))
noncomputable def j_X11_laysBall_108 (i17 : Int32) (σ21 : Mem) : Option (Mem ⊕ ((Mem × Int32) ⊕ (Mem ⊕ ((Mem × Int32) ⊕ (Mem ⊕ ((Mem × Int32 × Int32) ⊕ (Mem ⊕ (Mem ⊕ (Int32 × Mem))))))))) :=
  nzI 2 (nzI 2 ((if (i17 - i17 / 2 * 2) = 0 then (some 1) else (some (-1)) : Option Int64).bind (fun (z22 : Int64) => j_X11_laysBall_129 i17 σ21 z22)))
noncomputable def l_X11_laysBall_74 (i14 : Int32) (σ26 : Mem) (i27 : Int32) : Option ((Mem × Int32) ⊕ Mem) :=
  if 6 ≤ i27 then (some (Sum.inr σ26)) else (gL σ26 319 ((6 * i14) + i27) (fun (v28 : Int64) => (f_X11_puts σ26 20 i27 v28).bind (fun (σ29 : Mem) => some (Sum.inl (σ29, i27 + 1)))))
noncomputable def l_X11_laysBall_45 (i14 : Int32) (σ16 : Mem) (i17 : Int32) : Option ((Mem × Int32) ⊕ (Mem ⊕ ((Mem × Int32) ⊕ (Mem ⊕ ((Mem × Int32 × Int32) ⊕ (Mem ⊕ (Mem ⊕ (Int32 × Mem)))))))) :=
  (f_X11_n σ16).bind (fun (v18 : Int32) => if (2 * v18) ≤ i17 then (some (Sum.inr (Sum.inl σ16))) else (nzI 2 ((f_X11_weight σ16 (i17 / 2)).bind (fun (v19 : Int32) => (if v19 ≤ 1 then ((loopO (fun (z27 : (Mem × Int32)) => l_X11_laysBall_74 i14 z27.1 z27.2) (σ16, 0) : Option Mem).bind (fun (z21 : Mem) => j_X11_laysBall_108 i17 z21)) else (some (Sum.inl σ16)) : Option (Mem ⊕ ((Mem × Int32) ⊕ (Mem ⊕ ((Mem × Int32) ⊕ (Mem ⊕ ((Mem × Int32 × Int32) ⊕ (Mem ⊕ (Mem ⊕ (Int32 × Mem)))))))))).bind (Sum.elim (fun (z20 : Mem) => j_X11_laysBall_153 i17 z20) some)))))
noncomputable def l_X11_laysBall_35 (v11 : Int32) (σ13 : Mem) (i14 : Int32) : Option ((Mem × Int32) ⊕ (Mem ⊕ ((Mem × Int32 × Int32) ⊕ (Mem ⊕ (Mem ⊕ (Int32 × Mem)))))) :=
  if v11 ≤ i14 then (some (Sum.inr (Sum.inl σ13))) else ((loopO (fun (z17 : (Mem × Int32)) => l_X11_laysBall_45 i14 z17.1 z17.2) (σ13, 0) : Option (Mem ⊕ ((Mem × Int32) ⊕ (Mem ⊕ ((Mem × Int32 × Int32) ⊕ (Mem ⊕ (Mem ⊕ (Int32 × Mem)))))))).bind (Sum.elim (fun (z15 : Mem) => j_X11_laysBall_159 i14 z15) some))
noncomputable def l_X11_laysBall_21 (x0 : Int32) (σ8 : Mem) (i9 : Int32) (i10 : Int32) : Option ((Mem × Int32 × Int32) ⊕ (Mem ⊕ (Mem ⊕ (Int32 × Mem)))) :=
  if x0 ≤ i10 then (some (Sum.inr (Sum.inr (Sum.inl σ8)))) else (gF σ8 306 29 (fun (v11 : Int32) => (loopO (fun (z14 : (Mem × Int32)) => l_X11_laysBall_35 v11 z14.1 z14.2) (σ8, i9) : Option (Mem ⊕ ((Mem × Int32 × Int32) ⊕ (Mem ⊕ (Mem ⊕ (Int32 × Mem)))))).bind (Sum.elim (fun (z12 : Mem) => j_X11_laysBall_165 i10 v11 z12) some)))
noncomputable def f_X11_laysBall (σ : Mem) (x0 : Int32) : Option (Int32 × Mem) :=
  pF σ 306 29 0 (fun (σ1 : Mem) => (f_X11_ones σ1 20).bind (fun (σ2 : Mem) => (f_X11_meets σ2 20).bind (fun (σ3 : Mem) => ((loopO (fun (z10 : (Mem × Int32 × Int32)) => l_X11_laysBall_21 x0 z10.1 z10.2.1 z10.2.2) (σ3, 0, 0) : Option (Mem ⊕ (Mem ⊕ (Int32 × Mem)))).bind (Sum.elim (fun (z6 : Mem) => j_X11_laysBall_148 z6) some) : Option (Mem ⊕ (Int32 × Mem))).bind (Sum.elim (fun (z4 : Mem) => j_X11_laysBall_174 z4) some))))
noncomputable def f_X11_ball (σ : Mem) (x0 : Int32) : Option (Int32 × Mem) :=
  pF σ 306 0 0 (fun (σ1 : Mem) => (f_X11_isIn σ1 (Int32.toInt64 x0) 0 4).bind (fun (b2 : Bool) => if b2 then bq (f_X11_isConsistent σ1) (fun (b3 : Bool) (σ4 : Mem) => if b3 then bq (f_X11_laysBall σ4 x0) (fun (v5 : Int32) (σ6 : Mem) => if v5 ≤ 1000 then (some (v5, σ6)) else (some ((-1), σ6))) else some ((-1), σ4)) else some ((-1), σ1)))
noncomputable def l_X11_shortOf_2 (x0 : Int32) (σ1 : Mem) (i2 : Int32) : Option ((Mem × Int32) ⊕ (Int32 × Mem)) :=
  if 4 < i2 then (some (Sum.inr ((-1), σ1))) else (bq (f_X11_laysBall σ1 i2) (fun (v3 : Int32) (σ4 : Mem) => if v3 ≤ 1000 then ((f_X11_place σ4 x0).bind (fun (v5 : Int32) => gF σ4 306 29 (fun (v6 : Int32) => if v6 ≤ v5 then (some (Sum.inl (σ4, i2 + 1))) else (some (Sum.inr (i2, σ4)))))) else (some (Sum.inr ((-1), σ4)))))
noncomputable def f_X11_shortOf (σ : Mem) (x0 : Int32) : Option (Int32 × Mem) :=
  loopO (fun (z2 : (Mem × Int32)) => l_X11_shortOf_2 x0 z2.1 z2.2) (σ, 0)
noncomputable def j_X11_greatestRoot_28 (i2 : Int32) (σ4 : Mem) : Option ((Mem × Int32) ⊕ (Int32 × Mem)) :=
  some (Sum.inl (σ4, i2 + (-1)))
noncomputable def l_X11_greatestRoot_3 (x0 : Int32) (σ1 : Mem) (i2 : Int32) : Option ((Mem × Int32) ⊕ (Int32 × Mem)) :=
  if i2 ≤ 1 then (some (Sum.inr (1, σ1))) else (bq (f_X11_extracts σ1 x0 1 i2) (fun (b3 : Bool) (σ4 : Mem) => (if b3 then (f_X11_isElement σ4 1).bind (fun (b5 : Bool) => if b5 then some (Sum.inr (Sum.inr (i2, σ4))) else some (Sum.inl ())) else some (Sum.inl ()) : Option (Unit ⊕ ((Mem × Int32) ⊕ (Int32 × Mem)))).bind (Sum.elim (fun (z4 : Unit) => j_X11_greatestRoot_28 i2 σ4) some)))
noncomputable def f_X11_greatestRoot (σ : Mem) (x0 : Int32) : Option (Int32 × Mem) :=
  loopO (fun (z2 : (Mem × Int32)) => l_X11_greatestRoot_3 x0 z2.1 z2.2) (σ, 99)
noncomputable def j_X11_sameAs_31 (i3 : Int32) (σ4 : Mem) (i6 : Int32) : Option ((Mem × Int32 × Int32) ⊕ (Int32 × Mem)) :=
  some (Sum.inl (σ4, i6, i3 + 1))
noncomputable def l_X11_sameAs_4 (σ1 : Mem) (i2 : Int32) (i3 : Int32) : Option ((Mem × Int32 × Int32) ⊕ (Int32 × Mem)) :=
  if 10 ≤ i3 then (some (Sum.inr (i2, σ1))) else ((f_X11_laysRegister σ1 1 i3).bind (fun (σ4 : Mem) => (f_X11_areSame σ4 0 1).bind (fun (b5 : Bool) => (if b5 then bd (i2 ||| (1 <<< (i3 &&& 31))) (fun (v7 : Int32) => some v7) else some i2 : Option Int32).bind (fun (z6 : Int32) => j_X11_sameAs_31 i3 σ4 z6))))
noncomputable def f_X11_sameAs (σ : Mem) (x0 : Int32) : Option (Int32 × Mem) :=
  loopO (fun (z3 : (Mem × Int32 × Int32)) => l_X11_sameAs_4 z3.1 z3.2.1 z3.2.2) (σ, 0, 0)
noncomputable def j_X11_addsTail_53 (σ1 : Mem) : Option Mem :=
  gF σ1 306 31 (fun (v2 : Int32) => pF σ1 306 31 (v2 + 1) (fun (σ3 : Mem) => some σ3))
noncomputable def j_X11_addsTail_46 (σ4 : Mem) (i5 : Int32) (v6 : Int32) (l7 : Int64) : Option ((Mem × Int32) ⊕ Mem) :=
  pL σ4 320 ((18 * v6) + i5) l7 (fun (σ8 : Mem) => some (Sum.inl (σ8, i5 + 1)))
noncomputable def j_X11_addsTail_45  : Option Int64 :=
  some 0
noncomputable def l_X11_addsTail_2 (x0 : Int32) (x1 : Int32) (σ4 : Mem) (i5 : Int32) : Option ((Mem × Int32) ⊕ Mem) :=
  if 18 ≤ i5 then (some (Sum.inr σ4)) else (gF σ4 306 31 (fun (v6 : Int32) => ((if i5 ≤ x0 then (some (Sum.inl ())) else ((f_X11_n σ4).bind (fun (v9 : Int32) => if v9 ≤ i5 then (some (Sum.inl ())) else ((f_X11_tail σ4 x0 x1 i5).bind (fun (v10 : Int32) => some (Sum.inr (Int32.toInt64 v10)))))) : Option (Unit ⊕ Int64)).bind (Sum.elim (fun (z8 : Unit) => j_X11_addsTail_45) some) : Option Int64).bind (fun (z7 : Int64) => j_X11_addsTail_46 σ4 i5 v6 z7)))
noncomputable def f_X11_addsTail (σ : Mem) (x0 : Int32) (x1 : Int32) : Option Mem :=
  (loopO (fun (z5 : (Mem × Int32)) => l_X11_addsTail_2 x0 x1 z5.1 z5.2) (σ, 0) : Option Mem).bind (fun (z1 : Mem) => j_X11_addsTail_53 z1)
noncomputable def f_X11_ofColumn (σ : Mem) (x0 : Int32) (x1 : Int32) : Option Int64 :=
  gL σ 320 ((18 * x0) + x1) (fun (v1 : Int64) => some v1)
noncomputable def f_J9_abs_067f4 (σ : Mem) (x0 : Int64) : Option Int64 :=
  if 0 ≤ x0 then (some x0) else (some (-x0))
noncomputable def l_X11_changes_2 (x0 : Int32) (x1 : Int32) (σ1 : Mem) (i2 : Int32) : Option ((Mem × Int32) ⊕ Mem) :=
  if 18 ≤ i2 then (some (Sum.inr σ1)) else (gL σ1 320 ((18 * x0) + i2) (fun (v3 : Int64) => gL σ1 320 ((18 * x1) + i2) (fun (v4 : Int64) => pL σ1 320 ((18 * x0) + i2) v4 (fun (σ5 : Mem) => pL σ5 320 ((18 * x1) + i2) v3 (fun (σ6 : Mem) => some (Sum.inl (σ6, i2 + 1)))))))
noncomputable def f_X11_changes (σ : Mem) (x0 : Int32) (x1 : Int32) : Option Mem :=
  loopO (fun (z2 : (Mem × Int32)) => l_X11_changes_2 x0 x1 z2.1 z2.2) (σ, 0)
noncomputable def l_X11_lessens_3 (x0 : Int32) (x1 : Int32) (x2 : Int64) (σ1 : Mem) (i2 : Int32) : Option ((Mem × Int32) ⊕ Mem) :=
  if 18 ≤ i2 then (some (Sum.inr σ1)) else (gL σ1 320 ((18 * x0) + i2) (fun (v3 : Int64) => gL σ1 320 ((18 * x1) + i2) (fun (v4 : Int64) => pL σ1 320 ((18 * x0) + i2) (v3 - (x2 * v4)) (fun (σ5 : Mem) => some (Sum.inl (σ5, i2 + 1))))))
noncomputable def f_X11_lessens (σ : Mem) (x0 : Int32) (x1 : Int32) (x2 : Int64) : Option Mem :=
  loopO (fun (z2 : (Mem × Int32)) => l_X11_lessens_3 x0 x1 x2 z2.1 z2.2) (σ, 0)
noncomputable def l_X11_clearsAt_219 (x0 : Int32) (v7 : Int64) (σ8 : Mem) (i9 : Int32) : Option ((Mem × Int32) ⊕ (Bool × Mem)) :=
  if 18 ≤ i9 then (some (Sum.inr (true, σ8))) else (gL σ8 321 i9 (fun (v10 : Int64) => (f_X11_ofColumn σ8 x0 i9).bind (fun (v11 : Int64) => pL σ8 321 i9 (v10 - (v7 * v11)) (fun (σ12 : Mem) => some (Sum.inl (σ12, i9 + 1))))))
noncomputable def j_X11_clearsAt_176 (x0 : Int32) (x1 : Int32) (σ1 : Mem) : Option (Bool × Mem) :=
  pF σ1 306 33 1 (fun (σ2 : Mem) => gL σ2 321 x1 (fun (v3 : Int64) => (f_X11_ofColumn σ2 x0 x1).bind (fun (v4 : Int64) => nzL v4 (if (v3 - v3 / v4 * v4) = 0 then (gL σ2 321 x1 (fun (v5 : Int64) => (f_X11_ofColumn σ2 x0 x1).bind (fun (v6 : Int64) => nzL v6 (bd (v5 / v6) (fun (v7 : Int64) => loopO (fun (z9 : (Mem × Int32)) => l_X11_clearsAt_219 x0 v7 z9.1 z9.2) (σ2, 0)))))) else (some (false, σ2))))))
noncomputable def j_X11_clearsAt_75 (x1 : Int32) (σ13 : Mem) : Option (Mem ⊕ (Bool × Mem)) :=
  gL σ13 321 x1 (fun (v14 : Int64) => if v14 = 0 then (some (Sum.inr (true, σ13))) else (some (Sum.inr (false, σ13))))
noncomputable def j_X11_clearsAt_173 (σ20 : Mem) (i22 : Int32) : Option ((Mem × Int32) ⊕ (Mem ⊕ (Mem ⊕ (Bool × Mem)))) :=
  some (Sum.inl (σ20, i22))
noncomputable def j_X11_clearsAt_166 (i17 : Int32) (σ20 : Mem) (i21 : Int32) : Option ((Mem × Int32) ⊕ (Mem ⊕ (Mem ⊕ (Bool × Mem)))) :=
  (if i21 = 0 then (some (-1)) else (some i17) : Option Int32).bind (fun (z22 : Int32) => j_X11_clearsAt_173 σ20 z22)
noncomputable def j_X11_clearsAt_158 (i25 : Int32) (σ29 : Mem) (b30 : Bool) : Option ((Mem × Int32 × Int32) ⊕ (Mem × Int32)) :=
  some (Sum.inl (σ29, b2i b30, i25 + 1))
noncomputable def j_X11_clearsAt_153  : Option Bool :=
  some true
noncomputable def l_X11_clearsAt_106 (x0 : Int32) (x1 : Int32) (σ23 : Mem) (i24 : Int32) (i25 : Int32) : Option ((Mem × Int32 × Int32) ⊕ (Mem × Int32)) :=
  gF σ23 306 31 (fun (v26 : Int32) => if v26 ≤ i25 then (some (Sum.inr (σ23, i24))) else ((f_X11_ofColumn σ23 i25 x1).bind (fun (v27 : Int64) => (f_X11_ofColumn σ23 x0 x1).bind (fun (v28 : Int64) => nzL v28 ((f_X11_lessens σ23 i25 x0 (v27 / v28)).bind (fun (σ29 : Mem) => ((if i24 = 0 then ((f_X11_ofColumn σ29 i25 x1).bind (fun (v31 : Int64) => if v31 = 0 then (some (Sum.inr false)) else (some (Sum.inl ())))) else (some (Sum.inl ())) : Option (Unit ⊕ Bool)).bind (Sum.elim (fun (z30 : Unit) => j_X11_clearsAt_153) some) : Option Bool).bind (fun (z30 : Bool) => j_X11_clearsAt_158 i25 σ29 z30)))))))
noncomputable def j_X11_clearsAt_70 (x0 : Int32) (x1 : Int32) (σ15 : Mem) (i17 : Int32) : Option ((Mem × Int32) ⊕ (Mem ⊕ (Mem ⊕ (Bool × Mem)))) :=
  if i17 = (-1) then (some (Sum.inr (Sum.inl σ15))) else ((f_X11_changes σ15 i17 x0).bind (fun (σ18 : Mem) => bd (x0 + 1) (fun (v19 : Int32) => (loopO (fun (z25 : (Mem × Int32 × Int32)) => l_X11_clearsAt_106 x0 x1 z25.1 z25.2.1 z25.2.2) (σ18, 0, v19) : Option (Mem × Int32)).bind (fun (z21 : (Mem × Int32)) => j_X11_clearsAt_166 i17 z21.1 z21.2))))
noncomputable def j_X11_clearsAt_64 (i33 : Int32) (i36 : Int32) : Option ((Int32 × Int32) ⊕ Int32) :=
  some (Sum.inl (i36, i33 + 1))
noncomputable def j_X11_clearsAt_61 (i33 : Int32) : Option Int32 :=
  some i33
noncomputable def l_X11_clearsAt_12 (x1 : Int32) (σ15 : Mem) (i32 : Int32) (i33 : Int32) : Option ((Int32 × Int32) ⊕ Int32) :=
  gF σ15 306 31 (fun (v34 : Int32) => if v34 ≤ i33 then (some (Sum.inr i32)) else ((f_X11_ofColumn σ15 i33 x1).bind (fun (v35 : Int64) => (if v35 = 0 then (some i32) else ((if i32 = (-1) then (some (Sum.inl ())) else ((f_X11_ofColumn σ15 i33 x1).bind (fun (v37 : Int64) => (f_J9_abs_067f4 σ15 v37).bind (fun (v38 : Int64) => (f_X11_ofColumn σ15 i32 x1).bind (fun (v39 : Int64) => (f_J9_abs_067f4 σ15 v39).bind (fun (v40 : Int64) => if v40 ≤ v38 then (some (Sum.inr i32)) else (some (Sum.inl ()))))))) : Option (Unit ⊕ Int32)).bind (Sum.elim (fun (z36 : Unit) => j_X11_clearsAt_61 i33) some)) : Option Int32).bind (fun (z36 : Int32) => j_X11_clearsAt_64 i33 z36))))
noncomputable def l_X11_clearsAt_2 (x0 : Int32) (x1 : Int32) (σ15 : Mem) (i16 : Int32) : Option ((Mem × Int32) ⊕ (Mem ⊕ (Mem ⊕ (Bool × Mem)))) :=
  if i16 = (-1) then (some (Sum.inr (Sum.inr (Sum.inl σ15)))) else ((loopO (fun (z33 : (Int32 × Int32)) => l_X11_clearsAt_12 x1 σ15 z33.1 z33.2) ((-1), x0) : Option Int32).bind (fun (z17 : Int32) => j_X11_clearsAt_70 x0 x1 σ15 z17))
noncomputable def f_X11_clearsAt (σ : Mem) (x0 : Int32) (x1 : Int32) : Option (Bool × Mem) :=
  ((loopO (fun (z16 : (Mem × Int32)) => l_X11_clearsAt_2 x0 x1 z16.1 z16.2) (σ, x0) : Option (Mem ⊕ (Mem ⊕ (Bool × Mem)))).bind (Sum.elim (fun (z13 : Mem) => j_X11_clearsAt_75 x1 z13) some) : Option (Mem ⊕ (Bool × Mem))).bind (Sum.elim (fun (z1 : Mem) => j_X11_clearsAt_176 x0 x1 z1) some)
noncomputable def j_X11_canMake_49 (i3 : Int32) (σ9 : Mem) : Option ((Mem × Int32) ⊕ (Bool × Mem)) :=
  some (Sum.inl (σ9, i3 + 1))
noncomputable def l_X11_canMake_7 (σ2 : Mem) (i3 : Int32) : Option ((Mem × Int32) ⊕ (Bool × Mem)) :=
  if 6 ≤ i3 then (some (Sum.inr (true, σ2))) else (pF σ2 306 33 0 (fun (σ4 : Mem) => gF σ4 306 34 (fun (v5 : Int32) => bq (f_X11_clearsAt σ4 v5 i3) (fun (b6 : Bool) (σ7 : Mem) => if b6 then gZ σ7 306 33 (fun (b8 : Bool) => (if b8 then gF σ7 306 34 (fun (v10 : Int32) => pF σ7 306 34 (v10 + 1) (fun (σ11 : Mem) => some σ11)) else some σ7 : Option Mem).bind (fun (z9 : Mem) => j_X11_canMake_49 i3 z9)) else some (Sum.inr (false, σ7))))))
noncomputable def f_X11_canMake (σ : Mem) : Option (Bool × Mem) :=
  pF σ 306 34 0 (fun (σ1 : Mem) => loopO (fun (z3 : (Mem × Int32)) => l_X11_canMake_7 z3.1 z3.2) (σ1, 0))
noncomputable def j_X11_isMade_127 (σ3 : Mem) : Option (Bool × Mem) :=
  bq (f_X11_canMake σ3) (fun (b4 : Bool) (σ5 : Mem) => some (b4, σ5))
noncomputable def j_X11_isMade_120 (σ6 : Mem) (i7 : Int32) (l9 : Int64) : Option ((Mem × Int32) ⊕ Mem) :=
  pL σ6 321 i7 l9 (fun (σ10 : Mem) => some (Sum.inl (σ10, i7 + 1)))
noncomputable def l_X11_isMade_88 (x0 : Int32) (x1 : Int32) (σ6 : Mem) (i7 : Int32) : Option ((Mem × Int32) ⊕ Mem) :=
  if 18 ≤ i7 then (some (Sum.inr σ6)) else ((f_X11_n σ6).bind (fun (v8 : Int32) => (if v8 ≤ i7 then (some 0) else ((f_X11_of σ6 x0 i7).bind (fun (v11 : Int64) => some ((Int32.toInt64 x1) * v11))) : Option Int64).bind (fun (z9 : Int64) => j_X11_isMade_120 σ6 i7 z9)))
noncomputable def j_X11_isMade_86 (x0 : Int32) (x1 : Int32) (σ2 : Mem) : Option (Bool × Mem) :=
  (loopO (fun (z7 : (Mem × Int32)) => l_X11_isMade_88 x0 x1 z7.1 z7.2) (σ2, 0) : Option Mem).bind (fun (z3 : Mem) => j_X11_isMade_127 z3)
noncomputable def j_X11_isMade_80 (i13 : Int32) (σ16 : Mem) : Option ((Mem × Int32) ⊕ Mem) :=
  some (Sum.inl (σ16, i13 + 1))
noncomputable def l_X11_isMade_58 (i13 : Int32) (σ17 : Mem) (i18 : Int32) : Option ((Mem × Int32) ⊕ Mem) :=
  (f_X11_n σ17).bind (fun (v19 : Int32) => if v19 ≤ i18 then (some (Sum.inr σ17)) else ((f_X11_addsTail σ17 i18 i13).bind (fun (σ20 : Mem) => some (Sum.inl (σ20, i18 + 1)))))
noncomputable def l_X11_isMade_45 (σ12 : Mem) (i13 : Int32) : Option ((Mem × Int32) ⊕ Mem) :=
  (f_X11_n σ12).bind (fun (v14 : Int32) => if v14 ≤ i13 then (some (Sum.inr σ12)) else (bd (i13 + 1) (fun (v15 : Int32) => (loopO (fun (z18 : (Mem × Int32)) => l_X11_isMade_58 i13 z18.1 z18.2) (σ12, v15) : Option Mem).bind (fun (z16 : Mem) => j_X11_isMade_80 i13 z16))))
noncomputable def j_X11_isMade_38 (σ : Mem) (x0 : Int32) (x1 : Int32) : Option (Bool × Mem) :=
  pF σ 306 31 0 (fun (σ1 : Mem) => (loopO (fun (z13 : (Mem × Int32)) => l_X11_isMade_45 z13.1 z13.2) (σ1, 0) : Option Mem).bind (fun (z2 : Mem) => j_X11_isMade_86 x0 x1 z2))
noncomputable def j_X11_isMade_32 (i21 : Int32) : Option (Int32 ⊕ (Unit ⊕ (Bool × Mem))) :=
  some (Sum.inl (i21 + 1))
noncomputable def l_X11_isMade_2 (σ : Mem) (x0 : Int32) (i21 : Int32) : Option (Int32 ⊕ (Unit ⊕ (Bool × Mem))) :=
  (f_X11_n σ).bind (fun (v22 : Int32) => if v22 ≤ i21 then (some (Sum.inr (Sum.inl ()))) else ((f_X11_weight σ i21).bind (fun (v23 : Int32) => (if v23 = 1 then ((f_X11_of σ x0 i21).bind (fun (v24 : Int64) => if v24 = 0 then (some (Sum.inl ())) else (some (Sum.inr (Sum.inr (Sum.inr (false, σ))))))) else (some (Sum.inl ())) : Option (Unit ⊕ (Int32 ⊕ (Unit ⊕ (Bool × Mem))))).bind (Sum.elim (fun (z23 : Unit) => j_X11_isMade_32 i21) some))))
noncomputable def f_X11_isMade (σ : Mem) (x0 : Int32) (x1 : Int32) : Option (Bool × Mem) :=
  (loopO (fun (z21 : Int32) => l_X11_isMade_2 σ x0 z21) 0 : Option (Unit ⊕ (Bool × Mem))).bind (Sum.elim (fun (z0 : Unit) => j_X11_isMade_38 σ x0 x1) some)
noncomputable def l_X11_leastMade_2 (x0 : Int32) (σ1 : Mem) (i2 : Int32) : Option ((Mem × Int32) ⊕ (Int32 × Mem)) :=
  if 100 ≤ i2 then (some (Sum.inr (0, σ1))) else (bq (f_X11_isMade σ1 x0 i2) (fun (b3 : Bool) (σ4 : Mem) => if b3 then some (Sum.inr (i2, σ4)) else some (Sum.inl (σ4, i2 + 1))))
noncomputable def f_X11_leastMade (σ : Mem) (x0 : Int32) : Option (Int32 × Mem) :=
  loopO (fun (z2 : (Mem × Int32)) => l_X11_leastMade_2 x0 z2.1 z2.2) (σ, 1)
noncomputable def f_X11_register (σ : Mem) (x0 : Int32) (x1 : Int32) : Option (Int32 × Mem) :=
  pF σ 306 0 0 (fun (σ1 : Mem) => (f_X11_isRegister σ1 x0).bind (fun (b2 : Bool) => if b2 then bq (f_X11_isConsistent σ1) (fun (b3 : Bool) (σ4 : Mem) => if b3 then (f_X11_isIn σ4 (Int32.toInt64 x1) 0 7).bind (fun (b5 : Bool) => if b5 then (f_X11_laysRegister σ4 0 x0).bind (fun (σ6 : Mem) => if x1 = 0 then ((f_X11_layer σ6 0).bind (fun (v20 : Int32) => some (v20, σ6))) else (if x1 = 1 then (bq (f_X11_isCentral σ6 0 1) (fun (b18 : Bool) (σ19 : Mem) => if b18 then some (1, σ19) else some (0, σ19))) else (if x1 = 2 then ((f_X11_isOne σ6 0).bind (fun (b17 : Bool) => if b17 then some (1, σ6) else some (0, σ6))) else (if x1 = 3 then (bq (f_X11_shortOf σ6 0) (fun (v15 : Int32) (σ16 : Mem) => some (v15, σ16))) else (if x1 = 6 then (bq (f_X11_isMade σ6 0 1) (fun (b13 : Bool) (σ14 : Mem) => if b13 then some (1, σ14) else some (0, σ14))) else (if x1 = 7 then (bq (f_X11_leastMade σ6 0) (fun (v11 : Int32) (σ12 : Mem) => some (v11, σ12))) else (if x1 = 4 then (bq (f_X11_greatestRoot σ6 0) (fun (v9 : Int32) (σ10 : Mem) => some (v9, σ10))) else (bq (f_X11_sameAs σ6 x0) (fun (v7 : Int32) (σ8 : Mem) => some (v7, σ8)))))))))) else some ((-1), σ4)) else some ((-1), σ4)) else some ((-1), σ1)))
noncomputable def j_X11_firstApart_26 (i1 : Int32) : Option Int32 :=
  some (i1 + 1)
noncomputable def l_X11_firstApart_2 (σ : Mem) (i2 : Int32) : Option (Int32 ⊕ (Int32 ⊕ Int32)) :=
  (f_X11_n σ).bind (fun (v3 : Int32) => if v3 ≤ i2 then (some (Sum.inr (Sum.inr 0))) else ((f_X11_of σ 0 i2).bind (fun (v4 : Int64) => (f_X11_of σ 1 i2).bind (fun (v5 : Int64) => if v4 = v5 then (some (Sum.inl (i2 + 1))) else (some (Sum.inr (Sum.inl i2)))))))
noncomputable def f_X11_firstApart (σ : Mem) : Option Int32 :=
  (loopO (fun (z2 : Int32) => l_X11_firstApart_2 σ z2) 0 : Option (Int32 ⊕ Int32)).bind (Sum.elim (fun (z1 : Int32) => j_X11_firstApart_26 z1) some)
noncomputable def f_X11_both (σ : Mem) (x0 : Int32) (x1 : Int32) (x2 : Int32) : Option (Int32 × Mem) :=
  pF σ 306 0 0 (fun (σ1 : Mem) => (f_X11_isRegister σ1 x0).bind (fun (b2 : Bool) => if b2 then (f_X11_isRegister σ1 x1).bind (fun (b3 : Bool) => if b3 then bq (f_X11_isConsistent σ1) (fun (b4 : Bool) (σ5 : Mem) => if b4 then (f_X11_isIn σ5 (Int32.toInt64 x2) 0 2).bind (fun (b6 : Bool) => if b6 then (f_X11_laysRegister σ5 0 x0).bind (fun (σ7 : Mem) => (f_X11_laysRegister σ7 1 x1).bind (fun (σ8 : Mem) => if x2 = 2 then ((f_X11_firstApart σ8).bind (fun (v12 : Int32) => some (v12, σ8))) else ((f_X11_commutator σ8 0 1 2).bind (fun (σ9 : Mem) => if x2 = 1 then ((f_X11_layer σ9 2).bind (fun (v11 : Int32) => some (v11, σ9))) else ((f_X11_isOne σ9 2).bind (fun (b10 : Bool) => if b10 then some (1, σ9) else some (0, σ9))))))) else some ((-1), σ5)) else some ((-1), σ5)) else some ((-1), σ1)) else some ((-1), σ1)))
noncomputable def j_X11_adds_134 (σ4 : Mem) : Option Mem :=
  gF σ4 306 31 (fun (v5 : Int32) => pF σ4 306 31 (v5 + 1) (fun (σ6 : Mem) => some σ6))
noncomputable def l_X11_adds_94 (x1 : Int32) (σ7 : Mem) (i8 : Int32) : Option ((Mem × Int32) ⊕ Mem) :=
  (f_X11_n σ7).bind (fun (v9 : Int32) => if v9 ≤ i8 then (some (Sum.inr σ7)) else (gF σ7 306 31 (fun (v10 : Int32) => (f_X11_of σ7 x1 i8).bind (fun (v11 : Int64) => pL σ7 320 (((18 * v10) + 12) + i8) v11 (fun (σ12 : Mem) => some (Sum.inl (σ12, i8 + 1)))))))
noncomputable def j_X11_adds_91 (x1 : Int32) (σ3 : Mem) : Option Mem :=
  (loopO (fun (z8 : (Mem × Int32)) => l_X11_adds_94 x1 z8.1 z8.2) (σ3, 0) : Option Mem).bind (fun (z4 : Mem) => j_X11_adds_134 z4)
noncomputable def j_X11_adds_85 (i14 : Int32) (σ17 : Mem) : Option ((Mem × Int32) ⊕ Mem) :=
  some (Sum.inl (σ17, i14 + 1))
noncomputable def l_X11_adds_43 (x2 : Int32) (σ13 : Mem) (i14 : Int32) : Option ((Mem × Int32) ⊕ Mem) :=
  (f_X11_n σ13).bind (fun (v15 : Int32) => if v15 ≤ i14 then (some (Sum.inr σ13)) else ((f_X11_weight σ13 i14).bind (fun (v16 : Int32) => (if v16 = x2 then (gF σ13 306 31 (fun (v18 : Int32) => (f_X11_of σ13 50 i14).bind (fun (v19 : Int64) => pL σ13 320 ((18 * v18) + i14) v19 (fun (σ20 : Mem) => some σ20)))) else (some σ13) : Option Mem).bind (fun (z17 : Mem) => j_X11_adds_85 i14 z17))))
noncomputable def j_X11_adds_40 (x1 : Int32) (x2 : Int32) (σ2 : Mem) : Option Mem :=
  (loopO (fun (z14 : (Mem × Int32)) => l_X11_adds_43 x2 z14.1 z14.2) (σ2, 0) : Option Mem).bind (fun (z3 : Mem) => j_X11_adds_91 x1 z3)
noncomputable def l_X11_adds_11 (σ21 : Mem) (i22 : Int32) : Option ((Mem × Int32) ⊕ Mem) :=
  if 18 ≤ i22 then (some (Sum.inr σ21)) else (gF σ21 306 31 (fun (v23 : Int32) => pL σ21 320 ((18 * v23) + i22) 0 (fun (σ24 : Mem) => some (Sum.inl (σ24, i22 + 1)))))
noncomputable def f_X11_adds (σ : Mem) (x0 : Int32) (x1 : Int32) (x2 : Int32) : Option Mem :=
  (f_X11_commutator σ x0 x1 50).bind (fun (σ1 : Mem) => (loopO (fun (z22 : (Mem × Int32)) => l_X11_adds_11 z22.1 z22.2) (σ1, 0) : Option Mem).bind (fun (z2 : Mem) => j_X11_adds_40 x1 x2 z2))
noncomputable def f_X11_letterAt (σ : Mem) (x0 : Int32) (x1 : Int32) (x2 : Int64) : Option Mem :=
  (f_X11_ones σ x0).bind (fun (σ1 : Mem) => (f_X11_puts σ1 x0 x1 x2).bind (fun (σ2 : Mem) => some σ2))
noncomputable def j_X11_areAlikeUpTo_42 (i1 : Int32) : Option (Int32 ⊕ Bool) :=
  some (Sum.inl (i1 + 1))
noncomputable def l_X11_areAlikeUpTo_3 (σ : Mem) (x0 : Int32) (x1 : Int32) (x2 : Int32) (i1 : Int32) : Option (Int32 ⊕ Bool) :=
  (f_X11_n σ).bind (fun (v2 : Int32) => if v2 ≤ i1 then (some (Sum.inr true)) else ((f_X11_weight σ i1).bind (fun (v3 : Int32) => (if x0 < v3 then (some (Sum.inl ())) else ((f_X11_of σ x1 i1).bind (fun (v4 : Int64) => (f_X11_of σ x2 i1).bind (fun (v5 : Int64) => if v4 = v5 then (some (Sum.inl ())) else (some (Sum.inr (Sum.inr false)))))) : Option (Unit ⊕ (Int32 ⊕ Bool))).bind (Sum.elim (fun (z3 : Unit) => j_X11_areAlikeUpTo_42 i1) some))))
noncomputable def f_X11_areAlikeUpTo (σ : Mem) (x0 : Int32) (x1 : Int32) (x2 : Int32) : Option Bool :=
  loopO (fun (z1 : Int32) => l_X11_areAlikeUpTo_3 σ x0 x1 x2 z1) 0
noncomputable def j_X11_laysDue_68 (i3 : Int32) (σ6 : Mem) : Option ((Mem × Int32) ⊕ Mem) :=
  some (Sum.inl (σ6, i3 + 1))
noncomputable def l_X11_laysDue_27 (x0 : Int32) (x1 : Int32) (x2 : Int32) (σ2 : Mem) (i3 : Int32) : Option ((Mem × Int32) ⊕ Mem) :=
  (f_X11_n σ2).bind (fun (v4 : Int32) => if v4 ≤ i3 then (some (Sum.inr σ2)) else ((f_X11_weight σ2 i3).bind (fun (v5 : Int32) => (if v5 = x2 then ((f_X11_of σ2 x1 i3).bind (fun (v7 : Int64) => (f_X11_of σ2 x0 i3).bind (fun (v8 : Int64) => pL σ2 321 i3 (v7 - v8) (fun (σ9 : Mem) => some σ9)))) else (some σ2) : Option Mem).bind (fun (z6 : Mem) => j_X11_laysDue_68 i3 z6))))
noncomputable def j_X11_laysDue_24 (x0 : Int32) (x1 : Int32) (x2 : Int32) (σ1 : Mem) : Option Mem :=
  loopO (fun (z3 : (Mem × Int32)) => l_X11_laysDue_27 x0 x1 x2 z3.1 z3.2) (σ1, 0)
noncomputable def l_X11_laysDue_3 (σ10 : Mem) (i11 : Int32) : Option ((Mem × Int32) ⊕ Mem) :=
  if 18 ≤ i11 then (some (Sum.inr σ10)) else (pL σ10 321 i11 0 (fun (σ12 : Mem) => some (Sum.inl (σ12, i11 + 1))))
noncomputable def f_X11_laysDue (σ : Mem) (x0 : Int32) (x1 : Int32) (x2 : Int32) : Option Mem :=
  (loopO (fun (z11 : (Mem × Int32)) => l_X11_laysDue_3 z11.1 z11.2) (σ, 0) : Option Mem).bind (fun (z1 : Mem) => j_X11_laysDue_24 x0 x1 x2 z1)
noncomputable def j_X11_areAlikeInLast_117 (σ4 : Mem) : Option (Bool × Mem) :=
  (f_X11_laysDue σ4 2 1 3).bind (fun (σ5 : Mem) => bq (f_X11_canMake σ5) (fun (b6 : Bool) (σ7 : Mem) => some (b6, σ7)))
noncomputable def j_X11_areAlikeInLast_111 (i9 : Int32) (σ12 : Mem) : Option ((Mem × Int32) ⊕ Mem) :=
  some (Sum.inl (σ12, i9 + 1))
noncomputable def l_X11_areAlikeInLast_75 (σ8 : Mem) (i9 : Int32) : Option ((Mem × Int32) ⊕ Mem) :=
  (f_X11_n σ8).bind (fun (v10 : Int32) => if v10 ≤ i9 then (some (Sum.inr σ8)) else ((f_X11_weight σ8 i9).bind (fun (v11 : Int32) => (if v11 = 2 then ((f_X11_letterAt σ8 40 i9 1).bind (fun (σ13 : Mem) => (f_X11_adds σ13 2 40 3).bind (fun (σ14 : Mem) => some σ14))) else (some σ8) : Option Mem).bind (fun (z12 : Mem) => j_X11_areAlikeInLast_111 i9 z12))))
noncomputable def j_X11_areAlikeInLast_73 (σ3 : Mem) : Option (Bool × Mem) :=
  (loopO (fun (z9 : (Mem × Int32)) => l_X11_areAlikeInLast_75 z9.1 z9.2) (σ3, 0) : Option Mem).bind (fun (z4 : Mem) => j_X11_areAlikeInLast_117 z4)
noncomputable def j_X11_areAlikeInLast_59 (i16 : Int32) (σ18 : Mem) : Option ((Mem × Int32) ⊕ Mem) :=
  (f_X11_adds σ18 2 40 3).bind (fun (σ19 : Mem) => some (Sum.inl (σ19, i16 + 1)))
noncomputable def l_X11_areAlikeInLast_29 (i16 : Int32) (σ20 : Mem) (i21 : Int32) : Option ((Mem × Int32) ⊕ Mem) :=
  if 6 ≤ i21 then (some (Sum.inr σ20)) else (gL σ20 322 ((6 * i16) + i21) (fun (v22 : Int64) => (f_X11_puts σ20 40 i21 v22).bind (fun (σ23 : Mem) => some (Sum.inl (σ23, i21 + 1)))))
noncomputable def l_X11_areAlikeInLast_19 (σ15 : Mem) (i16 : Int32) : Option ((Mem × Int32) ⊕ Mem) :=
  gF σ15 306 36 (fun (v17 : Int32) => if v17 ≤ i16 then (some (Sum.inr σ15)) else ((loopO (fun (z21 : (Mem × Int32)) => l_X11_areAlikeInLast_29 i16 z21.1 z21.2) (σ15, 0) : Option Mem).bind (fun (z18 : Mem) => j_X11_areAlikeInLast_59 i16 z18)))
noncomputable def f_X11_areAlikeInLast (σ : Mem) : Option (Bool × Mem) :=
  (f_X11_areAlikeUpTo σ 2 2 1).bind (fun (b1 : Bool) => if b1 then pF σ 306 31 0 (fun (σ2 : Mem) => (loopO (fun (z16 : (Mem × Int32)) => l_X11_areAlikeInLast_19 z16.1 z16.2) (σ2, 0) : Option Mem).bind (fun (z3 : Mem) => j_X11_areAlikeInLast_73 z3)) else some (false, σ))
noncomputable def j_X11_areAlike_187 (σ11 : Mem) : Option (Bool × Mem) :=
  (f_X11_conjugates σ11 0 41 42).bind (fun (σ12 : Mem) => (f_X11_copies σ12 42 2).bind (fun (σ13 : Mem) => bq (f_X11_areAlikeInLast σ13) (fun (b14 : Bool) (σ15 : Mem) => some (b14, σ15))))
noncomputable def l_X11_areAlike_156 (σ16 : Mem) (i17 : Int32) : Option ((Mem × Int32) ⊕ Mem) :=
  (f_X11_n σ16).bind (fun (v18 : Int32) => if v18 ≤ i17 then (some (Sum.inr σ16)) else (gL σ16 321 (12 + i17) (fun (v19 : Int64) => (f_X11_puts σ16 41 i17 (-v19)).bind (fun (σ20 : Mem) => some (Sum.inl (σ20, i17 + 1))))))
noncomputable def j_X11_areAlike_148 (σ9 : Mem) : Option (Bool × Mem) :=
  (f_X11_ones σ9 41).bind (fun (σ10 : Mem) => (loopO (fun (z17 : (Mem × Int32)) => l_X11_areAlike_156 z17.1 z17.2) (σ10, 0) : Option Mem).bind (fun (z11 : Mem) => j_X11_areAlike_187 z11))
noncomputable def j_X11_areAlike_132 (i22 : Int32) (σ24 : Mem) : Option ((Mem × Int32) ⊕ Mem) :=
  gF σ24 306 36 (fun (v25 : Int32) => pF σ24 306 36 (v25 + 1) (fun (σ26 : Mem) => some (Sum.inl (σ26, i22 + 1))))
noncomputable def l_X11_areAlike_97 (i22 : Int32) (σ27 : Mem) (i28 : Int32) : Option ((Mem × Int32) ⊕ Mem) :=
  if 6 ≤ i28 then (some (Sum.inr σ27)) else (gF σ27 306 36 (fun (v29 : Int32) => (f_X11_ofColumn σ27 i22 (12 + i28)).bind (fun (v30 : Int64) => pL σ27 322 ((6 * v29) + i28) v30 (fun (σ31 : Mem) => some (Sum.inl (σ31, i28 + 1))))))
noncomputable def l_X11_areAlike_87 (σ21 : Mem) (i22 : Int32) : Option ((Mem × Int32) ⊕ Mem) :=
  gF σ21 306 31 (fun (v23 : Int32) => if v23 ≤ i22 then (some (Sum.inr σ21)) else ((loopO (fun (z28 : (Mem × Int32)) => l_X11_areAlike_97 i22 z28.1 z28.2) (σ21, 0) : Option Mem).bind (fun (z24 : Mem) => j_X11_areAlike_132 i22 z24)))
noncomputable def j_X11_areAlike_61 (σ3 : Mem) : Option (Bool × Mem) :=
  (f_X11_laysDue σ3 0 1 2).bind (fun (σ4 : Mem) => bq (f_X11_canMake σ4) (fun (b5 : Bool) (σ6 : Mem) => if b5 then pF σ6 306 36 0 (fun (σ7 : Mem) => gF σ7 306 34 (fun (v8 : Int32) => (loopO (fun (z22 : (Mem × Int32)) => l_X11_areAlike_87 z22.1 z22.2) (σ7, v8) : Option Mem).bind (fun (z9 : Mem) => j_X11_areAlike_148 z9))) else some (false, σ6)))
noncomputable def j_X11_areAlike_55 (i33 : Int32) (σ36 : Mem) : Option ((Mem × Int32) ⊕ Mem) :=
  some (Sum.inl (σ36, i33 + 1))
noncomputable def l_X11_areAlike_19 (σ32 : Mem) (i33 : Int32) : Option ((Mem × Int32) ⊕ Mem) :=
  (f_X11_n σ32).bind (fun (v34 : Int32) => if v34 ≤ i33 then (some (Sum.inr σ32)) else ((f_X11_weight σ32 i33).bind (fun (v35 : Int32) => (if v35 ≤ 1 then ((f_X11_letterAt σ32 40 i33 1).bind (fun (σ37 : Mem) => (f_X11_adds σ37 0 40 2).bind (fun (σ38 : Mem) => some σ38))) else (some σ32) : Option Mem).bind (fun (z36 : Mem) => j_X11_areAlike_55 i33 z36))))
noncomputable def f_X11_areAlike (σ : Mem) : Option (Bool × Mem) :=
  (f_X11_areAlikeUpTo σ 1 0 1).bind (fun (b1 : Bool) => if b1 then pF σ 306 31 0 (fun (σ2 : Mem) => (loopO (fun (z33 : (Mem × Int32)) => l_X11_areAlike_19 z33.1 z33.2) (σ2, 0) : Option Mem).bind (fun (z3 : Mem) => j_X11_areAlike_61 z3)) else some (false, σ))
noncomputable def j_X11_alike_99 (σ7 : Mem) : Option (Int32 × Mem) :=
  bq (f_X11_areAlike σ7) (fun (b8 : Bool) (σ9 : Mem) => if b8 then some (1, σ9) else some (0, σ9))
noncomputable def l_X11_alike_44 (σ7 : Mem) (i10 : Int32) : Option (Int32 ⊕ (Unit ⊕ (Int32 × Mem))) :=
  (f_X11_n σ7).bind (fun (v11 : Int32) => if v11 ≤ i10 then (some (Sum.inr (Sum.inl ()))) else ((f_X11_of σ7 0 i10).bind (fun (v12 : Int64) => (f_X11_isIn σ7 v12 (-30) 30).bind (fun (b13 : Bool) => if b13 then (f_X11_of σ7 1 i10).bind (fun (v14 : Int64) => (f_X11_isIn σ7 v14 (-30) 30).bind (fun (b15 : Bool) => if b15 then some (Sum.inl (i10 + 1)) else some (Sum.inr (Sum.inr ((-2), σ7))))) else some (Sum.inr (Sum.inr ((-2), σ7)))))))
noncomputable def f_X11_alike (σ : Mem) (x0 : Int32) (x1 : Int32) : Option (Int32 × Mem) :=
  pF σ 306 0 0 (fun (σ1 : Mem) => (f_X11_isRegister σ1 x0).bind (fun (b2 : Bool) => if b2 then (f_X11_isRegister σ1 x1).bind (fun (b3 : Bool) => if b3 then bq (f_X11_isConsistent σ1) (fun (b4 : Bool) (σ5 : Mem) => if b4 then (f_X11_laysRegister σ5 0 x0).bind (fun (σ6 : Mem) => (f_X11_laysRegister σ6 1 x1).bind (fun (σ7 : Mem) => (loopO (fun (z10 : Int32) => l_X11_alike_44 σ7 z10) 0 : Option (Unit ⊕ (Int32 × Mem))).bind (Sum.elim (fun (z7 : Unit) => j_X11_alike_99 σ7) some))) else some ((-1), σ5)) else some ((-1), σ1)) else some ((-1), σ1)))
noncomputable def j_X11_powers_96 (x1 : Int32) (x2 : Int32) (l10 : Int64) (i11 : Int32) (σ12 : Mem) (l13 : Int64) : Option ((Mem × Int64 × Int32) ⊕ (Int64 × Mem)) :=
  (f_X11_choose σ12 x2 i11).bind (fun (v14 : Int64) => (f_X11_of σ12 1 (x1 - 1)).bind (fun (v15 : Int64) => bd (l10 + ((l13 * v14) * v15)) (fun (v16 : Int64) => some (Sum.inl (σ12, v16, i11 + 1)))))
noncomputable def l_X11_powers_64 (x1 : Int32) (x2 : Int32) (σ9 : Mem) (l10 : Int64) (i11 : Int32) : Option ((Mem × Int64 × Int32) ⊕ (Int64 × Mem)) :=
  if x2 < i11 then (some (Sum.inr (l10, σ9))) else ((f_X11_raises σ9 0 1 i11).bind (fun (σ12 : Mem) => nzI 2 ((if ((x2 - i11) - (x2 - i11) / 2 * 2) = 0 then (some 1) else (some (-1)) : Option Int64).bind (fun (z13 : Int64) => j_X11_powers_96 x1 x2 l10 i11 σ12 z13))))
noncomputable def f_X11_powers (σ : Mem) (x0 : Int32) (x1 : Int32) (x2 : Int32) : Option (Int64 × Mem) :=
  pF σ 306 0 0 (fun (σ1 : Mem) => (f_X11_isRegister σ1 x0).bind (fun (b2 : Bool) => if b2 then bq (f_X11_isConsistent σ1) (fun (b3 : Bool) (σ4 : Mem) => if b3 then (f_X11_n σ4).bind (fun (v5 : Int32) => (f_X11_isIn σ4 (Int32.toInt64 x1) 1 (Int32.toInt64 v5)).bind (fun (b6 : Bool) => if b6 then (f_X11_isIn σ4 (Int32.toInt64 x2) 0 3).bind (fun (b7 : Bool) => if b7 then (f_X11_laysRegister σ4 0 x0).bind (fun (σ8 : Mem) => loopO (fun (z11 : (Mem × Int64 × Int32)) => l_X11_powers_64 x1 x2 z11.1 z11.2.1 z11.2.2) (σ8, 0, 0)) else some ((-100000000000000), σ4)) else some ((-100000000000000), σ4))) else some ((-100000000000000), σ4)) else some ((-100000000000000), σ1)))
noncomputable def f_X11_associates (σ : Mem) (x0 : Int32) (x1 : Int32) (x2 : Int32) : Option (Int32 × Mem) :=
  pF σ 306 0 0 (fun (σ1 : Mem) => (f_X11_isRegister σ1 x0).bind (fun (b2 : Bool) => if b2 then (f_X11_isRegister σ1 x1).bind (fun (b3 : Bool) => if b3 then (f_X11_isRegister σ1 x2).bind (fun (b4 : Bool) => if b4 then bq (f_X11_isConsistent σ1) (fun (b5 : Bool) (σ6 : Mem) => if b5 then (f_X11_laysRegister σ6 0 x0).bind (fun (σ7 : Mem) => (f_X11_laysRegister σ7 1 x1).bind (fun (σ8 : Mem) => (f_X11_laysRegister σ8 2 x2).bind (fun (σ9 : Mem) => (f_X11_copies σ9 0 3).bind (fun (σ10 : Mem) => (f_X11_times σ10 3 1).bind (fun (σ11 : Mem) => (f_X11_times σ11 3 2).bind (fun (σ12 : Mem) => (f_X11_copies σ12 1 4).bind (fun (σ13 : Mem) => (f_X11_times σ13 4 2).bind (fun (σ14 : Mem) => (f_X11_times σ14 0 4).bind (fun (σ15 : Mem) => (f_X11_areSame σ15 0 3).bind (fun (b16 : Bool) => if b16 then some (1, σ15) else some (0, σ15))))))))))) else some ((-1), σ6)) else some ((-1), σ1)) else some ((-1), σ1)) else some ((-1), σ1)))
noncomputable def j_X11_image_167 (σ4 : Mem) : Option (Bool × Mem) :=
  gI σ4 323 289 (fun (v5 : Int32) => pF σ4 306 27 v5 (fun (σ6 : Mem) => gI σ6 323 290 (fun (v7 : Int32) => pF σ6 306 4 v7 (fun (σ8 : Mem) => pF σ8 306 3 0 (fun (σ9 : Mem) => pF σ9 306 9 0 (fun (σ10 : Mem) => some (true, σ10)))))))
noncomputable def l_X11_image_139 (σ11 : Mem) (i12 : Int32) : Option ((Mem × Int32) ⊕ Mem) :=
  if 6 ≤ i12 then (some (Sum.inr σ11)) else (gI σ11 323 (283 + i12) (fun (v13 : Int32) => pI σ11 318 i12 v13 (fun (σ14 : Mem) => some (Sum.inl (σ14, i12 + 1)))))
noncomputable def j_X11_image_137 (σ3 : Mem) : Option (Bool × Mem) :=
  (loopO (fun (z12 : (Mem × Int32)) => l_X11_image_139 z12.1 z12.2) (σ3, 0) : Option Mem).bind (fun (z4 : Mem) => j_X11_image_167 z4)
noncomputable def l_X11_image_112 (σ15 : Mem) (i16 : Int32) : Option ((Mem × Int32) ⊕ Mem) :=
  if 283 ≤ i16 then (some (Sum.inr σ15)) else (gI σ15 323 i16 (fun (v17 : Int32) => pI σ15 307 i16 v17 (fun (σ18 : Mem) => some (Sum.inl (σ18, i16 + 1)))))
noncomputable def j_X11_image_84 (σ20 : Mem) : Option (Bool × Mem) :=
  gF σ20 306 27 (fun (v21 : Int32) => pI σ20 323 289 v21 (fun (σ22 : Mem) => gF σ22 306 4 (fun (v23 : Int32) => pI σ22 323 290 v23 (fun (σ24 : Mem) => some (true, σ24)))))
noncomputable def l_X11_image_56 (σ25 : Mem) (i26 : Int32) : Option ((Mem × Int32) ⊕ Mem) :=
  if 6 ≤ i26 then (some (Sum.inr σ25)) else (gI σ25 318 i26 (fun (v27 : Int32) => pI σ25 323 (283 + i26) v27 (fun (σ28 : Mem) => some (Sum.inl (σ28, i26 + 1)))))
noncomputable def j_X11_image_54 (σ19 : Mem) : Option (Bool × Mem) :=
  (loopO (fun (z26 : (Mem × Int32)) => l_X11_image_56 z26.1 z26.2) (σ19, 0) : Option Mem).bind (fun (z20 : Mem) => j_X11_image_84 z20)
noncomputable def l_X11_image_29 (σ29 : Mem) (i30 : Int32) : Option ((Mem × Int32) ⊕ Mem) :=
  if 283 ≤ i30 then (some (Sum.inr σ29)) else (gI σ29 307 i30 (fun (v31 : Int32) => pI σ29 323 i30 v31 (fun (σ32 : Mem) => some (Sum.inl (σ32, i30 + 1)))))
noncomputable def j_X11_image_18 (x0 : Bool) (σ1 : Mem) : Option (Bool × Mem) :=
  pF σ1 306 37 1 (fun (σ2 : Mem) => if x0 then (loopO (fun (z30 : (Mem × Int32)) => l_X11_image_29 z30.1 z30.2) (σ2, 0) : Option Mem).bind (fun (z19 : Mem) => j_X11_image_54 z19) else (loopO (fun (z16 : (Mem × Int32)) => l_X11_image_112 z16.1 z16.2) (σ2, 0) : Option Mem).bind (fun (z3 : Mem) => j_X11_image_137 z3))
noncomputable def f_X11_image (σ : Mem) (x0 : Bool) : Option (Bool × Mem) :=
  pF σ 306 0 0 (fun (σ1 : Mem) => (if x0 then some (Sum.inl ()) else gZ σ1 306 37 (fun (b33 : Bool) => if b33 then some (Sum.inl ()) else some (Sum.inr (false, σ1))) : Option (Unit ⊕ (Bool × Mem))).bind (Sum.elim (fun (z1 : Unit) => j_X11_image_18 x0 σ1) some))
noncomputable def j_X11_tails_25 (i2 : Int32) (i4 : Int32) : Option ((Int32 × Int32) ⊕ Int32) :=
  some (Sum.inl (i4, i2 + 1))
noncomputable def l_X11_tails_5 (σ : Mem) (i1 : Int32) (i2 : Int32) : Option ((Int32 × Int32) ⊕ Int32) :=
  if 223 ≤ i2 then (some (Sum.inr i1)) else (gI σ 307 i2 (fun (v3 : Int32) => (if v3 ≤ 0 then (some i1) else (bd (i1 + 1) (fun (v5 : Int32) => some v5)) : Option Int32).bind (fun (z4 : Int32) => j_X11_tails_25 i2 z4)))
noncomputable def f_X11_tails (σ : Mem) : Option Int32 :=
  loopO (fun (z2 : (Int32 × Int32)) => l_X11_tails_5 σ z2.1 z2.2) (0, 7)
noncomputable def l_X11_termsOfAll_8 (σ1 : Mem) (i2 : Int32) (i3 : Int32) : Option ((Int32 × Int32) ⊕ (Int32 × Mem)) :=
  if 6 ≤ i3 then (some (Sum.inr (i2, σ1))) else (gI σ1 311 i3 (fun (v4 : Int32) => bd (i2 + v4) (fun (v5 : Int32) => some (Sum.inl (v5, i3 + 1)))))
noncomputable def f_X11_termsOfAll (σ : Mem) : Option (Int32 × Mem) :=
  (f_X11_lays σ).bind (fun (σ1 : Mem) => loopO (fun (z3 : (Int32 × Int32)) => l_X11_termsOfAll_8 σ1 z3.1 z3.2) (0, 0))
noncomputable def j_X11_notOnes_30 (i3 : Int32) (σ4 : Mem) (i6 : Int32) : Option ((Mem × Int32 × Int32) ⊕ (Int32 × Mem)) :=
  some (Sum.inl (σ4, i6, i3 + 1))
noncomputable def l_X11_notOnes_4 (σ1 : Mem) (i2 : Int32) (i3 : Int32) : Option ((Mem × Int32 × Int32) ⊕ (Int32 × Mem)) :=
  if 10 ≤ i3 then (some (Sum.inr (i2, σ1))) else ((f_X11_laysRegister σ1 0 i3).bind (fun (σ4 : Mem) => (f_X11_isOne σ4 0).bind (fun (b5 : Bool) => (if b5 then some i2 else bd (i2 ||| (1 <<< (i3 &&& 31))) (fun (v7 : Int32) => some v7) : Option Int32).bind (fun (z6 : Int32) => j_X11_notOnes_30 i3 σ4 z6))))
noncomputable def f_X11_notOnes (σ : Mem) : Option (Int32 × Mem) :=
  loopO (fun (z3 : (Mem × Int32 × Int32)) => l_X11_notOnes_4 z3.1 z3.2.1 z3.2.2) (σ, 0, 0)
noncomputable def j_X11_centrals_33 (i3 : Int32) (σ8 : Mem) (i9 : Int32) : Option ((Mem × Int32 × Int32) ⊕ (Int32 × Mem)) :=
  some (Sum.inl (σ8, i9, i3 + 1))
noncomputable def l_X11_centrals_4 (σ1 : Mem) (i2 : Int32) (i3 : Int32) : Option ((Mem × Int32 × Int32) ⊕ (Int32 × Mem)) :=
  (f_X11_n σ1).bind (fun (v4 : Int32) => if v4 ≤ i3 then (some (Sum.inr (i2, σ1))) else (bq (f_X11_isConsistent σ1) (fun (b5 : Bool) (σ6 : Mem) => if b5 then bq (f_X11_isCentralLetter σ6 i3) (fun (b7 : Bool) (σ8 : Mem) => (if b7 then bd (i2 ||| (1 <<< (i3 &&& 31))) (fun (v10 : Int32) => some v10) else some i2 : Option Int32).bind (fun (z9 : Int32) => j_X11_centrals_33 i3 σ8 z9)) else some (Sum.inr (i2, σ6)))))
noncomputable def f_X11_centrals (σ : Mem) : Option (Int32 × Mem) :=
  loopO (fun (z3 : (Mem × Int32 × Int32)) => l_X11_centrals_4 z3.1 z3.2.1 z3.2.2) (σ, 0, 0)
noncomputable def f_X11_look (σ : Mem) (x0 : Int32) : Option (Int32 × Mem) :=
  pF σ 306 0 0 (fun (σ1 : Mem) => if x0 = 0 then ((f_X11_n σ1).bind (fun (v15 : Int32) => some (v15, σ1))) else (if x0 = 1 then ((f_X11_level σ1).bind (fun (v14 : Int32) => some (v14, σ1))) else (if x0 = 2 then (bq (f_X11_isConsistent σ1) (fun (b12 : Bool) (σ13 : Mem) => if b12 then some (1, σ13) else some (0, σ13))) else (if x0 = 3 then ((f_X11_tails σ1).bind (fun (v11 : Int32) => some (v11, σ1))) else (if x0 = 4 then (bq (f_X11_termsOfAll σ1) (fun (v9 : Int32) (σ10 : Mem) => some (v9, σ10))) else (if x0 = 5 then (bq (f_X11_notOnes σ1) (fun (v7 : Int32) (σ8 : Mem) => some (v7, σ8))) else (if x0 = 6 then (gF σ1 306 3 (fun (v6 : Int32) => some (v6, σ1))) else (if x0 = 7 then (gF σ1 306 18 (fun (v5 : Int32) => some (v5, σ1))) else (if x0 = 8 then (gF σ1 306 4 (fun (v4 : Int32) => some (v4, σ1))) else (if x0 = 9 then (bq (f_X11_centrals σ1) (fun (v2 : Int32) (σ3 : Mem) => some (v2, σ3))) else (some ((-1), σ1))))))))))))
def Ok_0 (I : Nat → Mem → Prop) : Prop := ∀ (c : Nat) (σ : Mem) (x0 : Int32) (x1 : Int32), c < 520 → I c σ → ∃ (r : Bool) (σ1 : Mem) (σ2 : Mem), f_X10_group σ x0 x1 = some (r, σ1) ∧ f_X11_group σ1 x0 x1 = some (r, σ2) ∧ I (c + 1) σ2
def Ok_1 (I : Nat → Mem → Prop) : Prop := ∀ (c : Nat) (σ : Mem) (x0 : Int32) (x1 : Int32) (x2 : Int32) (x3 : Int32), c < 520 → I c σ → ∃ (r : Bool) (σ1 : Mem) (σ2 : Mem), f_X10_tail σ x0 x1 x2 x3 = some (r, σ1) ∧ f_X11_tail_ σ1 x0 x1 x2 x3 = some (r, σ2) ∧ I (c + 1) σ2
def Ok_2 (I : Nat → Mem → Prop) : Prop := ∀ (c : Nat) (σ : Mem) (x0 : Int32), c < 520 → I c σ → ∃ (r : Bool) (σ1 : Mem) (σ2 : Mem), f_X10_kind σ x0 = some (r, σ1) ∧ f_X11_kind σ1 x0 = some (r, σ2) ∧ I (c + 1) σ2
def Ok_3 (I : Nat → Mem → Prop) : Prop := ∀ (c : Nat) (σ : Mem) (x0 : Int32) (x1 : Int32) (x2 : Int32), c < 520 → I c σ → ∃ (r : Bool) (σ1 : Mem) (σ2 : Mem), f_X10_set σ x0 x1 x2 = some (r, σ1) ∧ f_X11_set σ1 x0 x1 x2 = some (r, σ2) ∧ I (c + 1) σ2
def Ok_4 (I : Nat → Mem → Prop) : Prop := ∀ (c : Nat) (σ : Mem) (x0 : Int32) (x1 : Int32) (x2 : Int32), c < 520 → I c σ → ∃ (r : Bool) (σ1 : Mem) (σ2 : Mem), f_X10_multiply σ x0 x1 x2 = some (r, σ1) ∧ f_X11_multiply σ1 x0 x1 x2 = some (r, σ2) ∧ I (c + 1) σ2
def Ok_5 (I : Nat → Mem → Prop) : Prop := ∀ (c : Nat) (σ : Mem) (x0 : Int32) (x1 : Int32), c < 520 → I c σ → ∃ (r : Bool) (σ1 : Mem) (σ2 : Mem), f_X10_invert σ x0 x1 = some (r, σ1) ∧ f_X11_invert σ1 x0 x1 = some (r, σ2) ∧ I (c + 1) σ2
def Ok_6 (I : Nat → Mem → Prop) : Prop := ∀ (c : Nat) (σ : Mem) (x0 : Int32) (x1 : Int32) (x2 : Int32), c < 520 → I c σ → ∃ (r : Bool) (σ1 : Mem) (σ2 : Mem), f_X10_power σ x0 x1 x2 = some (r, σ1) ∧ f_X11_power σ1 x0 x1 x2 = some (r, σ2) ∧ I (c + 1) σ2
def Ok_7 (I : Nat → Mem → Prop) : Prop := ∀ (c : Nat) (σ : Mem) (x0 : Int32) (x1 : Int32) (x2 : Int32), c < 520 → I c σ → ∃ (r : Bool) (σ1 : Mem) (σ2 : Mem), f_X10_commute σ x0 x1 x2 = some (r, σ1) ∧ f_X11_commute σ1 x0 x1 x2 = some (r, σ2) ∧ I (c + 1) σ2
def Ok_8 (I : Nat → Mem → Prop) : Prop := ∀ (c : Nat) (σ : Mem) (x0 : Int32) (x1 : Int32) (x2 : Int32), c < 520 → I c σ → ∃ (r : Bool) (σ1 : Mem) (σ2 : Mem), f_X10_conjugate σ x0 x1 x2 = some (r, σ1) ∧ f_X11_conjugate σ1 x0 x1 x2 = some (r, σ2) ∧ I (c + 1) σ2
def Ok_9 (I : Nat → Mem → Prop) : Prop := ∀ (c : Nat) (σ : Mem) (x0 : Int32) (x1 : Int32) (x2 : Int32), c < 520 → I c σ → ∃ (r : Bool) (σ1 : Mem) (σ2 : Mem), f_X10_root σ x0 x1 x2 = some (r, σ1) ∧ f_X11_root σ1 x0 x1 x2 = some (r, σ2) ∧ I (c + 1) σ2
def Ok_10 (I : Nat → Mem → Prop) : Prop := ∀ (c : Nat) (σ : Mem) (x0 : Int32) (x1 : Int32) (x2 : Int32) (x3 : Int32), c < 520 → I c σ → ∃ (r : Bool) (σ1 : Mem) (σ2 : Mem), f_X10_seek σ x0 x1 x2 x3 = some (r, σ1) ∧ f_X11_seek σ1 x0 x1 x2 x3 = some (r, σ2) ∧ I (c + 1) σ2
def Ok_11 (I : Nat → Mem → Prop) : Prop := ∀ (c : Nat) (σ : Mem) (x0 : Int32) (x1 : Int32) (x2 : Int32) (x3 : Int32) (x4 : Int32), c < 520 → I c σ → ∃ (r : Int32) (σ1 : Mem) (σ2 : Mem), f_X10_feed σ x0 x1 x2 x3 x4 = some (r, σ1) ∧ f_X11_feed σ1 x0 x1 x2 x3 x4 = some (r, σ2) ∧ I (c + 1) σ2
def Ok_12 (I : Nat → Mem → Prop) : Prop := ∀ (c : Nat) (σ : Mem) (x0 : Int32), c < 520 → I c σ → ∃ (r : Bool) (σ1 : Mem) (σ2 : Mem), f_X10_end σ x0 = some (r, σ1) ∧ f_X11_end σ1 x0 = some (r, σ2) ∧ I (c + 1) σ2
def Ok_13 (I : Nat → Mem → Prop) : Prop := ∀ (c : Nat) (σ : Mem) (x0 : Int32), c < 520 → I c σ → ∃ (r : Bool) (σ1 : Mem) (σ2 : Mem), f_X10_text σ x0 = some (r, σ1) ∧ f_X11_text σ1 x0 = some (r, σ2) ∧ I (c + 1) σ2
def Ok_14 (I : Nat → Mem → Prop) : Prop := ∀ (c : Nat) (σ : Mem) (x0 : Int32), c < 520 → I c σ → ∃ (r : Int32) (σ2 : Mem), f_X10_fault σ x0 = some r ∧ f_X11_fault σ x0 = some (r, σ2) ∧ I (c + 1) σ2
def Ok_15 (I : Nat → Mem → Prop) : Prop := ∀ (c : Nat) (σ : Mem), c < 520 → I c σ → ∃ (r : Int32) (σ1 : Mem) (σ2 : Mem), f_X10_collect σ = some (r, σ1) ∧ f_X11_collect σ1 = some (r, σ2) ∧ I (c + 1) σ2
def Ok_16 (I : Nat → Mem → Prop) : Prop := ∀ (c : Nat) (σ : Mem) (x0 : Int32), c < 520 → I c σ → ∃ (r : Int32) (σ2 : Mem), f_X10_collected σ x0 = some r ∧ f_X11_collected σ x0 = some (r, σ2) ∧ I (c + 1) σ2
def Ok_17 (I : Nat → Mem → Prop) : Prop := ∀ (c : Nat) (σ : Mem), c < 520 → I c σ → ∃ (r : Int32) (σ2 : Mem), f_X10_consistent σ = some r ∧ f_X11_consistent σ = some (r, σ2) ∧ I (c + 1) σ2
def Ok_18 (I : Nat → Mem → Prop) : Prop := ∀ (c : Nat) (σ : Mem) (x0 : Int32) (x1 : Int32), c < 520 → I c σ → ∃ (r : Int32) (σ2 : Mem), f_X10_exponent σ x0 x1 = some r ∧ f_X11_exponent σ x0 x1 = some (r, σ2) ∧ I (c + 1) σ2
def Ok_19 (I : Nat → Mem → Prop) : Prop := ∀ (c : Nat) (σ : Mem) (x0 : Int32) (x1 : Int32), c < 520 → I c σ → ∃ (r : Int32) (σ2 : Mem), f_X10_generator σ x0 x1 = some r ∧ f_X11_generator σ x0 x1 = some (r, σ2) ∧ I (c + 1) σ2
def Ok_20 (I : Nat → Mem → Prop) : Prop := ∀ (c : Nat) (σ : Mem) (x0 : Int32) (x1 : Int32) (x2 : Int32), c < 520 → I c σ → ∃ (r : Int32) (σ2 : Mem), f_X10_tailOf σ x0 x1 x2 = some r ∧ f_X11_tailOf σ x0 x1 x2 = some (r, σ2) ∧ I (c + 1) σ2
def Ok_21 (I : Nat → Mem → Prop) : Prop := ∀ (c : Nat) (σ : Mem) (x0 : Int32), c < 520 → I c σ → ∃ (r : Int32) (σ2 : Mem), f_X10_terms σ x0 = some r ∧ f_X11_terms σ x0 = some (r, σ2) ∧ I (c + 1) σ2
def Ok_22 (I : Nat → Mem → Prop) : Prop := ∀ (c : Nat) (σ : Mem) (x0 : Int32) (x1 : Int32) (x2 : Int32), c < 520 → I c σ → ∃ (r : Int32) (σ2 : Mem), f_X10_term σ x0 x1 x2 = some r ∧ f_X11_term σ x0 x1 x2 = some (r, σ2) ∧ I (c + 1) σ2
def Ok_23 (I : Nat → Mem → Prop) : Prop := ∀ (c : Nat) (σ : Mem) (x0 : Int32) (x1 : Int32), c < 520 → I c σ → ∃ (r : Int32) (σ1 : Mem) (σ2 : Mem), f_X10_register σ x0 x1 = some (r, σ1) ∧ f_X11_register σ1 x0 x1 = some (r, σ2) ∧ I (c + 1) σ2
def Ok_24 (I : Nat → Mem → Prop) : Prop := ∀ (c : Nat) (σ : Mem) (x0 : Int32) (x1 : Int32) (x2 : Int32), c < 520 → I c σ → ∃ (r : Int32) (σ1 : Mem) (σ2 : Mem), f_X10_both σ x0 x1 x2 = some (r, σ1) ∧ f_X11_both σ1 x0 x1 x2 = some (r, σ2) ∧ I (c + 1) σ2
def Ok_25 (I : Nat → Mem → Prop) : Prop := ∀ (c : Nat) (σ : Mem) (x0 : Int32) (x1 : Int32), c < 520 → I c σ → ∃ (r : Int32) (σ1 : Mem) (σ2 : Mem), f_X10_alike σ x0 x1 = some (r, σ1) ∧ f_X11_alike σ1 x0 x1 = some (r, σ2) ∧ I (c + 1) σ2
def Ok_26 (I : Nat → Mem → Prop) : Prop := ∀ (c : Nat) (σ : Mem) (x0 : Int32) (x1 : Int32), c < 520 → I c σ → ∃ (r : Int32) (σ2 : Mem), f_X10_shape σ x0 x1 = some r ∧ f_X11_shape σ x0 x1 = some (r, σ2) ∧ I (c + 1) σ2
def Ok_27 (I : Nat → Mem → Prop) : Prop := ∀ (c : Nat) (σ : Mem) (x0 : Int32) (x1 : Int32) (x2 : Int32), c < 520 → I c σ → ∃ (r : Int64) (σ1 : Mem) (σ2 : Mem), f_X10_powers σ x0 x1 x2 = some (r, σ1) ∧ f_X11_powers σ1 x0 x1 x2 = some (r, σ2) ∧ I (c + 1) σ2
def Ok_28 (I : Nat → Mem → Prop) : Prop := ∀ (c : Nat) (σ : Mem) (x0 : Int32) (x1 : Int32) (x2 : Int32), c < 520 → I c σ → ∃ (r : Int32) (σ1 : Mem) (σ2 : Mem), f_X10_associates σ x0 x1 x2 = some (r, σ1) ∧ f_X11_associates σ1 x0 x1 x2 = some (r, σ2) ∧ I (c + 1) σ2
def Ok_29 (I : Nat → Mem → Prop) : Prop := ∀ (c : Nat) (σ : Mem) (x0 : Int32), c < 520 → I c σ → ∃ (r : Int32) (σ1 : Mem) (σ2 : Mem), f_X10_ball σ x0 = some (r, σ1) ∧ f_X11_ball σ1 x0 = some (r, σ2) ∧ I (c + 1) σ2
def Ok_30 (I : Nat → Mem → Prop) : Prop := ∀ (c : Nat) (σ : Mem), c < 520 → I c σ → ∃ (r : Int32) (σ1 : Mem) (σ2 : Mem), f_X10_undo σ = some (r, σ1) ∧ f_X11_undo σ1 = some (r, σ2) ∧ I (c + 1) σ2
def Ok_31 (I : Nat → Mem → Prop) : Prop := ∀ (c : Nat) (σ : Mem) (x0 : Bool), c < 520 → I c σ → ∃ (r : Bool) (σ1 : Mem) (σ2 : Mem), f_X10_image σ x0 = some (r, σ1) ∧ f_X11_image σ1 x0 = some (r, σ2) ∧ I (c + 1) σ2
def Ok_32 (I : Nat → Mem → Prop) : Prop := ∀ (c : Nat) (σ : Mem) (x0 : Int32), c < 520 → I c σ → ∃ (r : Int32) (σ2 : Mem), f_X10_look σ x0 = some r ∧ f_X11_look σ x0 = some (r, σ2) ∧ I (c + 1) σ2
def zM : Mem := (fun _ _ => 0, fun _ _ => 0)
def trim (σ : Mem) (n : Nat) : Mem := (fun x y => if x < n then σ.1 x y else 0, fun x y => if x < n then σ.2 x y else 0)
def Start (I : Nat → Mem → Prop) : Prop := ∃ σ1 σ2 σ3 : Mem, f_X6_takeKind (wI zM 144 1 (-1)) 2 0 = some σ1 ∧ f_X4_follow σ1 2 = some σ2 ∧ f_X11_plain (wI (wI (trim σ2 306) 306 20 (-1)) 306 24 (-1)) = some σ3 ∧ I 0 σ3
theorem n32 {a : Nat} (h : a < 2 ^ 31) : (Int32.ofNat a).toNatClampNeg = a := by
  have h1 : (Int32.ofNat a).toInt = a := Int32.toInt_ofNat_small h
  rw [Int32.toNatClampNeg, h1]; rfl
theorem vpin {a n : Nat} (h : a < n) (hn : n < 2 ^ 31) : vp_in (Int32.ofNat a) n := by
  have h1 : (Int32.ofNat a).toInt = a := Int32.toInt_ofNat_small (by omega)
  rintro (q | q)
  · have := Int32.lt_iff_toInt_lt.mp q
    rw [h1] at this
    have h0 : (0 : Int32).toInt = 0 := by decide
    omega
  · rw [n32 (by omega)] at q
    omega
theorem ofNat_add {a b : Nat} : Int32.ofNat a + Int32.ofNat b = Int32.ofNat (a + b) := (Int32.ofNat_add a b).symm
