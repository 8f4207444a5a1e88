/-! powers of one letter add; a word sorted twice is a product -/
section TA
variable {G : GD}
theorem TL_add (hG : GOK G) {v : Nat → Int} {i : Nat} {x y : Int} (hi : i < gn G) (m : Nat) : TL G (TL G v i x) i y m = TL G v i (x + y) m := by
  have hone : ∀ q, i < q → gw G q ≤ 1 → TL G v i x q = v q := fun q hq hw => by
    rw [TL_eq hG hi, if_neg (by omega), addL_low hG (by omega), sm_zero]
    · omega
    · intro p hp
      by_cases h : tI G p i q = 0
      · rw [h]; simp
      · have h1 := tI_ne hG h
        have w1 := (hG.2.2.1 i (by omega)).1
        have w2 := (hG.2.2.1 p (by omega)).1
        omega
  have hdd : ∀ j q, DD G m j i q ≠ 0 → i < j ∧ gw G j = 1 := fun j q h => by
    have h2 : i < j ∧ gw G i = 1 ∧ gw G j = 1 ∧ gw G q = 1 ∧ gw G m = 3 ∧ j < gn G := Classical.byContradiction (fun z => h (DD_0 hG z))
    exact ⟨h2.1, h2.2.2.1⟩
  have htwo : ∀ j, j < gn G → tI G j i m * TL G v i x j * y = tI G j i m * v j * y + sm (fun p => tI G p i j * tI G j i m * (v p * (x * y))) (gn G) := fun j hj => by
    by_cases h : tI G j i m = 0
    · rw [h, sm_zero (fun p _ => by simp)]; simp
    · have h1 := tI_ne hG h
      have w4 := (hG.2.2.1 m (by omega)).2
      have w1 := (hG.2.2.1 i hi).1
      rw [TL_eq hG hi, if_neg (by omega), addL_low hG (by omega), Int.add_zero, Int.mul_add, Int.add_mul]
      congr 1
      rw [sm_mul, sm_mulr]
      refine sm_congr (fun p _ => ?_)
      simp only [Int.mul_assoc, Int.mul_comm, Int.mul_left_comm]
  rw [TL_eq hG hi, TL_eq hG hi (v := v) (y := x), TL_eq hG hi (v := v) (y := x + y)]
  have key : addL G (TL G v i x) i y m = addL G v i (x + y) m - addL G v i x m := by
    have e0 : addL G (TL G v i x) i y m + addL G v i x m = addL G v i (x + y) m := by
      unfold addL
      have e1 : sm (fun j => sm (fun p => tI G p i j * tI G j i m * (v p * (x * y))) (gn G)) (gn G) = sm (fun j => DD G m j i i * v j * (x * y)) (gn G) := by
        rw [sm_swap]
        refine sm_congr (fun p _ => ?_)
        unfold DD
        rw [sm_mulr, sm_mulr]
        refine sm_congr (fun j _ => ?_)
        simp only [Int.mul_assoc]
      have e2 : ∀ j, j < gn G → (tI G j i m * TL G v i x j * y + (DD G m j i i * TL G v i x j * two y + DD G m j i j * y * two (TL G v i x j) + sm (fun q => if j < q then DD G m j i q * TL G v i x j * TL G v i x q * y else 0) (gn G))) = tI G j i m * v j * y + sm (fun p => tI G p i j * tI G j i m * (v p * (x * y))) (gn G) + (DD G m j i i * v j * two y + DD G m j i j * y * two (v j) + sm (fun q => if j < q then DD G m j i q * v j * v q * y else 0) (gn G)) := fun j hj => by
        rw [htwo j hj]
        congr 1
        by_cases hc : i < j ∧ gw G j = 1
        · rw [hone j hc.1 (by omega)]
          congr 1
          refine sm_congr (fun q _ => ?_)
          by_cases h1 : j < q
          · rw [if_pos h1, if_pos h1]
            by_cases h2 : DD G m j i q = 0
            · rw [h2]; simp
            · have h3 : i < j ∧ gw G i = 1 ∧ gw G j = 1 ∧ gw G q = 1 ∧ gw G m = 3 ∧ j < gn G := Classical.byContradiction (fun z => h2 (DD_0 hG z))
              rw [hone q (by omega) (by omega)]
          · rw [if_neg h1, if_neg h1]
        · have d : ∀ q, DD G m j i q = 0 := fun q => Classical.byContradiction (fun z => hc (hdd j q z))
          rw [d, d]
          rw [sm_zero (fun q _ => by rw [d]; split <;> simp), sm_zero (fun q _ => by rw [d]; split <;> simp)]
          simp
      rw [sm_congr e2, ← sm_add, ← sm_add, e1, sm_add, sm_add, sm_add]
      refine sm_congr (fun j _ => ?_)
      have e3 : sm (fun q => if j < q then DD G m j i q * v j * v q * y else 0) (gn G) + sm (fun q => if j < q then DD G m j i q * v j * v q * x else 0) (gn G) = sm (fun q => if j < q then DD G m j i q * v j * v q * (x + y) else 0) (gn G) := by
        rw [sm_add]
        refine sm_congr (fun q _ => ?_)
        split
        · rw [Int.mul_add]; omega
        · rfl
      rw [← e3, two_add]
      simp only [Int.mul_add, Int.add_mul]
      omega
    omega
  rw [key]
  by_cases h : m = i
  · rw [if_pos h, if_pos h, if_pos h]; omega
  · rw [if_neg h, if_neg h, if_neg h]; omega
end TA

