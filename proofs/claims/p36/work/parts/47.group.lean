/-! the product in one formula -/
section GR
variable {G : GD}
/-- two tails one behind the other -/
def DD (G : GD) (m j i q : Nat) : Int := sm (fun k => tI G j i k * tI G k q m) (gn G)
theorem tI_ne (hG : GOK G) {j i k : Nat} (h : tI G j i k ≠ 0) : i < j ∧ j < k ∧ k < gn G ∧ gw G i + gw G j ≤ gw G k := hG.2.2.2.2.2.2 j i k (fun q => h (by unfold tI; rw [q]; rfl))
theorem DD_0 (hG : GOK G) {m j i q : Nat} (h : ¬ (i < j ∧ gw G i = 1 ∧ gw G j = 1 ∧ gw G q = 1 ∧ gw G m = 3 ∧ j < gn G)) : DD G m j i q = 0 := by
  unfold DD
  refine sm_zero (fun k hk => ?_)
  by_cases h1 : tI G j i k = 0
  · rw [h1, Int.zero_mul]
  · by_cases h2 : tI G k q m = 0
    · rw [h2, Int.mul_zero]
    · exfalso
      have a1 := tI_ne hG h1
      have a2 := tI_ne hG h2
      have w1 := (hG.2.2.1 i (by omega)).1
      have w2 := (hG.2.2.1 j (by omega)).1
      have w3 := (hG.2.2.1 q (by omega)).1
      have w4 := (hG.2.2.1 m (by omega)).2
      omega
theorem sm_swap {f : Nat → Nat → Int} {n m : Nat} : sm (fun i => sm (fun j => f i j) m) n = sm (fun j => sm (fun i => f i j) n) m := by
  induction n with
  | zero => exact (sm_zero (fun _ _ => rfl)).symm
  | succ n ih => simp only [sm]; rw [ih, sm_add]
theorem sm_mulr {c : Int} {f : Nat → Int} {n : Nat} : sm f n * c = sm (fun k => f k * c) n := by
  rw [Int.mul_comm, sm_mul]
  exact sm_congr (fun k _ => Int.mul_comm _ _)
/-- what one letter's power adds at m -/
def addL (G : GD) (v : Nat → Int) (i : Nat) (y : Int) (m : Nat) : Int :=
  sm (fun j => tI G j i m * v j * y + (DD G m j i i * v j * two y + DD G m j i j * y * two (v j) + sm (fun q => if j < q then DD G m j i q * v j * v q * y else 0) (gn G))) (gn G)
theorem TL_eq (hG : GOK G) {v : Nat → Int} {i m : Nat} {y : Int} (hi : i < gn G) : TL G v i y m = v m + (if m = i then y else 0) + addL G v i y m := by
  unfold TL addL
  congr 1
  by_cases hw : gw G i = 1
  · rw [if_pos hw]
    refine sm_congr (fun j hj => ?_)
    have wj := hG.2.2.1 j hj
    by_cases h1 : i < j ∧ gw G j = 2
    · rw [if_pos h1, DD_0 hG (by omega), DD_0 hG (by omega), sm_zero (fun q _ => by rw [DD_0 hG (by omega)]; split <;> simp)]
      simp [Int.mul_assoc]
    · rw [if_neg h1]
      by_cases h2 : i < j ∧ gw G j = 1
      · rw [if_pos h2]
        unfold passOne
        congr 1
        unfold behind DD
        rw [sm_mulr, sm_mulr, sm_mulr, sm_mulr, sm_add]
        have e : sm (fun q => if j < q then sm (fun k => tI G j i k * tI G k q m) (gn G) * v j * v q * y else 0) (gn G) = sm (fun k => sm (fun q => if j < q then tI G j i k * tI G k q m * v j * v q * y else 0) (gn G)) (gn G) := by
          rw [sm_swap]
          refine sm_congr (fun q _ => ?_)
          split
          · rw [sm_mulr, sm_mulr, sm_mulr]
          · exact (sm_zero (fun _ _ => rfl)).symm
        rw [e, sm_add]
        refine sm_congr (fun k hk => ?_)
        rw [Int.mul_add, Int.mul_add, sm_mul]
        congr 1
        · congr 1
          · simp only [Int.mul_assoc]
          · simp only [Int.mul_assoc]
        · refine sm_congr (fun q hq => ?_)
          by_cases h3 : j < q
          · rw [if_pos h3]
            by_cases h4 : gw G q = 1
            · rw [if_pos ⟨h3, h4⟩]
              simp only [Int.mul_assoc]
              congr 1
              rw [Int.mul_comm y, Int.mul_comm (v j)]
              simp only [Int.mul_assoc, Int.mul_comm, Int.mul_left_comm]
            · rw [if_neg (fun z => h4 z.2)]
              by_cases h5 : tI G j i k = 0
              · rw [h5]; simp
              · have h6 : tI G k q m = 0 := by
                  refine Classical.byContradiction (fun z => ?_)
                  have a1 := tI_ne hG h5
                  have a2 := tI_ne hG z
                  have w3 := (hG.2.2.1 q (by omega)).1
                  have w4 := (hG.2.2.1 m (by omega)).2
                  omega
                rw [h6]; simp
          · rw [if_neg h3, if_neg (fun z => h3 z.1)]; simp
      · rw [if_neg h2]
        have h0 : tI G j i m = 0 := by
          refine Classical.byContradiction (fun z => ?_)
          have a1 := tI_ne hG z
          have w4 := (hG.2.2.1 m (by omega)).2
          omega
        rw [h0, DD_0 hG (by omega), DD_0 hG (by omega), sm_zero (fun q _ => by rw [DD_0 hG (by omega)]; split <;> simp)]
        simp
  · rw [if_neg hw, sm_zero]
    intro j hj
    have wj := hG.2.2.1 j hj
    have h0 : tI G j i m = 0 := by
      refine Classical.byContradiction (fun z => ?_)
      have a1 := tI_ne hG z
      have w4 := (hG.2.2.1 m (by omega)).2
      have w5 := hG.2.2.2.1 i j (by omega) (by omega)
      have w6 := (hG.2.2.1 i (by omega)).1
      omega
    rw [h0, DD_0 hG (by omega), DD_0 hG (by omega), sm_zero (fun q _ => by rw [DD_0 hG (by omega)]; split <;> simp)]
    simp
/-- the product in one formula: as far as letter K -/
def prodU (G : GD) (a b : Nat → Int) (K m : Nat) : Int :=
  a m + (if m < K then b m else 0) + sm (fun i => addL G a i (b i) m + sm (fun p => if p < i then sm (fun j => DD G m j p i * a j * b p * b i) (gn G) else 0) (gn G)) K
theorem addL_low (hG : GOK G) {v : Nat → Int} {i m : Nat} {y : Int} (hm : gw G m ≠ 3) : addL G v i y m = sm (fun j => tI G j i m * v j * y) (gn G) := by
  unfold addL
  refine sm_congr (fun j _ => ?_)
  rw [DD_0 hG (by omega), DD_0 hG (by omega), sm_zero (fun q _ => by rw [DD_0 hG (by omega)]; split <;> simp)]
  simp
theorem mulU_eq (hG : GOK G) {a b : Nat → Int} : ∀ K, K ≤ gn G → ∀ m, mulU G a b K m = prodU G a b K m := by
  intro K
  induction K with
  | zero => intro _ m; unfold prodU; simp [mulU, sm]
  | succ K ih =>
    intro hK m
    show TL G (mulU G a b K) K (b K) m = _
    rw [TL_eq hG (by omega), ih (by omega)]
    -- what the letters above K hold
    have hone : ∀ j, K < j → gw G j = 1 → mulU G a b K j = a j := fun j hj hw => by
      rw [mulU_one hG (by omega) K (by omega), if_neg (by omega), Int.add_zero]
    have key : addL G (mulU G a b K) K (b K) m = addL G a K (b K) m + sm (fun p => if p < K then sm (fun j => DD G m j p K * a j * b p * b K) (gn G) else 0) (gn G) := by
      have e1 : ∀ j, DD G m j K K * mulU G a b K j * two (b K) = DD G m j K K * a j * two (b K) := fun j => by
        by_cases h : DD G m j K K = 0
        · rw [h]; simp
        · have h1 : K < j ∧ gw G j = 1 := by
            refine Classical.byContradiction (fun z => h (DD_0 hG (by omega)))
          rw [hone j h1.1 h1.2]
      have e2 : ∀ j, DD G m j K j * b K * two (mulU G a b K j) = DD G m j K j * b K * two (a j) := fun j => by
        by_cases h : DD G m j K j = 0
        · rw [h]; simp
        · have h1 : K < j ∧ gw G j = 1 := by
            refine Classical.byContradiction (fun z => h (DD_0 hG (by omega)))
          rw [hone j h1.1 h1.2]
      have e3 : ∀ j q, (if j < q then DD G m j K q * mulU G a b K j * mulU G a b K q * b K else 0) = if j < q then DD G m j K q * a j * a q * b K else 0 := fun j q => by
        by_cases h0 : j < q
        · rw [if_pos h0, if_pos h0]
          by_cases h : DD G m j K q = 0
          · rw [h]; simp
          · have h1 : K < j ∧ gw G j = 1 ∧ gw G q = 1 := by
              refine Classical.byContradiction (fun z => h (DD_0 hG (by omega)))
            rw [hone j h1.1 h1.2.1, hone q (by omega) h1.2.2]
        · rw [if_neg h0, if_neg h0]
      have e4 : sm (fun j => tI G j K m * mulU G a b K j * b K) (gn G) = sm (fun j => tI G j K m * a j * b K) (gn G) + sm (fun p => if p < K then sm (fun j => DD G m j p K * a j * b p * b K) (gn G) else 0) (gn G) := by
        -- the tails' own letters
        have e5 : ∀ j, j < gn G → tI G j K m * mulU G a b K j * b K = tI G j K m * a j * b K + sm (fun p => if p < K then sm (fun z => tI G z p j * tI G j K m * a z * b p * b K) (gn G) else 0) (gn G) := by
          intro j hj
          by_cases h : tI G j K m = 0
          · rw [h, sm_zero (fun p _ => by
              split
              · exact sm_zero (fun z _ => by simp)
              · rfl)]
            simp
          · have h1 := tI_ne hG h
            have w1 := (hG.2.2.1 K (by omega)).1
            have w4 := (hG.2.2.1 m (by omega)).2
            rw [ih (by omega) j]
            unfold prodU
            rw [if_neg (by omega), Int.add_zero, Int.mul_add, Int.add_mul]
            congr 1
            have e6 : sm (fun i => addL G a i (b i) j + sm (fun p => if p < i then sm (fun z => DD G j z p i * a z * b p * b i) (gn G) else 0) (gn G)) K = sm (fun p => if p < K then sm (fun z => tI G z p j * a z * b p) (gn G) else 0) (gn G) := by
              rw [sm_tail (e := K) (n := gn G) (by omega) (fun p h2 _ => if_neg (by omega))]
              refine sm_congr (fun i hi => ?_)
              have hz : sm (fun p => if p < i then sm (fun z => DD G j z p i * a z * b p * b i) (gn G) else 0) (gn G) = 0 := sm_zero (fun p _ => by
                split
                · exact sm_zero (fun z _ => by rw [DD_0 hG (by omega)]; simp)
                · rfl)
              rw [if_pos hi, addL_low hG (by omega), hz, Int.add_zero]
            rw [e6, sm_mul, sm_mulr]
            refine sm_congr (fun p _ => ?_)
            by_cases hp : p < K
            · rw [if_pos hp, if_pos hp, sm_mul, sm_mulr]
              refine sm_congr (fun z _ => ?_)
              simp only [Int.mul_assoc, Int.mul_comm, Int.mul_left_comm]
            · rw [if_neg hp, if_neg hp]; simp
        rw [sm_congr e5, ← sm_add]
        congr 1
        rw [sm_swap]
        refine sm_congr (fun p _ => ?_)
        by_cases hp : p < K
        · simp only [if_pos hp]
          rw [sm_swap]
          refine sm_congr (fun z _ => ?_)
          unfold DD
          rw [sm_mulr, sm_mulr, sm_mulr]
        · simp only [if_neg hp]
          exact sm_zero (fun _ _ => rfl)
      have hL : addL G (mulU G a b K) K (b K) m = sm (fun j => tI G j K m * mulU G a b K j * b K) (gn G) + sm (fun j => DD G m j K K * a j * two (b K) + DD G m j K j * b K * two (a j) + sm (fun q => if j < q then DD G m j K q * a j * a q * b K else 0) (gn G)) (gn G) := by
        rw [sm_add]
        unfold addL
        exact sm_congr (fun j _ => by rw [e1, e2, sm_congr (fun q _ => e3 j q)])
      have hR : addL G a K (b K) m = sm (fun j => tI G j K m * a j * b K) (gn G) + sm (fun j => DD G m j K K * a j * two (b K) + DD G m j K j * b K * two (a j) + sm (fun q => if j < q then DD G m j K q * a j * a q * b K else 0) (gn G)) (gn G) := by
        rw [sm_add]
        rfl
      rw [hL, hR, e4]
      omega
    rw [key]
    unfold prodU
    simp only [sm]
    by_cases h1 : m = K
    · subst h1
      rw [if_neg (Nat.lt_irrefl m), if_pos rfl, if_pos (Nat.lt_succ_self m)]; omega
    · rw [if_neg h1]
      by_cases h2 : m < K
      · rw [if_pos h2, if_pos (by omega)]; omega
      · rw [if_neg h2, if_neg (by omega)]; omega
end GR

