/-! a commutator is a difference; how great it is -/
section COB
variable {G : GD}
def cmm (G : GD) (a b : Nat → Int) : Nat → Int := mul G (mul G (mul G (inv G a) (inv G b)) a) b
theorem cmm_one (hG : GOK G) {a b : Nat → Int} {m : Nat} (hm : gw G m ≤ 1) (h : m < gn G) : cmm G a b m = 0 := by
  unfold cmm
  rw [mul_one hG hm h, mul_one hG hm h, mul_one hG hm h, inv_one hG hm h, inv_one hG hm h]
  omega
theorem mul_high (hG : GOK G) {x c : Nat → Int} (hc : ∀ i, i < gn G → gw G i ≤ 1 → c i = 0) {m : Nat} (hm : m < gn G) : mul G x c m = x m + c m := by
  have hw := hG.2.2.1
  have z1 : pT G m x c = 0 := sm_zero (fun i hi => sm_zero (fun j hj => by
    by_cases h1 : gw G i ≤ 1
    · rw [hc i hi h1, Int.mul_zero]
    · by_cases h2 : tI G j i m = 0
      · rw [h2, Int.zero_mul, Int.zero_mul]
      · have a1 := tI_ne hG h2
        have a2 := hG.2.2.2.1 i j (by omega) hj
        have a3 := (hw m hm).2
        omega))
  have dz : ∀ j i q, ¬ gw G i ≤ 1 → DD G m j i q = 0 := fun j i q h => DD_0 hG (by omega)
  have z2 : pU G m x c = 0 := sm_zero (fun i hi => sm_zero (fun j hj => by
    by_cases h1 : gw G i ≤ 1
    · rw [hc i hi h1, two_0, Int.mul_zero]
    · rw [dz j i i h1, Int.zero_mul, Int.zero_mul]))
  have z3 : pV G m x c = 0 := sm_zero (fun i hi => sm_zero (fun j hj => by
    by_cases h1 : gw G i ≤ 1
    · rw [hc i hi h1, Int.mul_zero, Int.zero_mul]
    · rw [dz j i j h1, Int.zero_mul, Int.zero_mul]))
  have z4 : pW G m x c = 0 := sm_zero (fun i hi => sm_zero (fun j hj => sm_zero (fun q hq => by
    by_cases h2 : j < q
    · rw [if_pos h2]
      by_cases h1 : gw G i ≤ 1
      · rw [hc i hi h1, Int.mul_zero]
      · rw [dz j i q h1, Int.zero_mul, Int.zero_mul, Int.zero_mul]
    · rw [if_neg h2])))
  have z5 : pX G m x c = 0 := sm_zero (fun i hi => sm_zero (fun p hp => by
    by_cases h2 : p < i
    · rw [if_pos h2]
      refine sm_zero (fun j hj => ?_)
      by_cases h1 : gw G p ≤ 1
      · rw [hc p hp h1, Int.mul_zero, Int.zero_mul]
      · rw [dz j p i h1, Int.zero_mul, Int.zero_mul, Int.zero_mul]
    · rw [if_neg h2]))
  rw [mul_eq hG hm, z1, z2, z3, z4, z5]
  omega
theorem cmm_eq (hG : GOK G) (hJ : Jac G) {a b : Nat → Int} {m : Nat} (hm : m < gn G) : cmm G a b m = mul G a b m - mul G b a m := by
  have e : EqG G (mul G (mul G b a) (cmm G a b)) (mul G a b) := by
    refine (EqG.refl.times (comm_eq hG hJ).symm).trans ?_
    refine (massoc hG hJ).symm.trans ?_
    exact ((mul_inv hG).times EqG.refl).trans (O_mul hG)
  have h := e m hm
  rw [mul_high hG (fun i hi h1 => cmm_one hG h1 hi) hm] at h
  omega
def smN (f : Nat → Nat) : Nat → Nat
  | 0 => 0
  | n + 1 => smN f n + f n
theorem sm_ab {f : Nat → Int} {g : Nat → Nat} : ∀ n, (∀ k, k < n → (f k).natAbs ≤ g k) → (sm f n).natAbs ≤ smN g n
  | 0, _ => Nat.le_refl _
  | n + 1, h => by
    have h1 := sm_ab n (fun k hk => h k (by omega))
    have h2 := h n (Nat.lt_succ_self n)
    show (sm f n + f n).natAbs ≤ smN g n + g n
    have := Int.natAbs_add_le (sm f n) (f n)
    omega
def twN (x : Nat) : Nat := x * (x + 1) / 2
theorem two_ab {y : Int} {x : Nat} (h : y.natAbs ≤ x) : (two y).natAbs ≤ twN x := by
  have h1 : y * (y - 1) = 2 * two y := by
    unfold two
    have : (2 : Int) ∣ y * (y - 1) := by
      rcases Int.emod_two_eq y with q | q
      · exact Int.dvd_trans (Int.dvd_of_emod_eq_zero q) (Int.dvd_mul_right _ _)
      · exact Int.dvd_trans (Int.dvd_of_emod_eq_zero (show (y - 1) % 2 = 0 by omega)) (Int.dvd_mul_left _ _)
    omega
  have h2 : (y * (y - 1)).natAbs ≤ x * (x + 1) := by
    rw [Int.natAbs_mul]
    exact Nat.mul_le_mul h (by omega)
  unfold twN
  omega
def tbN (w : Nat → Nat) (m i j : Nat) : Nat := bif Nat.blt i j && (Nat.blt j m && Nat.ble (w i + w j) (w m)) then 3 else 0
def dbN (w : Nat → Nat) (n m j i q : Nat) : Nat := bif Nat.blt i j && (Nat.beq (w i) 1 && (Nat.beq (w j) 1 && (Nat.beq (w q) 1 && Nat.beq (w m) 3))) then smN (fun k => bif Nat.blt j k && (Nat.blt k m && (Nat.beq (w k) 2 && Nat.blt q k)) then 9 else 0) n else 0
variable {w : Nat → Nat}
theorem tIN_ab (hG : GOK G) (hw : ∀ i, i < gn G → gw G i = w i) {m i j : Nat} (hm : m < gn G) : (tI G j i m).natAbs ≤ tbN w m i j := by
  by_cases h : tI G j i m = 0
  · rw [h]
    exact Nat.zero_le _
  · have a := tI_ne hG h
    have b := hG.2.2.2.2.2.1 j i m
    rw [hw i (by omega), hw j (by omega), hw m hm] at a
    unfold tbN
    rw [show (Nat.blt i j && (Nat.blt j m && Nat.ble (w i + w j) (w m))) = true from by
      rw [Bool.and_eq_true, Bool.and_eq_true, Nat.blt_eq, Nat.blt_eq, Nat.ble_eq]
      exact ⟨a.1, a.2.1, a.2.2.2⟩]
    show (tI G j i m).natAbs ≤ 3
    show ((gt G j i m : Int)).natAbs ≤ 3
    omega
theorem DDN_ab (hG : GOK G) (hw : ∀ i, i < gn G → gw G i = w i) {m j i q : Nat} (hm : m < gn G) (hq : q < gn G) : (DD G m j i q).natAbs ≤ dbN w (gn G) m j i q := by
  by_cases h : i < j ∧ gw G i = 1 ∧ gw G j = 1 ∧ gw G q = 1 ∧ gw G m = 3 ∧ j < gn G
  · unfold dbN
    obtain ⟨h1, h2, h3, h4, h5, h6⟩ := h
    rw [show (Nat.blt i j && (Nat.beq (w i) 1 && (Nat.beq (w j) 1 && (Nat.beq (w q) 1 && Nat.beq (w m) 3)))) = true from by
      rw [Bool.and_eq_true, Bool.and_eq_true, Bool.and_eq_true, Bool.and_eq_true, Nat.blt_eq, Nat.beq_eq, Nat.beq_eq, Nat.beq_eq, Nat.beq_eq, ← hw i (by omega), ← hw j h6, ← hw q hq, ← hw m hm]
      exact ⟨h1, h2, h3, h4, h5⟩]
    show (DD G m j i q).natAbs ≤ smN _ (gn G)
    unfold DD
    refine sm_ab _ (fun k hk => ?_)
    by_cases t1 : tI G j i k = 0
    · rw [t1, Int.zero_mul]; exact Nat.zero_le _
    · by_cases t2 : tI G k q m = 0
      · rw [t2, Int.mul_zero]; exact Nat.zero_le _
      · have a1 := tI_ne hG t1
        have a2 := tI_ne hG t2
        have b1 := hG.2.2.2.2.2.1 j i k
        have b2 := hG.2.2.2.2.2.1 k q m
        rw [show (Nat.blt j k && (Nat.blt k m && (Nat.beq (w k) 2 && Nat.blt q k))) = true from by
          rw [Bool.and_eq_true, Bool.and_eq_true, Bool.and_eq_true, Nat.blt_eq, Nat.blt_eq, Nat.beq_eq, Nat.blt_eq, ← hw k hk]
          exact ⟨by omega, by omega, by omega, by omega⟩]
        show (tI G j i k * tI G k q m).natAbs ≤ 9
        rw [Int.natAbs_mul]
        have c1 : (tI G j i k).natAbs ≤ 3 := by show ((gt G j i k : Int)).natAbs ≤ 3; omega
        have c2 : (tI G k q m).natAbs ≤ 3 := by show ((gt G k q m : Int)).natAbs ≤ 3; omega
        exact Nat.mul_le_mul c1 c2
  · rw [DD_0 hG h]
    exact Nat.zero_le _
def hfN (w : Nat → Nat) (n m : Nat) (x y : Nat → Nat) : Nat :=
  smN (fun i => smN (fun j => tbN w m i j * x j * y i) n) n + smN (fun i => smN (fun j => dbN w n m j i i * x j * twN (y i)) n) n + smN (fun i => smN (fun j => dbN w n m j i j * y i * twN (x j)) n) n + smN (fun i => smN (fun j => smN (fun q => bif Nat.blt j q then dbN w n m j i q * x j * x q * y i else 0) n) n) n + smN (fun i => smN (fun p => bif Nat.blt p i then smN (fun j => dbN w n m j p i * x j * y p * y i) n else 0) n) n
def cbN (w : Nat → Nat) (n m : Nat) (a b : Nat → Nat) : Nat := hfN w n m a b + hfN w n m b a
theorem nmul {a b : Int} {x y : Nat} (h : a.natAbs ≤ x) (k : a ≠ 0 → b.natAbs ≤ y) : (a * b).natAbs ≤ x * y := by
  by_cases h0 : a = 0
  · rw [h0, Int.zero_mul]
    exact Nat.zero_le _
  · rw [Int.natAbs_mul]
    exact Nat.mul_le_mul h (k h0)
theorem nz_l {a b : Int} (h : a * b ≠ 0) : a ≠ 0 := fun q => h (by rw [q, Int.zero_mul])
theorem DD_ne (hG : GOK G) {m j i q : Nat} (h : DD G m j i q ≠ 0) : gw G i ≤ 2 ∧ gw G j ≤ 2 ∧ gw G q ≤ 2 := by
  have a : i < j ∧ gw G i = 1 ∧ gw G j = 1 ∧ gw G q = 1 ∧ gw G m = 3 ∧ j < gn G := Classical.byContradiction (fun q => h (DD_0 hG q))
  omega
theorem hf_ab (hG : GOK G) (hw : ∀ i, i < gn G → gw G i = w i) {m : Nat} (hm : m < gn G) {a b : Nat → Int} {x y : Nat → Nat} (ha : ∀ i, i < gn G → gw G i ≤ 2 → (a i).natAbs ≤ x i) (hb : ∀ i, i < gn G → gw G i ≤ 2 → (b i).natAbs ≤ y i) : (pT G m a b + pU G m a b + pV G m a b + pW G m a b + pX G m a b).natAbs ≤ hfN w (gn G) m x y := by
  have tz : ∀ i j, tI G j i m ≠ 0 → gw G i ≤ 2 ∧ gw G j ≤ 2 := fun i j h => by
    have a1 := tI_ne hG h
    have w1 := (hG.2.2.1 i (by omega)).1
    have w2 := (hG.2.2.1 j (by omega)).1
    have w3 := (hG.2.2.1 m hm).2
    omega
  have e1 : (pT G m a b).natAbs ≤ smN (fun i => smN (fun j => tbN w m i j * x j * y i) (gn G)) (gn G) := sm_ab _ (fun i hi => sm_ab _ (fun j hj => nmul (nmul (tIN_ab hG hw hm) (fun z => ha j hj (tz i j z).2)) (fun z => hb i hi (tz i j (nz_l z)).1)))
  have e2 : (pU G m a b).natAbs ≤ smN (fun i => smN (fun j => dbN w (gn G) m j i i * x j * twN (y i)) (gn G)) (gn G) := sm_ab _ (fun i hi => sm_ab _ (fun j hj => nmul (nmul (DDN_ab hG hw hm hi) (fun z => ha j hj (DD_ne hG z).2.1)) (fun z => two_ab (hb i hi (DD_ne hG (nz_l z)).1))))
  have e3 : (pV G m a b).natAbs ≤ smN (fun i => smN (fun j => dbN w (gn G) m j i j * y i * twN (x j)) (gn G)) (gn G) := sm_ab _ (fun i hi => sm_ab _ (fun j hj => nmul (nmul (DDN_ab hG hw hm hj) (fun z => hb i hi (DD_ne hG z).1)) (fun z => two_ab (ha j hj (DD_ne hG (nz_l z)).2.1))))
  have e4 : (pW G m a b).natAbs ≤ smN (fun i => smN (fun j => smN (fun q => bif Nat.blt j q then dbN w (gn G) m j i q * x j * x q * y i else 0) (gn G)) (gn G)) (gn G) := sm_ab _ (fun i hi => sm_ab _ (fun j hj => sm_ab _ (fun q hq => by
    by_cases h : j < q
    · rw [if_pos h, show Nat.blt j q = true from by rw [Nat.blt_eq]; exact h]
      exact nmul (nmul (nmul (DDN_ab hG hw hm hq) (fun z => ha j hj (DD_ne hG z).2.1)) (fun z => ha q hq (DD_ne hG (nz_l z)).2.2)) (fun z => hb i hi (DD_ne hG (nz_l (nz_l z))).1)
    · rw [if_neg h]; exact Nat.zero_le _)))
  have e5 : (pX G m a b).natAbs ≤ smN (fun i => smN (fun p => bif Nat.blt p i then smN (fun j => dbN w (gn G) m j p i * x j * y p * y i) (gn G) else 0) (gn G)) (gn G) := sm_ab _ (fun i hi => sm_ab _ (fun p hp => by
    by_cases h : p < i
    · rw [if_pos h, show Nat.blt p i = true from by rw [Nat.blt_eq]; exact h]
      exact sm_ab _ (fun j hj => nmul (nmul (nmul (DDN_ab hG hw hm hi) (fun z => ha j hj (DD_ne hG z).2.1)) (fun z => hb p hp (DD_ne hG (nz_l z)).1)) (fun z => hb i hi (DD_ne hG (nz_l (nz_l z))).2.2))
    · rw [if_neg h]; exact Nat.zero_le _))
  unfold hfN
  have f1 := Int.natAbs_add_le (pT G m a b) (pU G m a b)
  have f2 := Int.natAbs_add_le (pT G m a b + pU G m a b) (pV G m a b)
  have f3 := Int.natAbs_add_le (pT G m a b + pU G m a b + pV G m a b) (pW G m a b)
  have f4 := Int.natAbs_add_le (pT G m a b + pU G m a b + pV G m a b + pW G m a b) (pX G m a b)
  omega
theorem cmm_ab (hG : GOK G) (hJ : Jac G) (hw : ∀ i, i < gn G → gw G i = w i) {m : Nat} (hm : m < gn G) {a b : Nat → Int} {x y : Nat → Nat} (ha : ∀ i, i < gn G → gw G i ≤ 2 → (a i).natAbs ≤ x i) (hb : ∀ i, i < gn G → gw G i ≤ 2 → (b i).natAbs ≤ y i) : (cmm G a b m).natAbs ≤ cbN w (gn G) m x y := by
  have h1 := hf_ab hG hw hm ha hb
  have h2 := hf_ab hG hw hm hb ha
  rw [cmm_eq hG hJ hm, mul_eq hG hm, mul_eq hG hm]
  unfold cbN
  omega
end COB
