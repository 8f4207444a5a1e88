/-! consistent: Jacobi's law -/
section CN
variable {G : GD}
theorem mul_EE (hG : GOK G) {v : Nat → Int} {j : Nat} (hj : j < gn G) : mul G v (EE j) = TL G v j 1 := by
  have key : ∀ K, K ≤ gn G → mulU G v (EE j) K = if j < K then TL G v j 1 else v := by
    intro K
    induction K with
    | zero => intro _; rw [if_neg (Nat.not_lt_zero j)]; rfl
    | succ K ih =>
      intro hK
      show TL G (mulU G v (EE j) K) K (EE j K) = _
      rw [ih (by omega)]
      by_cases h1 : K = j
      · subst h1
        rw [if_neg (Nat.lt_irrefl K), if_pos (Nat.lt_succ_self K)]
        unfold EE
        rw [if_pos rfl]
      · have e0 : EE j K = 0 := by unfold EE; rw [if_neg h1]
        rw [e0, TL_zero hG (by omega)]
        by_cases h2 : j < K
        · rw [if_pos h2, if_pos (by omega)]
        · rw [if_neg h2, if_neg (by omega)]
  unfold mul
  rw [key (gn G) (Nat.le_refl _), if_pos hj]
theorem TL_O (hG : GOK G) {j : Nat} (hj : j < gn G) : TL G O j 1 = EE j := by
  funext m
  rw [TL_top hG (v := O) hj (fun q _ => rfl)]
  unfold EE O
  split <;> rfl
theorem EE_tails (hG : GOK G) {k j : Nat} (hj : j < k) (hk : k < gn G) : TLs G (TL G (EE j) k 1) (tw G k j) = TL G (EE k) j 1 := by
  rw [TLs_heavy _ (fun x hx => by
    have h8 := tw_mem hk hx
    have h9 := hG.2.2.2.2.2.2 k j x h8.2.2
    have w1 := (hG.2.2.1 j (by omega)).1
    have w2 := (hG.2.2.1 k hk).1
    omega)]
  funext m
  rw [tw_count hG hk]
  have h := TL_swap hG (v := O) hj hk (fun q _ => rfl) m
  rw [TL_O hG (show j < gn G by omega)] at h
  have e : (fun q => O q + if q = k then 1 else 0) = EE k := by
    funext q
    unfold EE O
    split <;> rfl
  rw [e] at h
  exact h.symm
theorem ov0 (hG : GOK G) {k j i : Nat} (hi : i < j) (hj : j < k) (hk : k < gn G) : TLs G O (OV0 G k j i) = mul G (mul G (EE k) (EE j)) (EE i) := by
  show TLs G (TL G (TL G O j 1) k 1) (tw G k j ++ [i]) = _
  rw [TLs_append, TL_O hG (show j < gn G by omega), EE_tails hG hj hk, mul_EE hG (show j < gn G by omega), mul_EE hG (show i < gn G by omega)]
  rfl
theorem ov1_mul (hG : GOK G) {v b : Nat → Int} {j i : Nat} (hi : i < j) (hj : j < gn G) (hb : ∀ m, b m = EE i m + EE j m + tI G j i m) : mul G v b = fun m => TL G (TL G v i 1) j 1 m + tI G j i m := by
  have t0 : ∀ m, m ≤ j → tI G j i m = 0 := fun m hm => tI_low hG (by omega)
  have key : ∀ K, K ≤ gn G → mulU G v b K = if K ≤ i then v else if K ≤ j then TL G v i 1 else fun m => TL G (TL G v i 1) j 1 m + (if m < K then tI G j i m else 0) := by
    intro K
    induction K with
    | zero => intro _; rw [if_pos (Nat.zero_le _)]; rfl
    | succ K ih =>
      intro hK
      show TL G (mulU G v b K) K (b K) = _
      rw [ih (by omega)]
      by_cases h1 : K < i
      · have e0 : b K = 0 := by
          rw [hb, t0 K (by omega)]; unfold EE; rw [if_neg (by omega), if_neg (by omega)]; rfl
        rw [e0, TL_zero hG (by omega), if_pos (by omega), if_pos (by omega)]
      · by_cases h2 : K = i
        · have e0 : b K = 1 := by
            rw [hb, t0 K (by omega)]; unfold EE; rw [if_pos h2, if_neg (by omega)]; rfl
          rw [e0, if_pos (by omega), if_neg (by omega), if_pos (by omega), h2]
        · by_cases h3 : K < j
          · have e0 : b K = 0 := by
              rw [hb, t0 K (by omega)]; unfold EE; rw [if_neg (by omega), if_neg (by omega)]; rfl
            rw [e0, TL_zero hG (by omega), if_neg (by omega), if_pos (by omega), if_neg (by omega), if_pos (by omega)]
          · by_cases h4 : K = j
            · have e0 : b K = 1 := by
                rw [hb, t0 K (by omega)]; unfold EE; rw [if_neg (by omega), if_pos h4]; rfl
              rw [e0, if_neg (by omega), if_pos (by omega), if_neg (by omega), if_neg (by omega), h4]
              funext m
              by_cases h5 : m < j + 1
              · rw [if_pos h5, t0 m (by omega), Int.add_zero]
              · rw [if_neg h5, Int.add_zero]
            · have e0 : b K = tI G j i K := by
                rw [hb]; unfold EE; rw [if_neg (by omega), if_neg (by omega)]; omega
              rw [e0, if_neg (by omega), if_neg (by omega), if_neg (by omega), if_neg (by omega)]
              funext m
              by_cases h6 : tI G j i K = 0
              · rw [h6, TL_zero hG (by omega)]
                by_cases h5 : m = K
                · rw [if_neg (by omega), if_pos (by omega), h5, h6]
                · by_cases h7 : m < K
                  · rw [if_pos h7, if_pos (by omega)]
                  · rw [if_neg h7, if_neg (by omega)]
              · have h9 := tI_ne hG h6
                have w1 := (hG.2.2.1 i (by omega)).1
                have w2 := (hG.2.2.1 j hj).1
                rw [TL_heavy (by omega)]
                by_cases h5 : m = K
                · rw [if_neg (by omega), if_pos h5, if_pos (by omega), h5]; omega
                · by_cases h7 : m < K
                  · rw [if_pos h7, if_neg h5, if_pos (by omega)]; omega
                  · rw [if_neg h7, if_neg h5, if_neg (by omega)]; omega
  unfold mul
  rw [key (gn G) (Nat.le_refl _), if_neg (by omega), if_neg (by omega)]
  funext m
  by_cases h : m < gn G
  · rw [if_pos h]
  · rw [if_neg h]
    have : tI G j i m = 0 := Classical.byContradiction (fun z => by have := tI_ne hG z; omega)
    rw [this]
end CN

