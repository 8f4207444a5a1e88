/-! a letter's power, and products, by the reference -/
def M0 (σ : Mem) : Prop := ∀ m, m < 6 → σ.2 314 m = 0
theorem TL_one {G : GD} (hG : GOK G) {a : Nat → Int} {i m : Nat} {y : Int} (hi : i < gn G) (hm : gw G m ≤ 1) : TL G a i y m = a m + if m = i then y else 0 := by
  unfold TL
  have h0 : ∀ j, tI G j i m = 0 := fun j => by
    unfold tI
    by_cases h1 : gt G j i m = 0
    · rw [h1]; rfl
    · have h2 := hG.2.2.2.2.2.2 j i m h1
      have h3 := (hG.2.2.1 i hi).1
      have h4 := (hG.2.2.1 j (by omega)).1
      omega
  have h1 : ∀ j k, tI G j i k * behind G a j i y k m = 0 := fun j k => by
    by_cases h2 : gt G j i k = 0
    · unfold tI; rw [h2]; exact Int.zero_mul _
    · have h3 := hG.2.2.2.2.2.2 j i k h2
      by_cases h4 : m ≤ k ∨ gn G ≤ m ∨ 2 < gw G k
      · exact behind_0 hG h4
      · have h5 := hG.2.2.2.1 k m (by omega) (by omega)
        have h6 := (hG.2.2.1 i hi).1
        have h7 := (hG.2.2.1 j (by omega)).1
        omega
  by_cases hw : gw G i = 1
  · rw [if_pos hw, sm_zero, Int.add_zero]
    intro j _
    unfold passOne
    rw [h0, sm_zero (fun k _ => h1 j k)]
    split
    · simp
    · split <;> simp
  · rw [if_neg hw, Int.add_zero]
theorem mulU_one {G : GD} (hG : GOK G) {a b : Nat → Int} {m : Nat} (hm : gw G m ≤ 1) : ∀ k, k ≤ gn G → mulU G a b k m = a m + if m < k then b m else 0 := by
  intro k
  induction k with
  | zero => intro _; rw [if_neg (Nat.not_lt_zero m), Int.add_zero]; rfl
  | succ k ih =>
    intro hk
    show TL G (mulU G a b k) k (b k) m = _
    rw [TL_one hG (by omega) hm, ih (by omega)]
    by_cases h1 : m = k
    · subst h1; rw [if_neg (Nat.lt_irrefl m), if_pos rfl, if_pos (Nat.lt_succ_self m), Int.add_zero]
    · rw [if_neg h1, Int.add_zero]
      by_cases h2 : m < k
      · rw [if_pos h2, if_pos (by omega)]
      · rw [if_neg h2, if_neg (by omega)]
