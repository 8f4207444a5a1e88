/-! group, tail, kind, undo, image -/
section GRP
variable {σ : Mem} {G : GD}
theorem c_mayBe {a b d : Nat} {v : Int32} {G : GD} (hG : GOK G) (h : CG σ 2 G) (ha : a < 6) (hb : b < 6) (hd : d < 6) {j i k : Int32} (ht : isTl (gn G) j i k = true) (ej : j - 1 = i32 a) (ei : i - 1 = i32 b) (ek : k - 1 = i32 d) : f_X6_mayBe σ 2 (j - 1) (i - 1) (k - 1) v = some (decide (0 ≤ v.toInt ∧ v.toInt ≤ 3 ∧ (v.toInt = 0 ∨ gw G b + gw G a ≤ gw G d))) := by
  have hn := hG.2.1
  have hw : ∀ i, i < 6 → gw G i ≤ 3 := fun i hi => by
    by_cases h1 : i < gn G
    · exact (hG.2.2.1 i h1).2
    · rw [hG.2.2.2.2.1 i (by omega)]; omega
  unfold f_X6_mayBe
  rw [c_isTl h.1 hn, e_bs, ht, if_pos rfl]
  by_cases h1 : v < 0
  · have := (lt32 (k := 0) (by omega)).mp h1
    rw [if_pos h1, decide_eq_false (by omega)]
  · have h1' : ¬ v.toInt < 0 := fun z => h1 ((lt32 (k := 0) (by omega)).mpr z)
    rw [if_neg h1]
    by_cases h2 : v ≤ 3
    · have h2' := (le32 (k := 3) (by omega)).mp h2
      rw [if_pos h2]
      by_cases h3 : v = 0
      · subst h3
        rw [if_pos rfl, e_bs]
        have : (0 : Int32).toInt = 0 := by decide
        rw [decide_eq_true (by omega)]; rfl
      · have h3' : v.toInt ≠ 0 := fun z => h3 (by rw [← Int32.toInt_inj, z]; decide)
        have w1 := hw a ha
        have w2 := hw b hb
        have w3 := hw d hd
        rw [if_neg h3, ej, ei, ek, RR2_2.1, e_gI ln_3 hd (by omega), h.2.1 d hd, e_gI ln_3 hb (by omega), h.2.1 b hb, e_gI ln_3 ha (by omega), h.2.1 a ha, i32_add]
        by_cases h4 : gw G d < gw G b + gw G a
        · rw [if_pos (i_lt h4 (by omega)), e_bs, decide_eq_false (by omega)]; rfl
        · rw [if_neg (i_nlt (by omega) (by omega)), e_bs, decide_eq_true (by omega)]; rfl
    · have h2' : ¬ v.toInt ≤ 3 := fun z => h2 ((le32 (k := 3) (by omega)).mpr z)
      rw [if_neg h2, decide_eq_false (by omega)]
end GRP

