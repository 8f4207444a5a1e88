/-! the class's lattices end whatever their numbers are -/
section LAT
variable {σ : Mem} {a n : Nat}
theorem t_floorDiv {x y : Int64} (h : y ≠ 0) : ∃ v, f_J9_floorDiv_f86c9 σ x y = some v := by
  unfold f_J9_floorDiv_f86c9
  rw [e_nzL h, e_bd]
  split
  · exact ⟨_, rfl⟩
  · split
    · exact ⟨_, rfl⟩
    · exact ⟨_, rfl⟩
/-- one row alone has changed -/
def FRo (x : Nat) (σ τ : Mem) : Prop := τ.1 = σ.1 ∧ ∀ y, y ≠ x → τ.2 y = σ.2 y
theorem FRo.refl {x : Nat} : FRo x σ σ := ⟨rfl, fun _ _ => rfl⟩
theorem FRo.trans {x : Nat} {τ υ : Mem} (h : FRo x σ τ) (k : FRo x τ υ) : FRo x σ υ := ⟨k.1.trans h.1, fun y hy => (k.2 y hy).trans (h.2 y hy)⟩
theorem FRo.la {x : Nat} {τ : Mem} (h : FRo x σ τ) (h1 : a + 2 ≤ x) (h2 : x ≤ a + 8) : FLa a σ τ := ⟨h.1, fun y hy => h.2 y (fun q => hy ⟨by omega, by omega⟩)⟩
theorem t_take {x c : Nat} (hL : LA a) (hn : n ≤ 6) (h0 : σ.1 a 0 = i32 n) (hc : c < 6) (hx : ln x = 6) (hxc : x ≠ a + 2 + c) : ∃ τ, f_X3_takeStep σ a x (i32 c) = some τ ∧ FRo x σ τ := by
  have hlc := hL.2.2.2.2 c (by omega)
  unfold f_X3_takeStep
  rw [e_gRL hL hc, e_gL hlc hc (by omega)]
  by_cases h : σ.2 (a + 2 + c) c = 0
  · rw [if_pos h]
    exact ⟨σ, rfl, FRo.refl⟩
  · obtain ⟨v, ev⟩ := t_floorDiv (σ := σ) (x := σ.2 x c) h
    rw [if_neg h, e_gRL hL hc, e_gL hx hc (by omega), e_gRL hL hc, e_gL hlc hc (by omega), ev, e_bs, c_sub hn h0 hx hlc hxc, e_bs]
    exact ⟨_, rfl, rfl, fun y hy => rwL_x hy⟩
theorem t_meet {c : Nat} (hL : LA a) (hn : n ≤ 6) (h0 : σ.1 a 0 = i32 n) (hc : c < 6) : ∃ τ, f_X3_meet σ a (i32 c) = some τ ∧ FLa a σ τ := by
  have hl6 := hL.2.2.2.2 6 (by omega)
  have hlc := hL.2.2.2.2 c (by omega)
  unfold f_X3_meet
  refine cnt_inv (body := fun (z2 : (Mem × Int32)) => l_X3_meet_2 a (i32 c) z2.1 z2.2) (P := fun _ τ => FLa a σ τ) (a := 0) (b := 1000) (s := σ) (by omega) FLa.refl ?_ ?_
  · intro i τ _ hi fr
    have g0 : τ.1 a 0 = i32 n := by rw [fr.1]; exact h0
    show (∃ s', l_X3_meet_2 a (i32 c) τ (i32 i) = _ ∧ _) ∨ ∃ x, l_X3_meet_2 a (i32 c) τ (i32 i) = _ ∧ _
    unfold l_X3_meet_2
    rw [if_neg (show ¬ (1000 : Int32) ≤ i32 i from i_nle (a := 1000) hi (by omega)), hL.2.1, e_gL hl6 hc (by omega)]
    by_cases h : τ.2 (a + 8) c = 0
    · right
      rw [if_pos h]
      exact ⟨_, rfl, fr⟩
    · left
      obtain ⟨v, ev⟩ := t_floorDiv (σ := τ) (x := τ.2 (a + 2 + c) c) h
      have e1 := c_sub (σ := τ) (a := a) (x := a + 2 + c) (p := a + 8) (t := v) hn g0 hlc hl6 (by omega)
      have f1 : FLa a σ (rwL τ (a + 2 + c) (fun y => if y < n then τ.2 (a + 2 + c) y - v * τ.2 (a + 8) y else τ.2 (a + 2 + c) y)) := fr.trans (FLa.rw (by omega))
      generalize rwL τ (a + 2 + c) (fun y => if y < n then τ.2 (a + 2 + c) y - v * τ.2 (a + 8) y else τ.2 (a + 2 + c) y) = τ1 at e1 f1
      have g1 : τ1.1 a 0 = i32 n := by rw [f1.1]; exact h0
      have e2 := c_swap (σ := τ1) (a := a) (x := a + 2 + c) hn g1 hlc (by rw [hL.2.1]; exact hl6) (by rw [hL.2.1]; omega)
      rw [if_neg h, e_gRL hL hc, e_gRL hL hc, e_gL hlc hc (by omega), e_gL hl6 hc (by omega), ev, e_bs, e1, e_bs, e_gRL hL hc, e2, e_bs, i32_1, i32_add]
      refine ⟨_, rfl, f1.trans ⟨rfl, fun x hx => ?_⟩⟩
      funext y
      show (if x = a + 2 + c then _ else if x = rf a 2 then _ else τ1.2 x y) = _
      rw [if_neg (by omega), if_neg (by rw [hL.2.1]; omega)]
  · intro τ fr
    show ∃ x, l_X3_meet_2 a (i32 c) τ (i32 1000) = _ ∧ _
    unfold l_X3_meet_2
    rw [if_pos (by decide)]
    exact ⟨_, rfl, fr⟩
theorem t_tidyIn {r : Nat} (hL : LA a) (hn : n ≤ 6) (h0 : σ.1 a 0 = i32 n) (hr : r < n) : ∃ τ, loopO (fun (z8 : (Mem × Int32)) => l_X3_tidy_15 a (i32 r) z8.1 z8.2) (σ, i32 (r + 1)) = some τ ∧ FLa a σ τ := by
  refine cnt_inv (body := fun (z8 : (Mem × Int32)) => l_X3_tidy_15 a (i32 r) z8.1 z8.2) (P := fun _ τ => FLa a σ τ) (b := n) (by omega) FLa.refl ?_ ?_
  · intro c τ h1 h2 fr
    left
    have g0 : τ.1 a 0 = i32 n := by rw [fr.1]; exact h0
    obtain ⟨τ2, e2, f2⟩ := t_take (σ := τ) (x := a + 2 + r) (c := c) hL hn g0 (by omega) (hL.2.2.2.2 r (by omega)) (by omega)
    show ∃ s', l_X3_tidy_15 a (i32 r) τ (i32 c) = _ ∧ _
    unfold l_X3_tidy_15
    rw [e_gF, g0, if_neg (i_nle h2 (by omega)), e_gRL hL (by omega), e2, e_bs, i32_1, i32_add]
    exact ⟨_, rfl, fr.trans (f2.la (by omega) (by omega))⟩
  · intro τ fr
    have g0 : τ.1 a 0 = i32 n := by rw [fr.1]; exact h0
    show ∃ x, l_X3_tidy_15 a (i32 r) τ (i32 n) = _ ∧ _
    unfold l_X3_tidy_15
    rw [e_gF, g0, if_pos (i_le (Nat.le_refl _) (by omega))]
    exact ⟨_, rfl, fr⟩
theorem t_tidy (hL : LA a) (hn : n ≤ 6) (h0 : σ.1 a 0 = i32 n) : ∃ τ, f_X3_tidy σ a = some τ ∧ FLa a σ τ := by
  unfold f_X3_tidy
  rw [e_gF, h0, e_bd]
  refine loop_inv (body := fun (z4 : (Mem × Int32)) => l_X3_tidy_7 a z4.1 z4.2) (fun k z => ∃ τ, k ≤ n ∧ z = (τ, i32 k - 1) ∧ FLa a σ τ) (fun τ => FLa a σ τ) ?_ n (σ, i32 n - 1) ⟨σ, Nat.le_refl _, rfl, FLa.refl⟩
  rintro k z ⟨τ, hk, rfl, fr⟩
  have g0 : τ.1 a 0 = i32 n := by rw [fr.1]; exact h0
  cases k with
  | zero =>
    right
    refine ⟨τ, ?_, fr⟩
    show l_X3_tidy_7 a τ (i32 0 - 1) = _
    unfold l_X3_tidy_7
    rw [if_pos (by decide)]
  | succ k =>
    left
    obtain ⟨τ2, e2, f2⟩ := t_tidyIn (σ := τ) (r := k) hL hn g0 (by omega)
    refine ⟨(τ2, i32 k - 1), k, by omega, ?_, τ2, by omega, rfl, fr.trans f2⟩
    show l_X3_tidy_7 a τ (i32 (k + 1) - 1) = _
    have dn : (i32 (k + 1) - 1 : Int32) = i32 k := by rw [i32_1, i32_sub (by omega)]; rfl
    rw [dn]
    unfold l_X3_tidy_7
    rw [if_neg (show ¬ i32 k < 0 from i_nlt (b := 0) (by omega) (by omega)), e_bd, i32_1, i32_add, e2, e_bs]
    unfold j_X3_tidy_40
    rw [show (i32 k + (-1) : Int32) = i32 k - 1 from (Int32.sub_eq_add_neg (i32 k) 1).symm]
    rfl
theorem t_insert {x : Nat} (hL : LA a) (hn : n ≤ 6) (h0 : σ.1 a 0 = i32 n) (hx : ln x = 6) : ∃ τ, f_X3_insert σ a x = some τ ∧ FLa a σ τ := by
  have hl8 := hL.2.2.2.2 6 (by omega)
  obtain ⟨σ1, e1, o1, _⟩ := c_copyRow (σ := σ) (a := x) (b := a + 8) hx hl8
  have f1 : FLa a σ σ1 := ⟨o1.1, fun y hy => o1.2 y (by omega)⟩
  obtain ⟨τ, e2, f2⟩ := cnt_inv (body := fun (z5 : (Mem × Int32)) => l_X3_insert_10 a z5.1 z5.2) (P := fun _ τ => FLa a σ τ) (Q := fun τ => FLa a σ τ) (a := 0) (b := n) (s := σ1) (by omega) f1 (by
    intro c τ _ h2 fr
    left
    have g0 : τ.1 a 0 = i32 n := by rw [fr.1]; exact h0
    have hlc := hL.2.2.2.2 c (by omega)
    obtain ⟨τ2, e2, f2⟩ := t_meet (σ := τ) (c := c) hL hn g0 (by omega)
    have g2 : τ2.1 a 0 = i32 n := by rw [f2.1]; exact g0
    show ∃ s', l_X3_insert_10 a τ (i32 c) = _ ∧ _
    unfold l_X3_insert_10
    rw [e_gF, g0, if_neg (i_nle h2 (by omega)), e2, e_bs, e_gRL hL (by omega), e_gL hlc (by omega) (by omega)]
    split
    · rw [e_bs]
      unfold j_X3_insert_46
      rw [i32_1, i32_add]
      exact ⟨_, rfl, fr.trans f2⟩
    · rw [e_gRL hL (by omega), c_negate hn g2 hlc, e_bs, e_bs]
      unfold j_X3_insert_46
      rw [i32_1, i32_add]
      exact ⟨_, rfl, (fr.trans f2).trans (FLa.rw (by omega))⟩) (by
    intro τ fr
    have g0 : τ.1 a 0 = i32 n := by rw [fr.1]; exact h0
    show ∃ x, l_X3_insert_10 a τ (i32 n) = _ ∧ _
    unfold l_X3_insert_10
    rw [e_gF, g0, if_pos (i_le (Nat.le_refl _) (by omega))]
    exact ⟨_, rfl, fr⟩)
  obtain ⟨τ3, e3, f3⟩ := t_tidy (σ := τ) hL hn (show τ.1 a 0 = i32 n by rw [f2.1]; exact h0)
  unfold f_X3_insert
  rw [hL.2.1, e1, e_bs, show (0 : Int32) = i32 0 from rfl, e2, e_bs]
  unfold j_X3_insert_52
  rw [e3, e_bs]
  exact ⟨_, rfl, f2.trans f3⟩
theorem t_reduce {x : Nat} (hL : LA a) (hn : n ≤ 6) (h0 : σ.1 a 0 = i32 n) (hx : ln x = 6) (hxa : ¬ (a + 2 ≤ x ∧ x ≤ a + 8)) : ∃ b τ, f_X3_reduce σ a x = some (b, τ) ∧ FRo x σ τ := by
  unfold f_X3_reduce
  obtain ⟨y, e, b, τ, rfl, f⟩ := loop_inv (body := fun (z3 : (Mem × Int32 × Int32)) => l_X3_reduce_4 a x z3.1 z3.2.1 z3.2.2) (fun k z => ∃ c τ b, c ≤ n ∧ k = n - c ∧ z = (τ, b2i b, i32 c) ∧ FRo x σ τ) (fun y => ∃ b τ, y = (b, τ) ∧ FRo x σ τ) (by
    rintro k z ⟨c, τ, b, hc, rfl, rfl, fr⟩
    have g0 : τ.1 a 0 = i32 n := by rw [fr.1]; exact h0
    by_cases hcn : c = n
    · right
      subst hcn
      refine ⟨(b, τ), ?_, b, τ, rfl, fr⟩
      show l_X3_reduce_4 a x τ (b2i b) (i32 c) = _
      unfold l_X3_reduce_4
      rw [e_gF, g0, if_pos (i_le (Nat.le_refl _) (by omega))]
      cases b <;> rfl
    · left
      obtain ⟨τ2, e2, f2⟩ := t_take (σ := τ) (x := x) (c := c) hL hn g0 (by omega) hx (by omega)
      have key : ∃ b2 : Bool, l_X3_reduce_4 a x τ (b2i b) (i32 c) = some (Sum.inl (τ2, b2i b2, i32 (c + 1))) := by
        unfold l_X3_reduce_4
        rw [e_gF, g0, if_neg (i_nle (by omega) (by omega)), e2, e_bs]
        have fin : ∀ b2, (some b2 : Option Bool).bind (fun (z7 : Bool) => j_X3_reduce_35 (i32 c) τ2 z7) = some (Sum.inl (τ2, b2i b2, i32 (c + 1))) := fun b2 => by
          rw [e_bs]
          unfold j_X3_reduce_35
          rw [i32_1, i32_add]
        cases b with
        | false => exact ⟨false, by rw [if_pos (show b2i false = 0 from rfl), e_bs]; exact fin false⟩
        | true =>
          rw [if_neg (show ¬ b2i true = 0 by decide), e_gL hx (by omega) (by omega)]
          split
          · exact ⟨true, by rw [e_bs]; exact fin true⟩
          · exact ⟨false, by rw [e_bs]; exact fin false⟩
      obtain ⟨b2, e3⟩ := key
      exact ⟨(τ2, b2i b2, i32 (c + 1)), n - (c + 1), by omega, e3, c + 1, τ2, b2, by omega, rfl, rfl, fr.trans f2⟩) n (σ, 1, 0) ⟨0, σ, true, by omega, rfl, rfl, FRo.refl⟩
  exact ⟨b, τ, e, f⟩
theorem t_hasStep {c : Nat} (hL : LA a) (hn : n ≤ 6) (h0 : σ.1 a 0 = i32 n) (hc : c < 6) : ∃ b, f_X3_hasStep σ a (i32 c) = some b := by
  have hlc := hL.2.2.2.2 c (by omega)
  unfold f_X3_hasStep
  rw [if_neg (show ¬ i32 c < 0 from i_nlt (b := 0) (by omega) (by omega)), e_gF, h0]
  split
  · exact ⟨false, rfl⟩
  · rw [e_gRL hL hc, e_gL hlc hc (by omega)]
    split
    · exact ⟨false, rfl⟩
    · exact ⟨true, rfl⟩
end LAT
