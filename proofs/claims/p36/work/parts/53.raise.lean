/-! the class's powers -/
section RA
variable {G : GD} {σ : Mem}
theorem three_ok {z : Int} (h : -99 ≤ z ∧ z ≤ 99) : (oi z * (oi z - 1)) * (oi z - 2) / 6 = oi (three z) := by
  have e1 : (1 : Int64) = oi 1 := rfl
  have e2 : (2 : Int64) = oi 2 := rfl
  have e6 : (6 : Int64) = oi 6 := rfl
  rw [e1, e2, e6, oi_sub, oi_mul, oi_sub, oi_mul, three_mul]
  have hb : (z * (z - 1) * (z - 2)).natAbs ≤ 99 * 100 * 101 := by
    rw [Int.natAbs_mul, Int.natAbs_mul]
    exact Nat.mul_le_mul (Nat.mul_le_mul (by omega) (by omega)) (by omega)
  rw [three_mul] at hb
  rw [← Int64.toInt_inj, Int64.toInt_div, oi_toInt (by omega) (by omega), oi_toInt (by omega) (by omega), oi_toInt (by omega) (by omega), Int.mul_tdiv_cancel_left _ (by decide)]
  apply Int.bmod_eq_of_le <;> omega
theorem c_powerAt {k : Nat} (hk : k < 6) {z x1 x2 x3 : Int} (hz : -99 ≤ z ∧ z ≤ 99) (h1 : σ.2 75 k = oi x1) (h2 : σ.2 76 k = oi x2) (h3 : σ.2 77 k = oi x3) :
    f_X0_powerAt σ (i32 k) (oi z) = some (oi (x1 * z + (x2 - 2 * x1) * two z + (x3 - 3 * x2 + 3 * x1) * three z)) := by
  unfold f_X0_powerAt
  have n0 : ¬ i32 k < 0 := by rw [i32_0]; exact i_nlt (Nat.zero_le _) (by omega)
  have n6 : i32 k < 6 := by rw [i32_6]; exact i_lt hk (by omega)
  have p1 : f_X0_powerNumber σ (i32 k) 1 = some (oi x1) := by
    unfold f_X0_powerNumber
    rw [if_neg n0, if_pos n6, if_pos rfl, e_gL ln_75 hk (by omega), h1]
  have p2 : f_X0_powerNumber σ (i32 k) 2 = some (oi (x2 - 2 * x1)) := by
    unfold f_X0_powerNumber
    rw [if_neg n0, if_pos n6, if_neg (by decide), if_pos rfl, e_gL ln_76 hk (by omega), e_gL ln_75 hk (by omega), h1, h2, show (2 : Int64) = oi 2 from rfl, oi_mul, oi_sub]
  have p3 : f_X0_powerNumber σ (i32 k) 3 = some (oi (x3 - 3 * x2 + 3 * x1)) := by
    unfold f_X0_powerNumber
    rw [if_neg n0, if_pos n6, if_neg (by decide), if_neg (by decide), if_pos rfl, e_gL ln_77 hk (by omega), e_gL ln_76 hk (by omega), e_gL ln_75 hk (by omega), h1, h2, h3, show (3 : Int64) = oi 3 from rfl, oi_mul, oi_mul, oi_sub, oi_add]
  rw [p1, e_bs, p2, e_bs, e_nzL (by decide), p3, e_bs, e_nzL (by decide), two_ok (by omega) (by omega), three_ok hz, oi_mul, oi_mul, oi_mul, oi_add, oi_add]
/-- a power, as far as the group goes -/
def QZ (G : GD) (a : Nat → Int) (z : Int) : Nat → Int := fun k => if k < gn G then Q G a z k else 0
theorem c_findPowers (hG : GOK G) (hP : PolyOK G σ) {a : Nat} {A : Nat → Int} (ha : ln a = 6) (hA : H6 σ a A) {M : Int} (hM : 4 * M ≤ 2 ^ 31) (hM0 : 0 ≤ M) (sA : SB G M A) (zA : Z6 G A) :
    ∃ τ, f_X0_findPowers σ a = some τ ∧ OL (fun x => x = 73 ∨ x = 75 ∨ x = 76 ∨ x = 77) σ τ ∧ H6 τ 75 A ∧ H6 τ 76 (mul G A A) ∧ H6 τ 77 (mul G (mul G A A) A) := by
  have n73 : notSum 73 := fun k hk => by omega
  have n75 : notSum 75 := fun k hk => by omega
  have n76 : notSum 76 := fun k hk => by omega
  have n77 : notSum 77 := fun k hk => by omega
  unfold f_X0_findPowers
  obtain ⟨τ1, e1, o1, r1⟩ := c_copy (b := 75) ha ln_75 hA
  rw [e1, e_bs]
  have P1 : PolyOK G τ1 := hP.keep o1 (fun x hx => by rw [hx]; exact n75)
  obtain ⟨τ2, e2, o2, r2⟩ := c_product hG P1 (out := 76) ln_76 ln_75 ln_75 r1 r1 (by omega) n76 (by omega) (by omega) (sA.w1 hG (by omega)) (sA.w1 hG (by omega)) zA
  rw [e2, e_bs]
  have P2 : PolyOK G τ2 := P1.keep o2 (fun x hx => ns2 n73 n76 hx)
  have r3 : H6 τ2 75 A := r1.keep o2 (by omega)
  obtain ⟨τ3, e3, o3, r4⟩ := c_product hG P2 (out := 77) ln_77 ln_76 ln_75 r2 r3 (by omega) n77 (by omega) (by omega) ((SB.mul hG sA sA).w1 hG (by omega)) (sA.w1 hG (by omega)) (zA.muls hG)
  rw [e3, e_bs]
  refine ⟨τ3, rfl, ?_, r3.keep o3 (by omega), r2.keep o3 (by omega), r4⟩
  refine (o1.mono ?_).trans ((o2.mono ?_).trans (o3.mono ?_)) <;> intro x hx <;> omega
theorem c_raise (hG : GOK G) (hP : PolyOK G σ) {out a : Nat} {A : Nat → Int} {m : Int64} {z : Int} (hout : ln out = 6) (ha : ln a = 6) (hA : H6 σ a A) (ho : out ≠ 75 ∧ out ≠ 76 ∧ out ≠ 77) (hm : m = oi z) (hz : -99 ≤ z ∧ z ≤ 99) {M : Int} (hM : 4 * M ≤ 2 ^ 31) (hM0 : 0 ≤ M) (sA : SB G M A) (zA : Z6 G A) :
    ∃ τ, f_X0_raise σ out a m = some τ ∧ OL (fun x => x = 73 ∨ x = 75 ∨ x = 76 ∨ x = 77 ∨ x = out) σ τ ∧ H6 τ out (QZ G A z) := by
  subst hm
  unfold f_X0_raise
  obtain ⟨τ0, e0, o0, r1, r2, r3⟩ := c_findPowers hG hP ha hA hM hM0 sA zA
  rw [e0, e_bs]
  have hl := loop_inv (body := fun (z3 : Mem × Int32) => l_X0_raise_8 out (oi z) z3.1 z3.2) (fun n s => ∃ k τ, k ≤ 6 ∧ n = 6 - k ∧ s = (τ, i32 k) ∧ OL (fun x => x = out) τ0 τ ∧ ∀ i, i < k → τ.2 out i = oi (QZ G A z i)) (fun τ => OL (fun x => x = out) τ0 τ ∧ ∀ i, i < 6 → τ.2 out i = oi (QZ G A z i)) ?_ 6 (τ0, 0) ⟨0, τ0, by omega, rfl, rfl, OL.refl, fun i h => absurd h (Nat.not_lt_zero _)⟩
  · obtain ⟨τ, h1, h2, h3⟩ := hl
    refine ⟨τ, h1, (o0.mono ?_).trans (h2.mono ?_), h3⟩ <;> intro x hx <;> omega
  · rintro n s ⟨k, τ, hk, hn, rfl, hOL, hv⟩
    by_cases hk6 : k = 6
    · right
      refine ⟨τ, ?_, hOL, fun i hi => hv i (by omega)⟩
      show l_X0_raise_8 _ _ _ _ = _
      unfold l_X0_raise_8
      rw [hk6, i32_6, if_pos (i_le (Nat.le_refl 6) (by omega))]
    · left
      refine ⟨(wL τ out k (oi (QZ G A z k)), i32 (k + 1)), 6 - (k + 1), by omega, ?_, k + 1, _, by omega, rfl, rfl, hOL.trans (OL.wL rfl), fun i hi => ?_⟩
      · show l_X0_raise_8 _ _ _ _ = _
        unfold l_X0_raise_8
        have g1 : τ.2 75 k = oi (A k) := (r1.keep hOL (fun q => ho.1 q.symm)) k (by omega)
        have g2 : τ.2 76 k = oi (mul G A A k) := (r2.keep hOL (fun q => ho.2.1 q.symm)) k (by omega)
        have g3 : τ.2 77 k = oi (mul G (mul G A A) A k) := (r3.keep hOL (fun q => ho.2.2 q.symm)) k (by omega)
        have hval : A k * z + (mul G A A k - 2 * A k) * two z + (mul G (mul G A A) A k - 3 * mul G A A k + 3 * A k) * three z = QZ G A z k := by
          unfold QZ
          by_cases h1 : k < gn G
          · rw [if_pos h1]
            have hq := Q_numbers hG (a := A) h1
            rw [hq.1, hq.2]
            rfl
          · have m1 : mul G A A k = 0 := (zA.muls hG) k (by omega) (by omega)
            have m2 : mul G (mul G A A) A k = 0 := ((zA.muls hG).muls hG) k (by omega) (by omega)
            rw [if_neg h1, m1, m2, zA k (by omega) (by omega)]
            simp
        rw [i32_6, if_neg (i_nle (by omega) (by omega)), c_powerAt (by omega) hz g1 g2 g3, e_bs, hval, e_pL hout (by omega) (by omega), i32_1, i32_add]
      · rw [wL_2]
        by_cases h1 : i = k
        · rw [if_pos ⟨rfl, h1⟩, h1]
        · rw [if_neg (fun q => h1 q.2)]; exact hv i (by omega)
end RA
