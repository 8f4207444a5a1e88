/-! roots, exponent by exponent -/
section RT
variable {G : GD}
/-- what is left for exponent k, and the exponent that it makes -/
def rtD (G : GD) (a : Nat → Int) (z : Int) (r : Nat → Int) (k : Nat) : Int64 := oi (a k - Q G r z k)
def rtE (G : GD) (a : Nat → Int) (z : Int) (r : Nat → Int) (k : Nat) : Int := (rtD G a z r k / oi z).toInt
def rtU (G : GD) (a : Nat → Int) (z : Int) : Nat → (Nat → Int)
  | 0 => fun _ => 0
  | k + 1 => uV (rtU G a z k) k (rtE G a z (rtU G a z k) k)
def rtOK (G : GD) (a : Nat → Int) (z : Int) (k : Nat) : Prop := rtD G a z (rtU G a z k) k / oi z * oi z = rtD G a z (rtU G a z k) k
def rtIn (G : GD) (a : Nat → Int) (z : Int) (k : Nat) : Prop := -999 ≤ oi (rtE G a z (rtU G a z k) k) ∧ oi (rtE G a z (rtU G a z k) k) ≤ 999
theorem oi_toInt' {x : Int64} : oi x.toInt = x := Int64.ofInt_toInt x
theorem rtU_beyond {a : Nat → Int} {z : Int} {m : Nat} : ∀ k, k ≤ m → rtU G a z k m = 0 := by
  intro k
  induction k with
  | zero => intro _; rfl
  | succ k ih =>
    intro h
    show uV (rtU G a z k) k _ m = 0
    unfold uV
    rw [if_neg (by omega), ih (by omega)]
theorem rtU_keep {a : Nat → Int} {z : Int} {m : Nat} : ∀ d k, m < k → rtU G a z (k + d) m = rtU G a z k m := by
  intro d
  induction d with
  | zero => intro k _; rfl
  | succ d ih =>
    intro k h
    show uV (rtU G a z (k + d)) (k + d) _ m = _
    unfold uV
    rw [if_neg (by omega), ih k h]
theorem rtU_at {a : Nat → Int} {z : Int} {n k : Nat} (h : k < n) : rtU G a z n k = rtE G a z (rtU G a z k) k := by
  have h1 := rtU_keep (G := G) (a := a) (z := z) (m := k) (n - (k + 1)) (k + 1) (Nat.lt_succ_self k)
  rw [show k + 1 + (n - (k + 1)) = n by omega] at h1
  rw [h1]
  show uV (rtU G a z k) k _ k = _
  unfold uV
  rw [if_pos rfl]
theorem tdiv_le {x z B : Int} (hz : 1 ≤ z) (h : -B ≤ x ∧ x ≤ B) : -B ≤ x.tdiv z ∧ x.tdiv z ≤ B := by
  have h1 : (x.tdiv z).natAbs ≤ x.natAbs := by
    rw [Int.natAbs_tdiv]
    exact Nat.div_le_self _ _
  omega
/-- weight one: the exponent itself over z -/
theorem rtE_one (hG : GOK G) {a : Nat → Int} {z : Int} {k : Nat} (hz : 1 ≤ z ∧ z ≤ 99) (hk : gw G k ≤ 1) (ha : -999 ≤ a k ∧ a k ≤ 999) : -999 ≤ rtE G a z (rtU G a z k) k ∧ rtE G a z (rtU G a z k) k ≤ 999 := by
  unfold rtE rtD
  rw [Q_one hG hk, rtU_beyond k (Nat.le_refl k), Int.zero_mul, Int.sub_zero, Int64.toInt_div, oi_toInt (by omega) (by omega), oi_toInt (by omega) (by omega)]
  have := tdiv_le hz.1 ha
  have hb : ((a k).tdiv z).bmod (2 ^ 64) = (a k).tdiv z := by apply Int.bmod_eq_of_le <;> omega
  rw [hb]
  exact this
theorem rtU_SB (hG : GOK G) {a : Nat → Int} {z : Int} (hz : 1 ≤ z ∧ z ≤ 99) (sA : SB G 999 a) (k : Nat) : SB G 999 (rtU G a z k) := fun j hj hw => by
  by_cases h : j < k
  · rw [rtU_at h]
    exact rtE_one hG hz (by omega) (sA j hj hw)
  · rw [rtU_beyond k (by omega)]; omega
theorem m64 {m : Int32} {z : Int} (hm : m.toInt = z) : m.toInt64 = oi z := by
  have h1 := Int32.le_toInt m
  have h2 := Int32.toInt_lt m
  rw [← Int64.toInt_inj, Int32.toInt_toInt64, oi_toInt (by omega) (by omega), hm]
theorem oiz_ne {z : Int} (hz : 1 ≤ z ∧ z ≤ 99) : oi z ≠ 0 := fun h => by
  have := congrArg Int64.toInt h
  rw [oi_toInt (by omega) (by omega)] at this
  have h2 : (0 : Int64).toInt = 0 := rfl
  omega
theorem p_extracts {σ : Mem} {f : SF} (h : MG σ G) (hG : GOK G) (h0 : M0 σ) {s t : Nat} {m : Int32} {z : Int} (hs : s < 100) (ht : t + 4 < 100) (hst : s < t ∨ t + 4 < s) (hm : m.toInt = z) (hz : 1 ≤ z ∧ z ≤ 99) (sA : SB G 999 (f s)) :
    ∃ b f', f_X11_extracts (PS σ f) (i32 s) (i32 t) m = some (b, PS σ f') ∧ (b = true ↔ ∀ k, k < gn G → rtOK G (f s) z k) ∧ (b = true → f' t = rtU G (f s) z (gn G)) ∧ ∀ q, q < t ∨ t + 4 < q → f' q = f q := by
  have hn := hG.2.1
  unfold f_X11_extracts
  rw [p_ones (by omega), e_bs]
  have hl := loop_inv (body := fun (z3 : Mem × Int32) => l_X11_extracts_8 (i32 s) (i32 t) m z3.1 z3.2) (fun n x => ∃ k f', k ≤ gn G ∧ n = gn G - k ∧ x = (PS σ f', i32 k) ∧ f' t = rtU G (f s) z k ∧ (∀ i, i < k → rtOK G (f s) z i) ∧ ∀ q, q < t ∨ t + 4 < q → f' q = f q) (fun x => ∃ b f', x = (b, PS σ f') ∧ (b = true ↔ ∀ k, k < gn G → rtOK G (f s) z k) ∧ (b = true → f' t = rtU G (f s) z (gn G)) ∧ ∀ q, q < t ∨ t + 4 < q → f' q = f q) ?_ (gn G) (PS σ (uS f t (fun _ => 0)), 0) ⟨0, _, Nat.zero_le _, by omega, rfl, uS_self, fun i hi => absurd hi (Nat.not_lt_zero _), fun q hq => uS_ne (by omega)⟩
  · obtain ⟨x, hx, b, f', rfl, h1, h2, h3⟩ := hl
    exact ⟨b, f', hx, h1, h2, h3⟩
  · rintro n x ⟨k, f', hk, hnk, rfl, h1, h2, h3⟩
    have hfs : f' s = f s := h3 s (by omega)
    show _ ∨ _
    by_cases hke : k = gn G
    · right
      refine ⟨(true, PS σ f'), ?_, true, f', rfl, ⟨fun _ i hi => h2 i (by omega), fun _ => rfl⟩, fun _ => by rw [h1, hke], h3⟩
      show l_X11_extracts_8 _ _ _ _ _ = _
      unfold l_X11_extracts_8
      rw [e_n (PS_MG h), e_bs, if_pos (i_le (by omega) (by omega))]
    · obtain ⟨f1, e1, g1, k1⟩ := p_raises (f := f') h hG h0 (s := t) (t := t + 1) (m := m) (z := z) (by omega) (by omega) (by omega) hm (by omega) (B := 999) (by omega) (by omega) (by rw [h1]; exact rtU_SB hG hz sA k)
      have hD : oi (f s k) - oi (f1 (t + 1) k) = rtD G (f s) z (rtU G (f s) z k) k := by
        rw [g1, if_neg (by omega), h1, pw_Q hG z.natAbs k (by omega), oi_sub, show (z.natAbs : Int) = z by omega]
        rfl
      have hbody : ∀ y, (if (rtD G (f s) z (rtU G (f s) z k) k - rtD G (f s) z (rtU G (f s) z k) k / oi z * oi z) = 0 then (nzL (oi z) ((f_X11_puts (PS σ f1) (i32 t) (i32 k) (rtD G (f s) z (rtU G (f s) z k) k / oi z)).bind (fun (σ9 : Mem) => some (Sum.inl (σ9, i32 k + 1))))) else (some (Sum.inr (false, PS σ f1))) : Option ((Mem × Int32) ⊕ (Bool × Mem))) = y → l_X11_extracts_8 (i32 s) (i32 t) m (PS σ f') (i32 k) = y := by
        intro y hy
        unfold l_X11_extracts_8
        rw [e_n (PS_MG h), e_bs, if_neg (i_nle (by omega) (by omega)), i32_1, i32_add, e1, e_bs, p_of hs (by omega), e_bs, p_of (by omega) (by omega), e_bs, k1 s (by omega), hfs, hD, e_bd, m64 hm, e_nzL (oiz_ne hz)]
        exact hy
      by_cases hr : rtOK G (f s) z k
      · left
        refine ⟨(PS σ (uS f1 t (rtU G (f s) z (k + 1))), i32 (k + 1)), gn G - (k + 1), by omega, ?_, k + 1, _, by omega, rfl, rfl, uS_self, fun i hi => ?_, fun q hq => by rw [uS_ne (by omega), k1 q (by omega), h3 q hq]⟩
        · refine hbody _ ?_
          have hr' : rtD G (f s) z (rtU G (f s) z k) k / oi z * oi z = rtD G (f s) z (rtU G (f s) z k) k := hr
          rw [hr', Int64.sub_self, if_pos rfl, e_nzL (oiz_ne hz), show rtD G (f s) z (rtU G (f s) z k) k / oi z = oi (rtE G (f s) z (rtU G (f s) z k) k) from oi_toInt'.symm, p_puts (by omega) (by omega), e_bs, i32_1, i32_add, k1 t (by omega), h1]
          rfl
        · by_cases hi2 : i = k
          · rw [hi2]; exact hr
          · exact h2 i (by omega)
      · right
        refine ⟨(false, PS σ f1), ?_, false, f1, rfl, ⟨fun q => absurd q (by decide), fun q => absurd (q k (by omega)) hr⟩, fun q => absurd q (by decide), fun q hq => by rw [k1 q (by omega), h3 q hq]⟩
        refine hbody _ ?_
        rw [if_neg]
        intro hq
        have e3 : rtD G (f s) z (rtU G (f s) z k) k = rtD G (f s) z (rtU G (f s) z k) k / oi z * oi z := by
          have := congrArg (· + rtD G (f s) z (rtU G (f s) z k) k / oi z * oi z) hq
          simp only [Int64.sub_add_cancel, Int64.zero_add] at this
          exact this
        exact hr e3.symm
end RT
