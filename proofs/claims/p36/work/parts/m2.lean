/-! p36: the law's own small methods, as functions -/
section LWM
variable {σ : Mem} {sl : Nat} {sx : Nat → Int32} {S : AS} {c : Nat}
theorem i32_quo {a m : Nat} (ha : a < 2 ^ 31) (h1 : 1 ≤ m) (h2 : m < 2 ^ 31) : i32 a / i32 m = i32 (a / m) := by
  have h3 := Nat.div_le_self a m
  have e : (a : Int).tdiv (m : Int) = ((a / m : Nat) : Int) := rfl
  rw [← Int32.toInt_inj, Int32.toInt_div, i32_toInt ha, i32_toInt h2, i32_toInt (show a / m < 2 ^ 31 by omega), e]
  generalize a / m = q at h3 ⊢
  exact Int.bmod_eq_of_le (by omega) (by omega)
theorem i32_rem {a m : Nat} (ha : a < 2 ^ 31) (h1 : 1 ≤ m) (h2 : m < 2 ^ 31) : i32 a - i32 a / i32 m * i32 m = i32 (a % m) := by
  rw [i32_quo ha h1 h2, i32_mul, i32_sub (Nat.div_mul_le_self a m)]
  congr 1
  have h3 := Nat.div_add_mod a m
  rw [Nat.mul_comm m (a / m)] at h3
  omega
theorem s_between {x lo hi : Int32} {m : Nat} (hm : hi - lo + 1 = i32 m) (h1 : 1 ≤ m) (h2 : m ≤ 16) : ∃ t, t < m ∧ f_L_between σ x lo hi = some (lo + i32 t) := by
  have hx : x &&& 2147483647 = i32 (x.toBitVec.toNat % 2 ^ 31) := by
    have e := i_andmask x.toBitVec.toNat 31
    rw [← i32_ofbv x] at e
    exact e
  have hlt : x.toBitVec.toNat % 2 ^ 31 < 2 ^ 31 := Nat.mod_lt _ (by omega)
  unfold f_L_between
  rw [hm, e_nzI (show ¬ i32 m = i32 0 from i_ne (by omega) (by omega) (by omega)), hx, i32_rem hlt h1 (by omega)]
  exact ⟨_, Nat.mod_lt _ (by omega), rfl⟩
theorem e_gS {α : Type} {i : Nat} {f : Int32 → Option α} (h : i < sl) (h2 : sl < 2 ^ 31) : gS sl sx (i32 i) f = f (sx i) := by
  unfold gS
  rw [if_pos (i32_inb h h2), i32_cl (by omega)]
theorem s_cell (hl : sl ≤ 260) {k : Nat} (hk : k < 2 ^ 31) : ∃ v, f_L_cell σ sl sx (i32 k) = some v := by
  unfold f_L_cell
  by_cases h : sl ≤ k
  · rw [if_pos (show Int32.ofNat sl ≤ i32 k from i_le h hk)]
    exact ⟨_, rfl⟩
  · rw [if_neg (show ¬ Int32.ofNat sl ≤ i32 k from i_nle (by omega) (by omega)), e_gS (by omega) (by omega)]
    exact ⟨_, rfl⟩
/-- a drawn number between two -/
theorem s_draw (hl : sl ≤ 260) {k : Nat} (hk : k < 2 ^ 31) {lo hi : Int32} {m : Nat} (hm : hi - lo + 1 = i32 m) (h1 : 1 ≤ m) (h2 : m ≤ 16) : ∃ v t, f_L_cell σ sl sx (i32 k) = some v ∧ t < m ∧ f_L_between σ v lo hi = some (lo + i32 t) := by
  obtain ⟨v, e⟩ := s_cell (σ := σ) (sx := sx) hl hk
  obtain ⟨t, ht, e2⟩ := s_between (σ := σ) (x := v) hm h1 h2
  exact ⟨v, t, e, ht, e2⟩
/-! makes, inverts -/
theorem told_ne (x : Int32) : x ≠ x + 1 := fun q => by
  have : x + 0 = x + 1 := by rw [Int32.add_zero]; exact q
  have := Int32.add_right_inj x |>.mp this
  exact absurd this (by decide)
theorem s_makes (h : ICls c S σ) (ok : OKS S) (hc : Cons (aG S)) {r p q : Nat} (hr : r < 10) (hp : p < 10) (hq : q < 10) : ∃ τ, f_L_makes σ (i32 r) (i32 p) (i32 q) = some (if isEl (aG S) (mul (aG S) (aR S p) (aR S q)) = true then 1 else 0, τ) ∧ ICls (c + 1) (if isEl (aG S) (mul (aG S) (aR S p) (aR S q)) = true then nS S r (mul (aG S) (aR S p) (aR S q)) else ovS S) τ := by
  obtain ⟨τ, e, i⟩ := s_mult h ok hc hr hp hq
  unfold f_L_makes
  rw [s_look8 h, e_bs, e, e_bq]
  cases hel : isEl (aG S) (mul (aG S) (aR S p) (aR S q)) with
  | true => exact ⟨τ, by rw [if_pos rfl, if_pos rfl], by rw [hel] at i; exact i⟩
  | false =>
    rw [hel, if_neg (by decide)] at i
    have i8 : f_X10_look τ 8 = some ((aT S).1 + 1) := s_look8 i
    exact ⟨τ, by rw [if_neg (by decide), i8, e_bs, if_pos rfl, if_neg (by decide)], by rw [if_neg (by decide)]; exact i⟩
theorem s_inverts (h : ICls c S σ) (ok : OKS S) (hc : Cons (aG S)) {r p : Nat} (hr : r < 10) (hp : p < 10) : ∃ τ, f_L_inverts σ (i32 r) (i32 p) = some (if isEl (aG S) (inv (aG S) (aR S p)) = true then 1 else 0, τ) ∧ ICls (c + 1) (if isEl (aG S) (inv (aG S) (aR S p)) = true then nS S r (inv (aG S) (aR S p)) else ovS S) τ := by
  obtain ⟨τ, e, i⟩ := s_inv h ok hc hr hp
  unfold f_L_inverts
  rw [s_look8 h, e_bs, e, e_bq]
  cases hel : isEl (aG S) (inv (aG S) (aR S p)) with
  | true => exact ⟨τ, by rw [if_pos rfl, if_pos rfl], by rw [hel] at i; exact i⟩
  | false =>
    rw [hel, if_neg (by decide)] at i
    have i8 : f_X10_look τ 8 = some ((aT S).1 + 1) := s_look8 i
    exact ⟨τ, by rw [if_neg (by decide), i8, e_bs, if_pos rfl, if_neg (by decide)], by rw [if_neg (by decide)]; exact i⟩
/-! isOne, areSame -/
theorem o3_0 : o3 0 = 0 := by decide
theorem o3_inj {x y : Int} (hx : -999 ≤ x ∧ x ≤ 999) (hy : -999 ≤ y ∧ y ≤ 999) : o3 x = o3 y ↔ x = y := by
  constructor
  · intro h
    have h1 := congrArg Int32.toInt h
    unfold o3 at h1
    rw [Int32.toInt_ofInt, Int32.toInt_ofInt, show Int32.size = 4294967296 from rfl, Int.bmod_eq_of_le (by omega) (by omega), Int.bmod_eq_of_le (by omega) (by omega)] at h1
    exact h1
  · intro h; rw [h]
theorem s_areSame (h : ICls c S σ) (ok : OKS S) {p q : Nat} (hp : p < 10) (hq : q < 10) (he : ∀ k, k < gn (aG S) → aR S p k = aR S q k) : f_L_areSame σ (i32 p) (i32 q) (i32 (gn (aG S))) = some true := by
  have hn : gn (aG S) ≤ 6 := ok.1.1.2.1
  unfold f_L_areSame
  refine loop_up (body := fun (z1 : Int32) => l_L_areSame_3 σ (i32 p) (i32 q) (i32 (gn (aG S))) z1) (fun k => i32 k) 1 (gn (aG S) + 1) true (by omega) (fun k k1 k2 => ?_) ?_
  · show l_L_areSame_3 σ (i32 p) (i32 q) (i32 (gn (aG S))) (i32 k) = _
    have e1 := s_exp h ok hp (k := k - 1) (by omega)
    have e2 := s_exp h ok hq (k := k - 1) (by omega)
    rw [show k - 1 + 1 = k by omega] at e1 e2
    unfold l_L_areSame_3
    rw [if_neg (i_nlt (by omega) (by omega)), e1, e_bs, e2, e_bs, he _ (by omega), if_pos rfl, i32_1, i32_add]
  · show l_L_areSame_3 σ (i32 p) (i32 q) (i32 (gn (aG S))) (i32 (gn (aG S) + 1)) = _
    unfold l_L_areSame_3
    rw [if_pos (i_lt (by omega) (by omega))]
theorem s_isOne (h : ICls c S σ) (ok : OKS S) {p : Nat} (hp : p < 10) (he : ∀ k, k < gn (aG S) → aR S p k = 0) : f_L_isOne σ (i32 p) (i32 (gn (aG S))) = some true := by
  have hn : gn (aG S) ≤ 6 := ok.1.1.2.1
  unfold f_L_isOne
  refine loop_up (body := fun (z1 : Int32) => l_L_isOne_2 σ (i32 p) (i32 (gn (aG S))) z1) (fun k => i32 k) 1 (gn (aG S) + 1) true (by omega) (fun k k1 k2 => ?_) ?_
  · show l_L_isOne_2 σ (i32 p) (i32 (gn (aG S))) (i32 k) = _
    have e1 := s_exp h ok hp (k := k - 1) (by omega)
    rw [show k - 1 + 1 = k by omega, he _ (by omega), o3_0] at e1
    unfold l_L_isOne_2
    rw [if_neg (i_nlt (by omega) (by omega)), e1, e_bs, if_pos rfl, i32_1, i32_add]
  · show l_L_isOne_2 σ (i32 p) (i32 (gn (aG S))) (i32 (gn (aG S) + 1)) = _
    unfold l_L_isOne_2
    rw [if_pos (i_lt (by omega) (by omega))]
end LWM
