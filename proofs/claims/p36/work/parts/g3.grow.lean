/-! the reference's columns: how their numbers grow by what is cleared -/
section GRO
variable {C D : Nat → Nat → Int} {m f k : Nat}
theorem Cln.nz (h : Cln m f k C D) (hz : ∀ c, f ≤ c → c < m → D c k = 0) : ∀ c, f ≤ c → c < m → C c k = 0 := by
  intro c c1 c2
  refine Classical.byContradiction (fun q => ?_)
  obtain ⟨e, e1, e2, e3⟩ := h (fun E => ∃ e, f ≤ e ∧ e < m ∧ E e k ≠ 0) (fun E b b1 b2 i => by
    obtain ⟨e, e1, e2, e3⟩ := i
    by_cases h1 : e = b
    · refine ⟨f, Nat.le_refl _, by omega, ?_⟩
      rw [swp_f, ← h1]
      exact e3
    · by_cases h2 : e = f
      · refine ⟨b, b1, b2, ?_⟩
        unfold swpC
        rw [if_pos rfl, ← h2]
        exact e3
      · refine ⟨e, e1, e2, ?_⟩
        unfold swpC
        rw [if_neg h1, if_neg h2]
        exact e3) (fun E h0 _ i => by
    obtain ⟨e, e1, e2, e3⟩ := i
    refine ⟨f, Nat.le_refl _, by omega, ?_⟩
    rw [rnd_at (by omega)]
    exact h0) ⟨c, c1, c2, q⟩
  exact e3 (hz e e1 e2)
theorem Cln.perm (h : Cln m f k C D) (hz : ∀ c, f ≤ c → c < m → C c k = 0) : ∀ c, f ≤ c → c < m → ∃ e, f ≤ e ∧ e < m ∧ D c = C e := by
  refine (h (fun E => (∀ c, f ≤ c → c < m → ∃ e, f ≤ e ∧ e < m ∧ E c = C e) ∧ ∀ c, f ≤ c → c < m → E c k = 0) (fun E b b1 b2 i => ⟨fun c c1 c2 => ?_, fun c c1 c2 => ?_⟩) (fun E h0 _ i => ?_) ⟨fun c c1 c2 => ⟨c, c1, c2, rfl⟩, hz⟩).1
  · obtain ⟨e, e1, e2, e3⟩ := swp_perm (C := E) b1 b2 c1 c2
    rw [e3]
    exact i.1 e e1 e2
  · obtain ⟨e, e1, e2, e3⟩ := swp_perm (C := E) b1 b2 c1 c2
    rw [e3]
    exact i.2 e e1 e2
  · by_cases hf : f < m
    · exact absurd (i.2 f (Nat.le_refl _) hf) h0
    · exact ⟨fun c c1 c2 => by omega, fun c c1 c2 => by omega⟩
def gG (X : Int) : Nat → Int
  | 0 => X
  | p + 1 => 2 * gG X p * gG X p
def gH (X : Int) : Nat → Int
  | 0 => 1
  | 1 => X
  | p + 2 => 2 * gG X (p + 1) * gH X (p + 1)
theorem gG_pos {X : Int} (hX : 1 ≤ X) : ∀ p, 1 ≤ gG X p
  | 0 => hX
  | p + 1 => by
    have h := gG_pos hX p
    show 1 ≤ 2 * gG X p * gG X p
    have h2 : gG X p * 1 ≤ gG X p * gG X p := Int.mul_le_mul_of_nonneg_left h (by omega)
    rw [Int.mul_assoc]
    omega
theorem gG_up {X : Int} (hX : 1 ≤ X) (p : Nat) : gG X p ≤ gG X (p + 1) := by
  have h := gG_pos hX p
  show _ ≤ 2 * gG X p * gG X p
  have h2 : gG X p * 1 ≤ gG X p * gG X p := Int.mul_le_mul_of_nonneg_left h (by omega)
  rw [Int.mul_assoc]
  omega
theorem gG_mono {X : Int} (hX : 1 ≤ X) {p : Nat} : ∀ q, gG X p ≤ gG X (p + q)
  | 0 => Int.le_refl _
  | q + 1 => Int.le_trans (gG_mono hX q) (gG_up hX (p + q))
theorem gH_pos {X : Int} (hX : 1 ≤ X) : ∀ p, 1 ≤ gH X p
  | 0 => by show (1 : Int) ≤ 1; omega
  | 1 => hX
  | p + 2 => by
    have h := gH_pos hX (p + 1)
    have g := gG_pos hX (p + 1)
    show 1 ≤ 2 * gG X (p + 1) * gH X (p + 1)
    have h2 : gG X (p + 1) * 1 ≤ gG X (p + 1) * gH X (p + 1) := Int.mul_le_mul_of_nonneg_left h (by omega)
    rw [Int.mul_assoc]
    omega
theorem gH_up {X : Int} (hX : 1 ≤ X) : ∀ p, gH X p ≤ gH X (p + 1)
  | 0 => hX
  | p + 1 => by
    have h := gH_pos hX (p + 1)
    have g := gG_pos hX (p + 1)
    show _ ≤ 2 * gG X (p + 1) * gH X (p + 1)
    have h2 : 1 * gH X (p + 1) ≤ gG X (p + 1) * gH X (p + 1) := Int.mul_le_mul_of_nonneg_right g (by omega)
    rw [Int.mul_assoc]
    omega
theorem gH_mono {X : Int} (hX : 1 ≤ X) {p : Nat} : ∀ q, gH X p ≤ gH X (p + q)
  | 0 => Int.le_refl _
  | q + 1 => Int.le_trans (gH_mono hX q) (gH_up hX (p + q))
/-- the columns behind f, when the numbers ahead of k are cleared -/
def Gro (X : Int) (m lo hi : Nat) (T : Nat → Prop) (k f : Nat) (C : Nat → Nat → Int) : Prop :=
  (f = 0 ∨ (f + lo ≤ k ∧ f + lo ≤ hi)) ∧ (∀ c, f ≤ c → c < m → ∀ j, j < 6 → (j < lo ∨ hi ≤ j) → C c j = 0) ∧ (∀ c, f ≤ c → c < m → ∀ j, j < 6 → Wi (gG X f) (C c j)) ∧ (∀ c, f ≤ c → c < m → ∀ j, T j → Wi (gH X f) (C c j)) ∧ (f = 0 → ∀ c e, c < m → e < m → ∀ i j, i < 6 → T j → Wi X (C c i * C e j - C e i * C c j))
theorem Gro.next {X : Int} {lo hi : Nat} {T : Nat → Prop} {pv : Bool} (hX : 1 ≤ X) (hk : k < 6) (h : Gro X m lo hi T k f C) (hc : Cln m f k C D) (ho : CloT m f k D pv) : Gro X m lo hi T (k + 1) (f + if pv = true then 1 else 0) D := by
  obtain ⟨g1, g2, g3, g4, g5⟩ := h
  rcases ho with ⟨rfl, hz⟩ | ⟨rfl, hf, hp, hz⟩
  · have hp := hc.perm (hc.nz hz)
    rw [if_neg (by decide), Nat.add_zero]
    refine ⟨?_, fun c c1 c2 j hj hr => ?_, fun c c1 c2 j hj => ?_, fun c c1 c2 j hj => ?_, fun h0 c e c2 e2 i j hi hj => ?_⟩
    · rcases g1 with g1 | g1
      · exact Or.inl g1
      · exact Or.inr ⟨by omega, g1.2⟩
    · obtain ⟨e, e1, e2, e3⟩ := hp c c1 c2
      rw [e3]; exact g2 e e1 e2 j hj hr
    · obtain ⟨e, e1, e2, e3⟩ := hp c c1 c2
      rw [e3]; exact g3 e e1 e2 j hj
    · obtain ⟨e, e1, e2, e3⟩ := hp c c1 c2
      rw [e3]; exact g4 e e1 e2 j hj
    · obtain ⟨c', c'1, c'2, c'3⟩ := hp c (by omega) c2
      obtain ⟨e', e'1, e'2, e'3⟩ := hp e (by omega) e2
      rw [c'3, e'3]
      exact g5 h0 c' e' c'2 e'2 i j hi hj
  · rw [if_pos rfl]
    have hin : ¬ (k < lo ∨ hi ≤ k) := fun q => hp ((hc.zero (j := k) (fun c c1 c2 => g2 c c1 c2 k hk q)) f (Nat.le_refl _) hf)
    have P := gG_pos hX f
    have U := gG_up hX f
    refine ⟨Or.inr ?_, fun c c1 c2 j hj hr => ?_, fun c c1 c2 j hj => ?_, fun c c1 c2 j hj => ?_, fun h0 => absurd h0 (by omega)⟩
    · rcases g1 with g1 | g1
      · exact ⟨by omega, by omega⟩
      · exact ⟨by omega, by omega⟩
    · exact hc.zero (fun c c1 c2 => g2 c c1 c2 j hj hr) c (by omega) c2
    · refine (hc.wi (j := j) (B := gG X (f + 1)) (fun c c1 c2 => (g3 c c1 c2 j hj).mono U) (fun c e c1 c2 e1 e2 => ?_)).1 c (by omega) c2
      exact cross_wi (g3 c c1 c2 k hk) (g3 e e1 e2 k hk) (g3 c c1 c2 j hj) (g3 e e1 e2 j hj)
    · have U2 := gH_up hX f
      refine (hc.wi (j := j) (B := gH X (f + 1)) (fun c c1 c2 => (g4 c c1 c2 j hj).mono U2) (fun c e c1 c2 e1 e2 => ?_)).1 c (by omega) c2
      cases f with
      | zero => exact g5 rfl c e c2 e2 k j hk hj
      | succ p => exact cross_wi (g3 c c1 c2 k hk) (g3 e e1 e2 k hk) (g4 c c1 c2 j hj) (g4 e e1 e2 j hj)
theorem r_canMakeG {σ : Mem} {X : Int} {lo hi : Nat} {T : Nat → Prop} {C0 : Nat → Nat → Int} (hX : 1 ≤ X) (hm : m ≤ 20) (hC : Cl σ C0 m) (h31 : σ.1 306 31 = i32 m) (h0 : Gro X m lo hi T 0 0 C0) (hfit : ∀ p, p + 1 ≤ m → p + lo + 1 ≤ hi → gG X p ≤ 2 ^ 62) : ∃ b τ, f_X11_canMake σ = some (b, τ) ∧ FCm σ τ ∧ (b = true → ∃ f C, f ≤ m ∧ τ.1 306 34 = i32 f ∧ Cl τ C m ∧ Gro X m lo hi T 6 f C) := by
  refine r_canMakeT (Bd := Gro X m lo hi T) hm hC h31 (fun k f C hk hf h => ⟨fun c c1 c2 => ?_, fun D pv hc ho => h.next hX hk hc ho⟩) h0
  by_cases hin : k < lo ∨ hi ≤ k
  · rw [h.2.1 c c1 c2 k hk hin]
    exact ⟨by omega, by omega⟩
  · refine (h.2.2.1 c c1 c2 k hk).mono (hfit f (by omega) ?_)
    rcases h.1 with q | q
    · omega
    · omega
end GRO
