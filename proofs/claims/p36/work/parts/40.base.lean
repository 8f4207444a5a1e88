/-! MATHEMATICS, the base: small numbers, the functions' words, loops -/
def i32 (k : Nat) : Int32 := Int32.ofNat k
theorem i32_0 : (0 : Int32) = i32 0 := rfl
theorem i32_1 : (1 : Int32) = i32 1 := rfl
theorem i32_2 : (2 : Int32) = i32 2 := rfl
theorem i32_3 : (3 : Int32) = i32 3 := rfl
theorem i32_4 : (4 : Int32) = i32 4 := rfl
theorem i32_6 : (6 : Int32) = i32 6 := rfl
theorem i32_8 : (8 : Int32) = i32 8 := rfl
theorem i32_10 : (10 : Int32) = i32 10 := rfl
theorem i32_add {a b : Nat} : i32 a + i32 b = i32 (a + b) := (Int32.ofNat_add a b).symm
theorem i32_mul {a b : Nat} : i32 a * i32 b = i32 (a * b) := (Int32.ofNat_mul a b).symm
theorem i32_toInt {a : Nat} (h : a < 2 ^ 31) : (i32 a).toInt = a := Int32.toInt_ofNat_small h
theorem i32_cl {a : Nat} (h : a < 2 ^ 31) : (i32 a).toNatClampNeg = a := n32 h
theorem i32_le {a b : Nat} (ha : a < 2 ^ 31) (hb : b < 2 ^ 31) : (i32 a ≤ i32 b) = (a ≤ b) := by
  rw [Int32.le_iff_toInt_le, i32_toInt ha, i32_toInt hb]; simp
theorem i32_lt {a b : Nat} (ha : a < 2 ^ 31) (hb : b < 2 ^ 31) : (i32 a < i32 b) = (a < b) := by
  rw [Int32.lt_iff_toInt_lt, i32_toInt ha, i32_toInt hb]; simp
theorem i32_eq {a b : Nat} (ha : a < 2 ^ 31) (hb : b < 2 ^ 31) : (i32 a = i32 b) = (a = b) := by
  rw [← Int32.toInt_inj, i32_toInt ha, i32_toInt hb]; exact propext ⟨fun h => by omega, fun h => by omega⟩
theorem i_le {a b : Nat} (h : a ≤ b) (hb : b < 2 ^ 31) : i32 a ≤ i32 b := by rw [i32_le (by omega) hb]; exact h
theorem i_nle {a b : Nat} (h : b < a) (ha : a < 2 ^ 31) : ¬ i32 a ≤ i32 b := by rw [i32_le ha (by omega)]; omega
theorem i_lt {a b : Nat} (h : a < b) (hb : b < 2 ^ 31) : i32 a < i32 b := by rw [i32_lt (by omega) hb]; exact h
theorem i_nlt {a b : Nat} (h : b ≤ a) (ha : a < 2 ^ 31) : ¬ i32 a < i32 b := by rw [i32_lt ha (by omega)]; omega
theorem i_ne {a b : Nat} (h : a ≠ b) (ha : a < 2 ^ 31) (hb : b < 2 ^ 31) : ¬ i32 a = i32 b := by rw [i32_eq ha hb]; exact h
theorem i_ne0 {a : Nat} (h : a ≠ 0) (ha : a < 2 ^ 31) : ¬ i32 a = 0 := i_ne (b := 0) h ha (by decide)
theorem i32_sub {a b : Nat} (h : b ≤ a) : i32 a - i32 b = i32 (a - b) := by
  have e : i32 a = i32 (a - b) + i32 b := by rw [i32_add]; congr 1; omega
  rw [e, Int32.add_sub_cancel]
theorem i32_inb {a n : Nat} (h : a < n) (hn : n < 2 ^ 31) : inb (i32 a) n := vpin h hn
theorem i32_64 {a : Nat} (h : a < 2 ^ 31) : (i32 a).toInt64 = Int64.ofNat a := by
  rw [← Int64.toInt_inj, Int32.toInt_toInt64, i32_toInt h]
  symm
  rw [Int64.toInt_ofNat_of_lt (by omega)]
section WORDS
variable {α β : Type} {σ : Mem}
theorem e_gI {a n k : Nat} {f : Int32 → Option α} (hn : ln a = n) (h : k < n) (h2 : n < 2 ^ 31) : gI σ a (i32 k) f = f (σ.1 a k) := by
  unfold gI; rw [hn, if_pos (i32_inb h h2), i32_cl (by omega)]
theorem e_gL {a n k : Nat} {f : Int64 → Option α} (hn : ln a = n) (h : k < n) (h2 : n < 2 ^ 31) : gL σ a (i32 k) f = f (σ.2 a k) := by
  unfold gL; rw [hn, if_pos (i32_inb h h2), i32_cl (by omega)]
theorem e_gR {a n k : Nat} {f : Nat → Option α} (hn : ln a = n) (h : k < n) (h2 : n < 2 ^ 31) : gR a (i32 k) f = f (rf a k) := by
  unfold gR; rw [hn, if_pos (i32_inb h h2), i32_cl (by omega)]
theorem e_pI {a n k : Nat} {v : Int32} {f : Mem → Option α} (hn : ln a = n) (h : k < n) (h2 : n < 2 ^ 31) : pI σ a (i32 k) v f = f (wI σ a k v) := by
  unfold pI; rw [hn, if_pos (i32_inb h h2), i32_cl (by omega)]
theorem e_pL {a n k : Nat} {v : Int64} {f : Mem → Option α} (hn : ln a = n) (h : k < n) (h2 : n < 2 ^ 31) : pL σ a (i32 k) v f = f (wL σ a k v) := by
  unfold pL; rw [hn, if_pos (i32_inb h h2), i32_cl (by omega)]
theorem e_gF {a k : Nat} {f : Int32 → Option α} : gF σ a k f = f (σ.1 a k) := rfl
theorem e_pF {a k : Nat} {v : Int32} {f : Mem → Option α} : pF σ a k v f = f (wI σ a k v) := rfl
theorem e_bd {v : β} {f : β → Option α} : bd v f = f v := rfl
theorem e_bs {v : β} {f : β → Option α} : (some v).bind f = f v := rfl
theorem e_bq {r : β} {τ : Mem} {f : β → Mem → Option α} : bq (some (r, τ)) f = f r τ := rfl
theorem e_gZ {a k : Nat} {b : Bool} {f : Bool → Option α} (h : σ.1 a k = b2i b) : gZ σ a k f = f b := by
  unfold gZ; rw [h]; cases b <;> rfl
theorem e_nzL {y : Int64} {f : Option α} (h : y ≠ 0) : nzL y f = f := if_neg h
theorem e_nzI {y : Int32} {f : Option α} (h : y ≠ 0) : nzI y f = f := if_neg h
end WORDS
/-- a loop that counts -/
theorem loop_up {S X : Type} {body : S → Option (S ⊕ X)} (st : Nat → S) (a n : Nat) (x : X) (h : a ≤ n) (hs : ∀ k, a ≤ k → k < n → body (st k) = some (Sum.inl (st (k + 1)))) (he : body (st n) = some (Sum.inr x)) : loopO body (st a) = some x := by
  have key : ∀ d, d ≤ n - a → loopO body (st (n - d)) = some x := by
    intro d
    induction d with
    | zero =>
      intro _
      rw [Nat.sub_zero, loopO_eq, he]; rfl
    | succ d ih =>
      intro hd
      have hk : n - (d + 1) + 1 = n - d := by omega
      rw [loopO_eq, hs (n - (d + 1)) (by omega) (by omega), hk]
      exact ih (by omega)
  have := key (n - a) (Nat.le_refl _)
  rwa [show n - (n - a) = a by omega] at this
theorem loop_at {S X : Type} {body : S → Option (S ⊕ X)} {s0 : S} {x : X} (st : Nat → S) (a n : Nat) (h0 : st a = s0) (h : a ≤ n) (hs : ∀ k, a ≤ k → k < n → body (st k) = some (Sum.inl (st (k + 1)))) (he : body (st n) = some (Sum.inr x)) : loopO body s0 = some x := by
  subst h0; exact loop_up st a n x h hs he
/-- a loop that comes to an end with what is kept -/
theorem loop_inv {S X : Type} {body : S → Option (S ⊕ X)} (I : Nat → S → Prop) (Q : X → Prop) (hb : ∀ n s, I n s → (∃ s' n', n' < n ∧ body s = some (Sum.inl s') ∧ I n' s') ∨ (∃ x, body s = some (Sum.inr x) ∧ Q x)) : ∀ (n : Nat) (s : S), I n s → ∃ x, loopO body s = some x ∧ Q x := by
  intro n
  induction n using Nat.strongRecOn with
  | ind n ih =>
    intro s h
    rcases hb n s h with ⟨s', n', h1, h2, h3⟩ | ⟨x, h2, h3⟩
    · obtain ⟨x, h4, h5⟩ := ih n' h1 s' h3
      exact ⟨x, by rw [loopO_eq, h2]; exact h4, h5⟩
    · exact ⟨x, by rw [loopO_eq, h2]; rfl, h3⟩
/-! reading what was written -/
theorem wI_1 {σ : Mem} {a k : Nat} {v : Int32} {x y : Nat} : (wI σ a k v).1 x y = if x = a ∧ y = k then v else σ.1 x y := rfl
theorem wI_2 {σ : Mem} {a k : Nat} {v : Int32} : (wI σ a k v).2 = σ.2 := rfl
theorem wL_1 {σ : Mem} {a k : Nat} {v : Int64} : (wL σ a k v).1 = σ.1 := rfl
theorem wL_2 {σ : Mem} {a k : Nat} {v : Int64} {x y : Nat} : (wL σ a k v).2 x y = if x = a ∧ y = k then v else σ.2 x y := rfl

