/-! the class's collector follows the machine -/
section CC
variable {G : GD} {σ : Mem}
/-- the class's rules at an address hold G -/
def CG (σ : Mem) (a : Nat) (G : GD) : Prop := σ.1 a 0 = i32 (gn G) ∧ (∀ i, i < 6 → σ.1 (a + 1) i = i32 (gw G i)) ∧ (∀ j i k, j < 6 → i < 6 → k < 6 → σ.1 (a + 2) ((j * 6 + i) * 6 + k) = i32 (gt G j i k))
/-- a stack, its top first -/
def stkA (σ : Mem) (r : Nat) : List Nat → Prop
  | [] => True
  | x :: S => σ.1 r S.length = i32 x ∧ stkA σ r S
def stk (σ : Mem) (c r : Nat) (S : List Nat) : Prop := σ.1 35 c = i32 S.length ∧ stkA σ r S
theorem stkA.keep {τ : Mem} {r : Nat} {S : List Nat} (h : ∀ p, p < S.length → τ.1 r p = σ.1 r p) (hs : stkA σ r S) : stkA τ r S := by
  induction S with
  | nil => trivial
  | cons x S ih =>
    refine ⟨?_, ih (fun p hp => h p (by simp only [List.length_cons]; omega)) hs.2⟩
    rw [h S.length (by simp only [List.length_cons]; omega)]
    exact hs.1
def FR (σ τ : Mem) : Prop := τ.2 = σ.2 ∧ (∀ x, x ≠ 35 → x ≠ 37 → x ≠ 38 → τ.1 x = σ.1 x) ∧ ∀ c, c ≠ 3 → c ≠ 5 → τ.1 35 c = σ.1 35 c
theorem FR.refl : FR σ σ := ⟨rfl, fun _ _ _ _ => rfl, fun _ _ _ => rfl⟩
theorem FR.trans {τ υ : Mem} (h : FR σ τ) (k : FR τ υ) : FR σ υ := ⟨k.1.trans h.1, fun x h1 h2 h3 => (k.2.1 x h1 h2 h3).trans (h.2.1 x h1 h2 h3), fun c h1 h2 => (k.2.2 c h1 h2).trans (h.2.2 c h1 h2)⟩
theorem CG.keep {τ : Mem} {a : Nat} (h : CG σ a G) (k : FR σ τ) (ha : a ≠ 35 ∧ a ≠ 37 ∧ a ≠ 38 ∧ a + 1 ≠ 35 ∧ a + 1 ≠ 37 ∧ a + 1 ≠ 38 ∧ a + 2 ≠ 35 ∧ a + 2 ≠ 37 ∧ a + 2 ≠ 38) : CG τ a G := by
  unfold CG
  rw [k.2.1 a ha.1 ha.2.1 ha.2.2.1, k.2.1 (a + 1) ha.2.2.2.1 ha.2.2.2.2.1 ha.2.2.2.2.2.1, k.2.1 (a + 2) ha.2.2.2.2.2.2.1 ha.2.2.2.2.2.2.2.1 ha.2.2.2.2.2.2.2.2]
  exact h
theorem c_read {a : Nat} (hG : GOK G) (h : CG σ a G) (hr : rf a 2 = a + 2) (hl : ln (a + 2) = 216) {j i k : Nat} (hj : j < 6) (hi : i < 6) (hk : k < 6) : f_X6_read σ a (i32 j) (i32 i) (i32 k) = some (i32 (gt G j i k)) := by
  have hn := hG.2.1
  unfold f_X6_read
  have ht : f_X6_isTail σ a (i32 j) (i32 i) (i32 k) = some (decide (i < j ∧ j < k ∧ k < gn G)) := by
    unfold f_X6_isTail
    rw [i32_0, if_neg (i_nlt (Nat.zero_le _) (by omega))]
    by_cases h1 : i < j
    · rw [if_neg (i_nle h1 (by omega))]
      by_cases h2 : j < k
      · rw [if_neg (i_nle h2 (by omega)), e_gF, h.1]
        by_cases h3 : k < gn G
        · rw [if_neg (i_nle h3 (by omega)), decide_eq_true ⟨h1, h2, h3⟩]; rfl
        · rw [if_pos (i_le (by omega) (by omega)), decide_eq_false (by omega)]; rfl
      · rw [if_pos (i_le (by omega) (by omega)), decide_eq_false (by omega)]; rfl
    · rw [if_pos (i_le (by omega) (by omega)), decide_eq_false (by omega)]; rfl
  rw [ht, e_bs]
  by_cases h1 : i < j ∧ j < k ∧ k < gn G
  · rw [decide_eq_true h1, if_pos rfl, i32_6, i32_mul, i32_add, i32_mul, i32_add, hr, e_gI hl (by omega) (by omega), h.2.2 j i k hj hi hk]
  · rw [decide_eq_false h1, if_neg (by decide)]
    have : gt G j i k = 0 := Classical.byContradiction (fun z => h1 (by have := hG.2.2.2.2.2.2 j i k z; omega))
    rw [this]; rfl
theorem c_putAhead {W : List Nat} {S : List Nat} {x : Nat} (hS : stk σ 3 37 S) (h : stk σ 5 38 W) (hl : W.length < 12076) : ∃ τ, f_X2_putAhead σ (i32 x) = some τ ∧ FR σ τ ∧ stk τ 3 37 S ∧ stk τ 5 38 (x :: W) := by
  unfold f_X2_putAhead
  have e1 : ¬ (12076 : Int32) ≤ i32 W.length := by
    rw [show (12076 : Int32) = i32 12076 from rfl]; exact i_nle hl (by omega)
  refine ⟨wI (wI σ 38 W.length (i32 x)) 35 5 (i32 (W.length + 1)), ?_, ⟨rfl, ?_, ?_⟩, ⟨?_, ?_⟩, ?_, ?_, ?_⟩
  · rw [e_gF, h.1, if_neg e1, e_gF, h.1, e_pI ln_38 hl (by omega), e_gF, e_pF, wI_1, if_neg (by omega), h.1, i32_1, i32_add]
  · intro y h1 _ h3
    funext k
    rw [wI_1, if_neg (by omega), wI_1, if_neg (by omega)]
  · intro c h1 h2
    rw [wI_1, if_neg (by omega), wI_1, if_neg (by omega)]
  · rw [wI_1, if_neg (by omega), wI_1, if_neg (by omega)]; exact hS.1
  · exact hS.2.keep (fun p _ => by rw [wI_1, if_neg (by omega), wI_1, if_neg (by omega)])
  · rw [wI_1, if_pos ⟨rfl, rfl⟩]; rfl
  · rw [wI_1, if_neg (by omega), wI_1, if_pos ⟨rfl, rfl⟩]
  · exact h.2.keep (fun p hp => by rw [wI_1, if_neg (by omega), wI_1, if_neg (by omega)])
theorem c_moveOn {W S : List Nat} {i : Nat} (hS : stk σ 3 37 S) (h : stk σ 5 38 (i :: W)) (hl : S.length < 12076) (hl2 : W.length < 12076) : ∃ τ, f_X2_moveOn σ (i32 i) = some τ ∧ FR σ τ ∧ stk τ 3 37 (i :: S) ∧ stk τ 5 38 W := by
  unfold f_X2_moveOn
  have e1 : ¬ (12076 : Int32) ≤ i32 S.length := by
    rw [show (12076 : Int32) = i32 12076 from rfl]; exact i_nle hl (by omega)
  have e2 : i32 (W.length + 1) - i32 1 = i32 W.length := i32_sub (by omega)
  have e3 : (wI σ 35 5 (i32 W.length)).1 35 3 = i32 S.length := by rw [wI_1, if_neg (by omega)]; exact hS.1
  have e4 : (wI (wI σ 35 5 (i32 W.length)) 37 S.length (i32 i)).1 35 3 = i32 S.length := by rw [wI_1, if_neg (by omega)]; exact e3
  refine ⟨wI (wI (wI σ 35 5 (i32 W.length)) 37 S.length (i32 i)) 35 3 (i32 (S.length + 1)), ?_, ⟨rfl, ?_, ?_⟩, ⟨?_, ?_, ?_⟩, ?_, ?_⟩
  · rw [e_gF, h.1, e_pF, show (1 : Int32) = i32 1 from rfl, List.length_cons, e2, e_gF, e3, if_neg e1, e_gF, e3, e_pI ln_37 hl (by omega), e_gF, e_pF, e4, i32_add]
  · intro y h1 h2 _
    funext k
    rw [wI_1, if_neg (by omega), wI_1, if_neg (by omega), wI_1, if_neg (by omega)]
  · intro c h1 h2
    rw [wI_1, if_neg (by omega), wI_1, if_neg (by omega), wI_1, if_neg (by omega)]
  · rw [wI_1, if_pos ⟨rfl, rfl⟩]; rfl
  · rw [wI_1, if_neg (by omega), wI_1, if_pos ⟨rfl, rfl⟩]
  · exact hS.2.keep (fun p hp => by rw [wI_1, if_neg (by omega), wI_1, if_neg (by omega), wI_1, if_neg (by omega)])
  · rw [wI_1, if_neg (by omega), wI_1, if_neg (by omega), wI_1, if_pos ⟨rfl, rfl⟩]
  · exact h.2.2.keep (fun p hp => by rw [wI_1, if_neg (by omega), wI_1, if_neg (by omega), wI_1, if_neg (by omega)])
/-- so many of one letter, put ahead -/
theorem c_putMany {W S : List Nat} {x t : Nat} (ht : t ≤ 3) (hS : stk σ 3 37 S) (h : stk σ 5 38 W) (hl : W.length + 3 < 12076) :
    ∃ τ, loopO (fun (z15 : Mem × Int32) => l_X2_exchange_44 (i32 x) z15.1 z15.2) (σ, i32 t) = some τ ∧ FR σ τ ∧ stk τ 3 37 S ∧ stk τ 5 38 (List.replicate t x ++ W) := by
  have hl' := loop_inv (body := fun (z15 : Mem × Int32) => l_X2_exchange_44 (i32 x) z15.1 z15.2) (fun n z => ∃ k τ, k ≤ t ∧ n = t - k ∧ z = (τ, i32 (t - k)) ∧ FR σ τ ∧ stk τ 3 37 S ∧ stk τ 5 38 (List.replicate k x ++ W)) (fun τ => FR σ τ ∧ stk τ 3 37 S ∧ stk τ 5 38 (List.replicate t x ++ W)) ?_ t (σ, i32 t) ⟨0, σ, by omega, by omega, rfl, FR.refl, hS, h⟩
  · exact hl'
  · rintro n z ⟨k, τ, hk, hn, rfl, f, s1, s2⟩
    by_cases hkt : k = t
    · right
      refine ⟨τ, ?_, f, s1, hkt ▸ s2⟩
      show l_X2_exchange_44 _ _ _ = _
      unfold l_X2_exchange_44
      rw [if_pos (show i32 (t - k) ≤ 0 from i_le (b := 0) (by omega) (by omega))]
    · left
      obtain ⟨υ, e, f2, s3, s4⟩ := c_putAhead (σ := τ) (x := x) s1 s2 (by rw [List.length_append, List.length_replicate]; omega)
      refine ⟨(υ, i32 (t - (k + 1))), t - (k + 1), by omega, ?_, k + 1, υ, by omega, rfl, rfl, f.trans f2, s3, s4⟩
      show l_X2_exchange_44 _ _ _ = _
      unfold l_X2_exchange_44
      rw [if_neg (show ¬ i32 (t - k) ≤ 0 from i_nle (b := 0) (by omega) (by omega)), e, e_bs]
      have e2 : i32 (t - k) + (-1) = i32 (t - (k + 1)) := by
        rw [show t - k = (t - (k + 1)) + 1 by omega, ← i32_add, ← i32_1, Int32.add_neg_eq_sub, Int32.add_sub_cancel]
      rw [e2]
end CC

