/-! the reference's exchange -/
section RE
variable {G : GD} {σ : Mem}
def RW (σ : Mem) (l : List Nat) : Prop := σ.1 306 6 = i32 l.length ∧ ∀ p x, l[p]? = some x → σ.1 309 p = i32 x
/-- what the reference's collecting changes -/
def FX (σ τ : Mem) : Prop := τ.2 = σ.2 ∧ (∀ x, x ≠ 306 → x ≠ 309 → τ.1 x = σ.1 x) ∧ ∀ c, c ≠ 6 → c ≠ 7 → τ.1 306 c = σ.1 306 c
theorem FX.refl : FX σ σ := ⟨rfl, fun _ _ _ => rfl, fun _ _ _ => rfl⟩
theorem FX.trans {τ υ : Mem} (h : FX σ τ) (k : FX τ υ) : FX σ υ := ⟨k.1.trans h.1, fun x h1 h2 => (k.2.1 x h1 h2).trans (h.2.1 x h1 h2), fun c h1 h2 => (k.2.2 c h1 h2).trans (h.2.2 c h1 h2)⟩
theorem MG.fx {τ : Mem} (h : MG σ G) (k : FX σ τ) : MG τ G := by
  unfold MG
  rw [k.2.1 307 (by omega) (by omega)]
  exact h
theorem twD_succ {j i d : Nat} : twD G j i (d + 1) = List.replicate (gt G j i (gn G - 1 - d)) (gn G - 1 - d) ++ twD G j i d := rfl
theorem tw_suffix {j i : Nat} : ∀ e d, d + e = gn G - 1 - j → ∃ X, tw G j i = X ++ twD G j i d := by
  intro e
  induction e with
  | zero => intro d h; exact ⟨[], by unfold tw; rw [← h]; rfl⟩
  | succ e ih =>
    intro d h
    obtain ⟨X, hX⟩ := ih (d + 1) (by omega)
    exact ⟨X ++ List.replicate (gt G j i (gn G - 1 - d)) (gn G - 1 - d), by rw [hX, twD_succ, List.append_assoc]⟩
theorem r_sum (h : MG σ G) (hG : GOK G) {j i : Nat} (hi : i < j) (hj : j < gn G) :
    loopO (fun (z34 : Int32 × Int32) => l_X11_exchanges_24 σ (i32 j) (i32 i) z34.1 z34.2) (0, i32 (j + 1)) = some (i32 (tw G j i).length) := by
  have hn := hG.2.1
  have hl := loop_inv (body := fun (z34 : Int32 × Int32) => l_X11_exchanges_24 σ (i32 j) (i32 i) z34.1 z34.2) (fun n z => ∃ d, d ≤ gn G - 1 - j ∧ n = d ∧ z = (i32 ((tw G j i).length - (twD G j i d).length), i32 (gn G - d)) ∧ (twD G j i d).length ≤ (tw G j i).length) (fun r => r = i32 (tw G j i).length) ?_ (gn G - 1 - j) (0, i32 (j + 1)) ⟨gn G - 1 - j, Nat.le_refl _, rfl, by
      rw [show gn G - (gn G - 1 - j) = j + 1 by omega]
      show _ = (i32 ((tw G j i).length - (tw G j i).length), _)
      rw [Nat.sub_self]; rfl, Nat.le_refl _⟩
  · obtain ⟨r, h1, h2⟩ := hl
    rw [h1, h2]
  · rintro n z ⟨d, hd, rfl, rfl, hle⟩
    cases n with
    | zero =>
      right
      refine ⟨_, ?_, rfl⟩
      show l_X11_exchanges_24 σ (i32 j) (i32 i) _ (i32 (gn G - 0)) = _
      unfold l_X11_exchanges_24
      rw [e_n h, e_bs, if_pos (i_le (by omega) (by omega))]
      rfl
    | succ d =>
      left
      have hl1 : (twD G j i (d + 1)).length = gt G j i (gn G - 1 - d) + (twD G j i d).length := by
        rw [twD_succ, List.length_append, List.length_replicate]
      have h12 := tw_len12 hG hi
      refine ⟨(i32 ((tw G j i).length - (twD G j i d).length), i32 (gn G - d)), d, by omega, ?_, d, by omega, rfl, rfl, by omega⟩
      show l_X11_exchanges_24 σ (i32 j) (i32 i) (i32 ((tw G j i).length - (twD G j i (d + 1)).length)) (i32 (gn G - (d + 1))) = _
      unfold l_X11_exchanges_24
      rw [e_n h, e_bs, if_neg (i_nle (by omega) (by omega)), e_tail h (by omega) (by omega) (by omega), e_bs, e_bd, i32_add, i32_1, i32_add, show gn G - (d + 1) + 1 = gn G - d by omega, show gn G - (d + 1) = gn G - 1 - d by omega]
      congr 4
      omega
theorem r_shift {l : List Nat} {at_ more : Nat} (hl : l.length + more ≤ 16000) (hat : at_ + 1 < l.length) (h : RW σ l) :
    ∃ τ, loopO (fun (z30 : Mem × Int32) => l_X11_exchanges_60 (i32 at_) (i32 more) z30.1 z30.2) (σ, i32 (l.length - 1)) = some τ ∧ FX σ τ ∧ τ.1 306 = σ.1 306 ∧ (∀ p x, p ≤ at_ + 1 → l[p]? = some x → τ.1 309 p = i32 x) ∧ ∀ p x, at_ + 1 < p → l[p]? = some x → τ.1 309 (p + more) = i32 x := by
  have hl' := loop_inv (body := fun (z30 : Mem × Int32) => l_X11_exchanges_60 (i32 at_) (i32 more) z30.1 z30.2) (fun n z => ∃ k τ, at_ + 1 ≤ k ∧ k < l.length ∧ n = k ∧ z = (τ, i32 k) ∧ FX σ τ ∧ τ.1 306 = σ.1 306 ∧ (∀ p x, p ≤ k → l[p]? = some x → τ.1 309 p = i32 x) ∧ ∀ p x, k < p → l[p]? = some x → τ.1 309 (p + more) = i32 x) (fun τ => FX σ τ ∧ τ.1 306 = σ.1 306 ∧ (∀ p x, p ≤ at_ + 1 → l[p]? = some x → τ.1 309 p = i32 x) ∧ ∀ p x, at_ + 1 < p → l[p]? = some x → τ.1 309 (p + more) = i32 x) ?_ (l.length - 1) (σ, i32 (l.length - 1)) ⟨l.length - 1, σ, by omega, by omega, rfl, rfl, FX.refl, rfl, fun p x _ hx => h.2 p x hx, fun p x hp hx => by
      rw [List.getElem?_eq_none (by omega)] at hx; cases hx⟩
  · exact hl'
  · rintro n z ⟨k, τ, hk1, hk2, rfl, rfl, f, e6, a1, a2⟩
    by_cases hk : n = at_ + 1
    · right
      subst hk
      refine ⟨τ, ?_, f, e6, a1, a2⟩
      show l_X11_exchanges_60 (i32 at_) (i32 more) τ (i32 (at_ + 1)) = _
      unfold l_X11_exchanges_60
      rw [i32_1, i32_add, if_pos (i_le (Nat.le_refl _) (by omega))]
    · left
      obtain ⟨x, hx⟩ : ∃ x, l[n]? = some x := ⟨l[n], List.getElem?_eq_getElem hk2⟩
      have hv := a1 n x (Nat.le_refl _) hx
      refine ⟨(wI τ 309 (n + more) (i32 x), i32 (n - 1)), n - 1, by omega, ?_, n - 1, _, by omega, by omega, rfl, rfl, ⟨f.1, fun y h1 h2 => ?_, fun c h1 h2 => ?_⟩, ?_, fun p y hp hy => ?_, fun p y hp hy => ?_⟩
      · show l_X11_exchanges_60 (i32 at_) (i32 more) τ (i32 n) = _
        unfold l_X11_exchanges_60
        rw [i32_1, i32_add, if_neg (i_nle (by omega) (by omega)), e_gI ln_309 (by omega) (by omega), hv, i32_add, e_pI ln_309 (by omega) (by omega), ← i32_1, i32_add_one (by omega)]
      · funext q
        rw [wI_1, if_neg (fun z => h2 z.1), f.2.1 y h1 h2]
      · rw [wI_1, if_neg (by omega), f.2.2 c h1 h2]
      · funext q
        rw [wI_1, if_neg (by omega), e6]
      · rw [wI_1, if_neg (by omega)]
        exact a1 p y (by omega) hy
      · rw [wI_1]
        by_cases h1 : p = n
        · rw [if_pos ⟨rfl, by omega⟩]
          rw [h1, hx] at hy
          cases hy; rfl
        · rw [if_neg (by omega)]
          exact a2 p y (by omega) hy
end RE
