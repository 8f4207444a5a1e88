/-! the reference's exchange, whole -/
section RF
variable {G : GD} {σ : Mem}
/-- row 309 alone, from a place on, up to another -/
def F9 (σ τ : Mem) (lo hi : Nat) : Prop := τ.2 = σ.2 ∧ (∀ x, x ≠ 309 → τ.1 x = σ.1 x) ∧ ∀ p, p < lo ∨ hi ≤ p → τ.1 309 p = σ.1 309 p
theorem r_fillk {k to t : Nat} (h16 : to + t ≤ 16000) (ht : t ≤ 3) :
    ∃ τ, loopO (fun (z26 : Mem × Int32 × Int32) => l_X11_exchanges_147 (i32 k) z26.1 z26.2.1 z26.2.2) (σ, i32 to, i32 t) = some (τ, i32 (to + t)) ∧ F9 σ τ to (to + t) ∧ ∀ p, to ≤ p → p < to + t → τ.1 309 p = i32 k := by
  have hl := loop_inv (body := fun (z26 : Mem × Int32 × Int32) => l_X11_exchanges_147 (i32 k) z26.1 z26.2.1 z26.2.2) (fun n z => ∃ s τ, s ≤ t ∧ n = t - s ∧ z = (τ, i32 (to + s), i32 (t - s)) ∧ F9 σ τ to (to + t) ∧ ∀ p, to ≤ p → p < to + s → τ.1 309 p = i32 k) (fun r => ∃ τ, r = (τ, i32 (to + t)) ∧ F9 σ τ to (to + t) ∧ ∀ p, to ≤ p → p < to + t → τ.1 309 p = i32 k) ?_ t (σ, i32 to, i32 t) ⟨0, σ, Nat.zero_le _, by omega, rfl, ⟨rfl, fun _ _ => rfl, fun _ _ => rfl⟩, fun p h1 h2 => by omega⟩
  · obtain ⟨r, e, τ, rfl, f, v⟩ := hl
    exact ⟨τ, e, f, v⟩
  · rintro n z ⟨s, τ, hs, rfl, rfl, f, v⟩
    by_cases hst : s = t
    · right
      subst hst
      refine ⟨(τ, i32 (to + s)), ?_, τ, rfl, f, v⟩
      show l_X11_exchanges_147 (i32 k) τ (i32 (to + s)) (i32 (s - s)) = _
      unfold l_X11_exchanges_147
      rw [Nat.sub_self, if_pos (show i32 0 ≤ 0 by decide)]
    · left
      refine ⟨(wI τ 309 (to + s) (i32 k), i32 (to + (s + 1)), i32 (t - (s + 1))), t - (s + 1), by omega, ?_, s + 1, _, by omega, rfl, rfl, ⟨f.1, fun x hx => ?_, fun p hp => ?_⟩, fun p h1 h2 => ?_⟩
      · show l_X11_exchanges_147 (i32 k) τ (i32 (to + s)) (i32 (t - s)) = _
        unfold l_X11_exchanges_147
        rw [if_neg (show ¬ i32 (t - s) ≤ 0 from i_nle (b := 0) (by omega) (by omega)), e_pI ln_309 (by omega) (by omega), e_bd, i32_add_one (by omega), i32_1, i32_add]
        rw [show t - s - 1 = t - (s + 1) by omega]
        rfl
      · funext q; rw [wI_1, if_neg (fun z => hx z.1), f.2.1 x hx]
      · rw [wI_1, if_neg (by omega), f.2.2 p hp]
      · rw [wI_1]
        by_cases h3 : p = to + s
        · rw [if_pos ⟨rfl, h3⟩]
        · rw [if_neg (fun z => h3 z.2)]; exact v p h1 (by omega)
theorem r_fill (h : MG σ G) (hG : GOK G) {j i to : Nat} (hi : i < j) (hj : j < gn G) (h16 : to + 12 ≤ 16000) :
    ∃ τ, loopO (fun (z19 : Mem × Int32 × Int32) => l_X11_exchanges_128 (i32 j) (i32 i) z19.1 z19.2.1 z19.2.2) (σ, i32 to, i32 (j + 1)) = some τ ∧ F9 σ τ to (to + (tw G j i).length) ∧ ∀ q x, (tw G j i)[q]? = some x → τ.1 309 (to + q) = i32 x := by
  have hn := hG.2.1
  have h12 := tw_len12 hG hi
  have hl := loop_inv (body := fun (z19 : Mem × Int32 × Int32) => l_X11_exchanges_128 (i32 j) (i32 i) z19.1 z19.2.1 z19.2.2) (fun n z => ∃ d X τ, d ≤ gn G - 1 - j ∧ n = d ∧ tw G j i = X ++ twD G j i d ∧ z = (τ, i32 (to + X.length), i32 (gn G - d)) ∧ F9 σ τ to (to + (tw G j i).length) ∧ ∀ q x, X[q]? = some x → τ.1 309 (to + q) = i32 x) (fun τ => F9 σ τ to (to + (tw G j i).length) ∧ ∀ q x, (tw G j i)[q]? = some x → τ.1 309 (to + q) = i32 x) ?_ (gn G - 1 - j) (σ, i32 to, i32 (j + 1)) ⟨gn G - 1 - j, [], σ, Nat.le_refl _, rfl, rfl, by
      rw [show gn G - (gn G - 1 - j) = j + 1 by omega]; rfl, ⟨rfl, fun _ _ => rfl, fun _ _ => rfl⟩, fun q x hx => by simp at hx⟩
  · exact hl
  · rintro n z ⟨d, X, τ, hd, rfl, hX, rfl, f, v⟩
    have hm : MG τ G := by
      unfold MG
      rw [f.2.1 307 (by omega)]
      exact h
    cases n with
    | zero =>
      right
      have hX2 : tw G j i = X := by rw [hX]; exact List.append_nil X
      refine ⟨τ, ?_, f, by rw [hX2]; exact v⟩
      show l_X11_exchanges_128 (i32 j) (i32 i) τ _ (i32 (gn G - 0)) = _
      unfold l_X11_exchanges_128
      rw [e_n hm, e_bs, if_pos (i_le (by omega) (by omega))]
    | succ d =>
      left
      have ht3 := hG.2.2.2.2.2.1 j i (gn G - 1 - d)
      have hlen : (tw G j i).length = X.length + (gt G j i (gn G - 1 - d) + (twD G j i d).length) := by
        rw [hX, List.length_append, twD_succ, List.length_append, List.length_replicate]
      obtain ⟨υ, e, f2, v2⟩ := r_fillk (σ := τ) (k := gn G - 1 - d) (to := to + X.length) (t := gt G j i (gn G - 1 - d)) (by omega) ht3
      refine ⟨(υ, i32 (to + (X ++ List.replicate (gt G j i (gn G - 1 - d)) (gn G - 1 - d)).length), i32 (gn G - d)), d, by omega, ?_, d, X ++ List.replicate (gt G j i (gn G - 1 - d)) (gn G - 1 - d), υ, by omega, rfl, by rw [hX, twD_succ, List.append_assoc], rfl, ⟨f2.1.trans f.1, fun x hx => (f2.2.1 x hx).trans (f.2.1 x hx), fun p hp => by rw [f2.2.2 p (by omega), f.2.2 p hp]⟩, fun q x hx => ?_⟩
      · show l_X11_exchanges_128 (i32 j) (i32 i) τ (i32 (to + X.length)) (i32 (gn G - (d + 1))) = _
        unfold l_X11_exchanges_128
        rw [e_n hm, e_bs, if_neg (i_nle (by omega) (by omega)), show gn G - (d + 1) = gn G - 1 - d by omega, e_tail hm (by omega) (by omega) (by omega), e_bs, e, e_bs]
        unfold j_X11_exchanges_173
        rw [i32_1, i32_add, List.length_append, List.length_replicate, show gn G - 1 - d + 1 = gn G - d by omega, Nat.add_assoc]
      · by_cases h1 : q < X.length
        · rw [List.getElem?_append_left h1] at hx
          rw [f2.2.2 (to + q) (by omega)]
          exact v q x hx
        · rw [List.getElem?_append_right (by omega), List.getElem?_replicate] at hx
          by_cases h2 : q - X.length < gt G j i (gn G - 1 - d)
          · rw [if_pos h2] at hx
            cases hx
            exact v2 (to + q) (by omega) (by omega)
          · rw [if_neg h2] at hx; cases hx
end RF
