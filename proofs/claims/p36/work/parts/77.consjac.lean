/-! consistent: Jacobi's law, for all -/
section CJ
variable {G : GD}
theorem EE_mul (hG : GOK G) {j i : Nat} (hi : i < j) (hj : j < gn G) (m : Nat) : mul G (EE j) (EE i) m = EE i m + EE j m + tI G j i m := by
  rw [mul_EE hG (show i < gn G by omega)]
  have h := TL_swap hG (v := O) hi hj (fun q _ => rfl) m
  rw [TL_O hG (show i < gn G by omega)] at h
  have e : (fun q => O q + if q = j then 1 else 0) = EE j := by
    funext q
    unfold EE O
    split <;> rfl
  rw [e] at h
  rw [h, TL_top hG (v := EE i) hj (fun q hq => by unfold EE; rw [if_neg (by omega)])]
  rfl
theorem ov1 (hG : GOK G) {k j i : Nat} (hi : i < j) (hj : j < k) (hk : k < gn G) : TLs G O (OV1 G k j i) = mul G (EE k) (mul G (EE j) (EE i)) := by
  rw [ov1_mul hG hi (show j < gn G by omega) (EE_mul hG hi (show j < gn G by omega))]
  show TLs G (TL G (TL G (TL G O k 1) i 1) j 1) (tw G j i) = _
  rw [TL_O hG hk, TLs_heavy _ (fun x hx => by
    have h8 := tw_mem (show j < gn G by omega) hx
    have h9 := hG.2.2.2.2.2.2 j i x h8.2.2
    have w1 := (hG.2.2.1 i (by omega)).1
    have w2 := (hG.2.2.1 j (by omega)).1
    omega)]
  funext m
  rw [tw_count hG (show j < gn G by omega)]
theorem Cons.jac (hG : GOK G) (h : Cons G) : Jac G := fun i l j m hil hlj hj hm => by
  have hn := hG.2.1
  refine jac_of hG hil hlj hj hm ?_
  have := h j l i hj hlj hil m (by omega)
  rw [ov0 hG hil hlj hj, ov1 hG hil hlj hj] at this
  exact this
end CJ

