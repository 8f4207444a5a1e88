/-! collect: the call -/
section CLL
variable {σ : Mem} {G : GD}
theorem FA.sc {τ : Mem} (h : FA σ τ) : SC σ τ := ⟨fun x hx => h.2.1 x (by omega) (by omega), fun c _ => by rw [h.2.1 40 (by omega) (by omega)], fun c _ => by rw [h.2.1 144 (by omega) (by omega)], fun x _ => by rw [h.1]⟩
theorem FC.sc {τ : Mem} (h : FC σ τ) : SC σ τ := ⟨fun x hx => h.2.1 x (by omega) (by omega) (by omega) (by omega), fun c _ => by rw [h.2.1 40 (by omega) (by omega) (by omega) (by omega)], fun c _ => by rw [h.2.1 144 (by omega) (by omega) (by omega) (by omega)], fun x _ => by rw [h.1]⟩
theorem FX.sr {τ : Mem} (h : FX σ τ) : SR σ τ := ⟨fun x hx => ⟨h.2.1 x (by omega) (by omega), by rw [h.1]⟩, fun x hx => h.2.1 x (by omega) (by omega), fun c hc => h.2.2 c (by omega) (by omega), by rw [h.1], fun m _ => by rw [h.1]⟩
theorem ICls.tell {c : Nat} {S : AS} {τ : Mem} {T : TD} (h : ICls c S σ) (f : OI 16 σ τ) (hT : CTd τ 16 T) : ICls c (aX S, T, aA S, aI S, aP S, aF S) τ := by
  obtain ⟨h1, h2, h3, h4, h5, h6, h7⟩ := h
  have g2 : ∀ x, τ.2 x = σ.2 x := fun x => by rw [f.1]
  exact ⟨h1.eqs (fun x a b => f.2 x (by omega)) (fun x _ _ => g2 x), hT, h3.eqs (f.2 0 (by omega)) (fun x a _ => f.2 x (by omega)) (fun x _ _ => g2 x), ⟨by rw [f.2 0 (by omega)]; exact h4.1, fun y hy => ⟨(h4.2 y hy).1.eqs (fun x a b => f.2 x (by omega)) (fun x _ _ => g2 x), (h4.2 y hy).2.eqs (f.2 32 (by omega))⟩⟩, ⟨by rw [f.2 0 (by omega)]; exact h5.1, fun p x hp => by rw [f.2 34 (by omega)]; exact h5.2 p x hp⟩, ⟨by rw [f.2 144 (by omega)]; exact h6.1, by rw [f.2 144 (by omega)]; exact h6.2⟩, h7.eqs (fun c _ => by rw [f.2 40 (by omega)]) (fun x hx => f.2 x (by omega)) (fun x _ => g2 x)⟩
/-- what the reference's telling a word changes -/
def FTo (σ τ : Mem) : Prop := τ.2 = σ.2 ∧ (∀ x, x ≠ 306 → x ≠ 318 → τ.1 x = σ.1 x) ∧ ∀ c, c ≠ 27 → τ.1 306 c = σ.1 306 c
theorem IRef.tell {S : AS} {τ : Mem} {T : TD} (h : IRef S σ) (f : FTo σ τ) (hT : RTd τ T) : IRef (aX S, T, aA S, aI S, aP S, aF S) τ := by
  obtain ⟨h1, h2, h3, h4, h5, h6, h7, h8⟩ := h
  have g : ∀ x, x ≠ 306 → x ≠ 318 → τ.1 x = σ.1 x := f.2.1
  have k : ∀ c, c ≠ 27 → τ.1 306 c = σ.1 306 c := f.2.2
  exact ⟨h1.eqs (g 307 (by omega) (by omega)), hT, ⟨by rw [k 3 (by omega)]; exact h3.1, fun j X hj => (h3.2 j X hj).eqs (g 308 (by omega) (by omega))⟩, ⟨by rw [k 37 (by omega)]; exact h4.1, fun y hy => by
    rw [g 323 (by omega) (by omega)]
    exact ⟨(h4.2 y hy).1.eqs (g 323 (by omega) (by omega)), (h4.2 y hy).2⟩⟩, ⟨by rw [k 18 (by omega)]; exact h5.1, fun p x hp => by rw [g 317 (by omega) (by omega)]; exact h5.2 p x hp⟩, ⟨by rw [k 19 (by omega)]; exact h6.1, by rw [k 20 (by omega)]; exact h6.2⟩, h7.eqs (k 9 (by omega)) (k 10 (by omega)) (g 311 (by omega) (by omega)) (by rw [f.1]), fun m hm => by rw [f.1]; exact h8 m hm⟩
def vlt (n b : Nat) : Prop := 97 ≤ b ∧ b < 97 + n
def wdof (w : List Nat) : List Nat := w.map (fun b => b - 97)
theorem i_lt97 {b : Nat} (h : b < 97) : i32 b - 97 < 0 := by
  have h1 : (List.range 97).all (fun k => decide (i32 k - 97 < 0)) = true := by decide +kernel
  exact of_decide_eq_true (List.all_eq_true.mp h1 b (List.mem_range.mpr h))
theorem c_letters {w : List Nat} (hn : gn G ≤ 6) (h0 : σ.1 2 0 = i32 (gn G)) (hl : w.length ≤ 24) (hb : ∀ x : Nat, x ∈ w → x < 256) (hw : ∀ (p x : Nat), w[p]? = some x → σ.1 34 p = i32 x) (hc : CW σ []) : ∃ r, loopO (fun (z11 : (Mem × Int32)) => l_X10_collect_27 (i32 w.length) z11.1 z11.2) (σ, 0) = some r ∧ ∃ τ, FA σ τ ∧ (((∀ x, x ∈ w → vlt (gn G) x) ∧ r = Sum.inl τ ∧ CW τ (wdof w)) ∨ ((¬ ∀ x, x ∈ w → vlt (gn G) x) ∧ r = Sum.inr (-1, τ))) := by
  refine loop_inv (body := fun (z11 : (Mem × Int32)) => l_X10_collect_27 (i32 w.length) z11.1 z11.2) (fun n z => ∃ k τ, k ≤ w.length ∧ n = w.length - k ∧ z = (τ, i32 k) ∧ FA σ τ ∧ CW τ (wdof (w.take k)) ∧ ∀ x, x ∈ w.take k → vlt (gn G) x) _ ?_ w.length (σ, 0) ⟨0, σ, by omega, rfl, rfl, FA.refl, by rw [List.take_zero]; exact hc, fun x hx => by rw [List.take_zero] at hx; cases hx⟩
  rintro n z ⟨k, τ, hk, rfl, rfl, f, c, hv⟩
  by_cases hkn : k = w.length
  · right
    subst hkn
    rw [List.take_length] at c hv
    refine ⟨_, ?_, τ, f, Or.inl ⟨hv, rfl, c⟩⟩
    show l_X10_collect_27 (i32 w.length) τ (i32 w.length) = _
    unfold l_X10_collect_27
    rw [if_pos (i_le (Nat.le_refl _) (by omega))]
  · have hk1 : k < w.length := by omega
    have hgt : w[k]? = some w[k] := List.getElem?_eq_getElem hk1
    have hmem : w[k] ∈ w := List.getElem_mem hk1
    have hb1 := hb _ hmem
    have h34 : τ.1 34 k = i32 w[k] := by rw [f.2.1 34 (by omega) (by omega)]; exact hw k _ hgt
    have h20 : τ.1 2 0 = i32 (gn G) := by rw [f.2.1 2 (by omega) (by omega)]; exact h0
    by_cases hlo : w[k] < 97
    · right
      refine ⟨_, ?_, τ, f, Or.inr ⟨fun q => by have := (q _ hmem).1; omega, rfl⟩⟩
      show l_X10_collect_27 (i32 w.length) τ (i32 k) = _
      unfold l_X10_collect_27
      rw [if_neg (i_nle hk1 (by omega)), e_gI ln_34 (by omega) (by omega), h34, e_bd, if_pos (i_lt97 hlo)]
    · have e97 : i32 w[k] - 97 = i32 (w[k] - 97) := i32_sub (a := w[k]) (b := 97) (by omega)
      have n0 : ¬ i32 (w[k] - 97) < 0 := i_nlt (b := 0) (by omega) (by omega)
      by_cases hhi : w[k] < 97 + gn G
      · left
        obtain ⟨υ, e, f2, c2⟩ := c_add (σ := τ) (x := w[k] - 97) c (by unfold wdof; rw [List.length_map, List.length_take]; omega) (by omega)
        have ht : w.take (k + 1) = w.take k ++ [w[k]] := by rw [List.take_succ, hgt]; rfl
        refine ⟨(υ, i32 (k + 1)), w.length - (k + 1), by omega, ?_, k + 1, υ, by omega, rfl, rfl, f.trans f2, ?_, ?_⟩
        · show l_X10_collect_27 (i32 w.length) τ (i32 k) = _
          unfold l_X10_collect_27
          rw [if_neg (i_nle hk1 (by omega)), e_gI ln_34 (by omega) (by omega), h34, e_bd, e97, if_neg n0, e_gF, h20, if_pos (i_lt (by omega) (by omega)), e, e_bs, i32_1, i32_add]
        · rw [ht]
          unfold wdof
          rw [List.map_append]
          exact c2
        · intro x hx
          rw [ht, List.mem_append, List.mem_singleton] at hx
          rcases hx with hx | hx
          · exact hv x hx
          · rw [hx]; exact ⟨by omega, hhi⟩
      · right
        refine ⟨_, ?_, τ, f, Or.inr ⟨fun q => by have := (q _ hmem).2; omega, rfl⟩⟩
        show l_X10_collect_27 (i32 w.length) τ (i32 k) = _
        unfold l_X10_collect_27
        rw [if_neg (i_nle hk1 (by omega)), e_gI ln_34 (by omega) (by omega), h34, e_bd, e97, if_neg n0, e_gF, h20, if_neg (i_nlt (by omega) (by omega))]
theorem RA2 : RA 2 := ⟨⟨by decide +kernel, ln_4⟩, by omega⟩
theorem e_cI26 {α : Type} {f : Mem → Option α} : cI σ 39 0 16 2 6 f = f (cpI σ 39 16 0 2 6) := by
  unfold cI
  have h6 : (6 : Int32).toNatClampNeg = 6 := rfl
  have h2 : (2 : Int32).toNatClampNeg = 2 := rfl
  have h0 : (0 : Int32).toNatClampNeg = 0 := rfl
  rw [h6, h0, h2, ln_39, ln_16, if_pos ⟨⟨by decide, by decide, by decide⟩, by omega, by omega⟩]
theorem cpI26 : OI 16 σ (cpI σ 39 16 0 2 6) ∧ (∀ i, i < 6 → (cpI σ 39 16 0 2 6).1 16 (2 + i) = σ.1 39 i) ∧ ∀ i, i < 2 → (cpI σ 39 16 0 2 6).1 16 i = σ.1 16 i := by
  refine ⟨⟨rfl, fun x hx => ?_⟩, fun i hi => ?_, fun i hi => ?_⟩
  · funext y
    show (if x = 16 then va_cpy (σ.1 39) (σ.1 16) 0 2 6 y else σ.1 x y) = _
    rw [if_neg hx]
  · show (if 16 = 16 then va_cpy (σ.1 39) (σ.1 16) 0 2 6 (2 + i) else σ.1 16 (2 + i)) = _
    rw [if_pos rfl]
    unfold va_cpy
    rw [if_pos ⟨by omega, by omega⟩, show 0 + (2 + i - 2) = i by omega]
  · show (if 16 = 16 then va_cpy (σ.1 39) (σ.1 16) 0 2 6 i else σ.1 16 i) = _
    rw [if_pos rfl]
    unfold va_cpy
    rw [if_neg (by omega)]
end CLL

