/-! the reference's groups: rules made, acts undone, the image -/
section RGR
variable {σ : Mem} {G : GD}
/-- a loop that copies ints -/
theorem loop_copyI {body : Mem × Int32 → Option ((Mem × Int32) ⊕ Mem)} {a b o p N : Nat} (hab : a ≠ b) (hs : ∀ τ k, k < N → OI b σ τ → body (τ, i32 k) = some (Sum.inl (wI τ b (p + k) (τ.1 a (o + k)), i32 (k + 1)))) (he : ∀ τ, OI b σ τ → body (τ, i32 N) = some (Sum.inr τ)) : ∃ τ, loopO body (σ, 0) = some τ ∧ OI b σ τ ∧ (∀ k, k < N → τ.1 b (p + k) = σ.1 a (o + k)) ∧ ∀ y, y < p ∨ p + N ≤ y → τ.1 b y = σ.1 b y := by
  refine loop_inv (body := body) (fun n z => ∃ k τ, k ≤ N ∧ n = N - k ∧ z = (τ, i32 k) ∧ OI b σ τ ∧ (∀ q, q < k → τ.1 b (p + q) = σ.1 a (o + q)) ∧ ∀ y, y < p ∨ p + N ≤ y → τ.1 b y = σ.1 b y) _ ?_ N (σ, 0) ⟨0, σ, Nat.zero_le _, rfl, rfl, ⟨rfl, fun _ _ => rfl⟩, fun q hq => absurd hq (Nat.not_lt_zero _), fun _ _ => rfl⟩
  rintro n z ⟨k, τ, hk, rfl, rfl, oi', v, w⟩
  by_cases hkN : k = N
  · right
    subst hkN
    exact ⟨τ, he τ oi', oi', v, w⟩
  · left
    refine ⟨(wI τ b (p + k) (τ.1 a (o + k)), i32 (k + 1)), N - (k + 1), by omega, hs τ k (by omega) oi', k + 1, _, by omega, rfl, rfl, ⟨oi'.1, fun x hx => ?_⟩, fun q hq => ?_, fun y hy => ?_⟩
    · funext y; rw [wI_1, if_neg (fun z => hx z.1), oi'.2 x hx]
    · rw [wI_1]
      by_cases h1 : q = k
      · rw [if_pos ⟨rfl, by omega⟩, h1, oi'.2 a hab]
      · rw [if_neg (by omega)]; exact v q (by omega)
    · rw [wI_1, if_neg (by omega)]; exact w y hy
/-- a loop that fills ints -/
theorem loop_zeroI {body : Mem × Int32 → Option ((Mem × Int32) ⊕ Mem)} {b s N : Nat} (hsN : s ≤ N) (hs : ∀ τ k, s ≤ k → k < N → OI b σ τ → body (τ, i32 k) = some (Sum.inl (wI τ b k 0, i32 (k + 1)))) (he : ∀ τ, OI b σ τ → body (τ, i32 N) = some (Sum.inr τ)) : ∃ τ, loopO body (σ, i32 s) = some τ ∧ OI b σ τ ∧ (∀ k, s ≤ k → k < N → τ.1 b k = 0) ∧ ∀ y, y < s → τ.1 b y = σ.1 b y := by
  refine loop_inv (body := body) (fun n z => ∃ k τ, s ≤ k ∧ k ≤ N ∧ n = N - k ∧ z = (τ, i32 k) ∧ OI b σ τ ∧ (∀ q, s ≤ q → q < k → τ.1 b q = 0) ∧ ∀ y, y < s → τ.1 b y = σ.1 b y) _ ?_ (N - s) (σ, i32 s) ⟨s, σ, Nat.le_refl _, hsN, rfl, rfl, ⟨rfl, fun _ _ => rfl⟩, fun q h1 h2 => by omega, fun _ _ => rfl⟩
  rintro n z ⟨k, τ, hsk, hk, rfl, rfl, oi', v, w⟩
  by_cases hkN : k = N
  · right
    subst hkN
    exact ⟨τ, he τ oi', oi', v, w⟩
  · left
    refine ⟨(wI τ b k 0, i32 (k + 1)), N - (k + 1), by omega, hs τ k hsk (by omega) oi', k + 1, _, by omega, by omega, rfl, rfl, ⟨oi'.1, fun x hx => ?_⟩, fun q h1 h2 => ?_, fun y hy => ?_⟩
    · funext y; rw [wI_1, if_neg (fun z => hx z.1), oi'.2 x hx]
    · rw [wI_1]
      by_cases h3 : q = k
      · rw [if_pos ⟨rfl, h3⟩]
      · rw [if_neg (fun z => h3 z.2)]; exact v q h1 (by omega)
    · rw [wI_1, if_neg (by omega)]; exact w y hy
theorem r_keep2 {S : AS} (h : IRef S σ) (ok : OKS S) : ∃ τ, f_X11_keepsAct σ = some τ ∧ IRef (aX S, aT S, psh (aX S) (aA S), aI S, aP S, aF S) τ ∧ LO σ τ ∧ τ.2 = σ.2 ∧ τ.1 307 = σ.1 307 := by
  obtain ⟨τ, e, ra, f⟩ := r_keepsAct h.1 h.2.2.1 ok.2.2.1.1
  obtain ⟨h1, h2, h3, h4, h5, h6, h7, h8⟩ := h
  have g : ∀ x, x ≠ 306 → x ≠ 308 → τ.1 x = σ.1 x := f.2.1
  have k : ∀ c, c ≠ 3 → τ.1 306 c = σ.1 306 c := f.2.2
  refine ⟨τ, e, ⟨h1.eqs (g 307 (by omega) (by omega)), ⟨by rw [k 4 (by omega)]; exact h2.1, by rw [k 27 (by omega)]; exact h2.2.1, fun i hi => by rw [g 318 (by omega) (by omega)]; exact h2.2.2 i hi⟩, ra, ⟨by rw [k 37 (by omega)]; exact h4.1, fun y hy => by
    rw [g 323 (by omega) (by omega)]
    exact ⟨(h4.2 y hy).1.eqs (g 323 (by omega) (by omega)), (h4.2 y hy).2⟩⟩, ⟨by rw [k 18 (by omega)]; exact h5.1, fun p x hp => by rw [g 317 (by omega) (by omega)]; exact h5.2 p x hp⟩, ⟨by rw [k 19 (by omega)]; exact h6.1, by rw [k 20 (by omega)]; exact h6.2⟩, h7.eqs (k 9 (by omega)) (k 10 (by omega)) (g 311 (by omega) (by omega)) (by rw [f.1]), fun m hm => by rw [f.1]; exact h8 m hm⟩, fun x hx => ⟨g x (by omega) (by omega), by rw [f.1]⟩, f.1, g 307 (by omega) (by omega)⟩
/-- group and registers changed alone -/
def FG (σ τ : Mem) : Prop := τ.2 = σ.2 ∧ (∀ x, x ≠ 306 → x ≠ 307 → τ.1 x = σ.1 x) ∧ ∀ c, c ≠ 9 → τ.1 306 c = σ.1 306 c
theorem FG.refl : FG σ σ := ⟨rfl, fun _ _ _ => rfl, fun _ _ => rfl⟩
theorem FG.trans {τ υ : Mem} (h : FG σ τ) (k : FG τ υ) : FG σ υ := ⟨k.1.trans h.1, fun x h1 h2 => (k.2.1 x h1 h2).trans (h.2.1 x h1 h2), fun c hc => (k.2.2 c hc).trans (h.2.2 c hc)⟩
theorem FG.row {y : Nat} {v : Int32} : FG σ (wI σ 307 y v) := ⟨rfl, fun x _ h2 => by funext z; rw [wI_1, if_neg (fun q => h2 q.1)], fun c _ => by rw [wI_1, if_neg (by omega)]⟩
theorem FG.nine {v : Int32} : FG σ (wI σ 306 9 v) := ⟨rfl, fun x h1 _ => by funext z; rw [wI_1, if_neg (fun q => h1 q.1)], fun c hc => by rw [wI_1, if_neg (fun q => hc q.2)]⟩
theorem OI.fg {τ : Mem} (h : OI 307 σ τ) : FG σ τ := ⟨h.1, fun x _ h2 => h.2 x h2, fun c _ => by rw [h.2 306 (by omega)]⟩
theorem FG.lo {τ : Mem} (f : FG σ τ) : LO σ τ := fun x hx => ⟨f.2.1 x (by omega) (by omega), by rw [f.1]⟩
theorem IRef.newX {S : AS} {X : GR} {τ : Mem} (h : IRef S σ) (f : FG σ τ) (h9 : τ.1 306 9 = 0) (hX : RB τ 307 0 X) : IRef (X, aT S, aA S, aI S, aP S, aF S) τ := by
  obtain ⟨h1, h2, h3, h4, h5, h6, h7, h8⟩ := h
  have g : ∀ x, x ≠ 306 → x ≠ 307 → τ.1 x = σ.1 x := f.2.1
  have k : ∀ c, c ≠ 9 → τ.1 306 c = σ.1 306 c := f.2.2
  exact ⟨hX, ⟨by rw [k 4 (by omega)]; exact h2.1, by rw [k 27 (by omega)]; exact h2.2.1, fun i hi => by rw [g 318 (by omega) (by omega)]; exact h2.2.2 i hi⟩, ⟨by rw [k 3 (by omega)]; exact h3.1, fun j Y hj => (h3.2 j Y hj).eqs (g 308 (by omega) (by omega))⟩, ⟨by rw [k 37 (by omega)]; exact h4.1, fun y hy => by
    rw [g 323 (by omega) (by omega)]
    exact ⟨(h4.2 y hy).1.eqs (g 323 (by omega) (by omega)), (h4.2 y hy).2⟩⟩, ⟨by rw [k 18 (by omega)]; exact h5.1, fun p x hp => by rw [g 317 (by omega) (by omega)]; exact h5.2 p x hp⟩, ⟨by rw [k 19 (by omega)]; exact h6.1, by rw [k 20 (by omega)]; exact h6.2⟩, ⟨false, h9, fun z => absurd z (by decide)⟩, fun m hm => by rw [f.1]; exact h8 m hm⟩
/-- cleared -/
def RZ (σ : Mem) (n : Nat) : Prop := σ.1 307 0 = i32 n ∧ ∀ k, 1 ≤ k → k < 283 → σ.1 307 k = 0
theorem r_clears {n : Nat} : ∃ τ, f_X11_clears σ (i32 n) = some τ ∧ FG σ τ ∧ RZ τ n ∧ τ.1 306 9 = 0 := by
  unfold f_X11_clears
  obtain ⟨σ1, e1, o1, v1, _⟩ := loop_zeroI (σ := σ) (body := fun (z5 : (Mem × Int32)) => l_X11_clears_2 z5.1 z5.2) (b := 307) (s := 0) (N := 283) (by omega) (fun τ k _ hk _ => by
    show l_X11_clears_2 τ (i32 k) = _
    unfold l_X11_clears_2
    rw [i32_283, if_neg (i_nle hk (by omega)), e_pI ln_307 (by omega) (by omega), i32_1, i32_add]) (fun τ _ => by
    show l_X11_clears_2 τ (i32 283) = _
    unfold l_X11_clears_2
    rw [if_pos (by decide)])
  have e1' : loopO (fun (z5 : (Mem × Int32)) => l_X11_clears_2 z5.1 z5.2) (σ, 0) = some σ1 := e1
  rw [e1', e_bs]
  unfold j_X11_clears_22
  rw [i32_0, e_pI ln_307 (by omega) (by omega), e_pF]
  refine ⟨_, rfl, (o1.fg.trans FG.row).trans FG.nine, ⟨?_, fun k h1 h2 => ?_⟩, by rw [wI_1, if_pos ⟨rfl, rfl⟩]⟩
  · rw [wI_1, if_neg (by omega), wI_1, if_pos ⟨rfl, rfl⟩]
  · rw [wI_1, if_neg (by omega), wI_1, if_neg (by omega)]; exact v1 k (by omega) h2
/-- weights alone, no tails, registers one -/
theorem RB.weights {n w : Nat} (h0 : σ.1 307 0 = i32 n) (h1 : ∀ i, i < 6 → σ.1 307 (1 + i) = i32 (dgt w i)) (h2 : ∀ k, 7 ≤ k → k < 283 → σ.1 307 k = 0) : RB σ 307 0 (GW n w, fun _ _ => 0) := by
  refine ⟨h0, fun i hi => by rw [Nat.zero_add]; exact h1 i hi, fun j i k hj hi hk => ?_, fun r i hr hi => ?_⟩
  · rw [Nat.zero_add, h2 _ (by omega) (by omega)]; rfl
  · rw [Nat.zero_add, h2 _ (by omega) (by omega)]; rfl
theorem r_putsTail {R : Nat → Nat → Int} {j i k v : Nat} (h : RB σ 307 0 (G, R)) (hj : j < 6) (hi : i < 6) (hk : k < 6) : ∃ τ, f_X11_putsTail σ (i32 j) (i32 i) (i32 k) (i32 v) = some τ ∧ FG σ τ ∧ RB τ 307 0 (upT G j i k v, R) ∧ τ.1 306 9 = 0 := by
  unfold f_X11_putsTail
  rw [i32_7, i32_36, i32_6, i32_mul, i32_mul, i32_add, i32_add, i32_add, e_pI ln_307 (by omega) (by omega), e_pF]
  refine ⟨_, rfl, FG.row.trans FG.nine, ⟨?_, fun a ha => ?_, fun a b c ha hb hc => ?_, fun r a hr ha => ?_⟩, by rw [wI_1, if_pos ⟨rfl, rfl⟩]⟩
  · rw [wI_1, if_neg (by omega), wI_1, if_neg (by omega)]; exact h.1
  · rw [wI_1, if_neg (by omega), wI_1, if_neg (by omega)]; exact h.2.1 a ha
  · rw [wI_1, if_neg (by omega), wI_1]
    show _ = i32 (if a = j ∧ b = i ∧ c = k then v else gt G a b c)
    by_cases h1 : a = j ∧ b = i ∧ c = k
    · rw [if_pos ⟨rfl, by rw [h1.1, h1.2.1, h1.2.2]; omega⟩, if_pos h1]
    · rw [if_neg (by omega), if_neg h1]
      exact h.2.2.1 a b c ha hb hc
  · rw [wI_1, if_neg (by omega), wI_1, if_neg (by omega)]; exact h.2.2.2 r a hr ha
theorem r_onesAll {R : Nat → Nat → Int} (h : RB σ 307 0 (G, R)) : ∃ τ, f_X11_onesAll σ = some τ ∧ FG σ τ ∧ RB τ 307 0 (G, fun _ _ => 0) := by
  unfold f_X11_onesAll
  obtain ⟨σ1, e1, o1, v1, w1⟩ := loop_zeroI (σ := σ) (body := fun (z2 : (Mem × Int32)) => l_X11_onesAll_4 z2.1 z2.2) (b := 307) (s := 223) (N := 283) (by omega) (fun τ k _ hk _ => by
    show l_X11_onesAll_4 τ (i32 k) = _
    unfold l_X11_onesAll_4
    rw [i32_283, if_neg (i_nle hk (by omega)), e_pI ln_307 (by omega) (by omega), i32_1, i32_add]) (fun τ _ => by
    show l_X11_onesAll_4 τ (i32 283) = _
    unfold l_X11_onesAll_4
    rw [if_pos (by decide)])
  refine ⟨σ1, e1, o1.fg, ?_, fun a ha => ?_, fun a b c ha hb hc => ?_, fun r a hr ha => ?_⟩
  · rw [w1 _ (by omega)]; exact h.1
  · rw [w1 _ (by omega)]; exact h.2.1 a ha
  · rw [w1 _ (by omega)]; exact h.2.2.1 a b c ha hb hc
  · rw [v1 _ (by omega) (by omega)]; rfl
end RGR
