/-! p36: what the rounds hold: group, registers, tape, what collected() tells -/
section KJS
def KJ (G : GD) (R : Nat → Nat → Int) (P : List Nat) (T : Nat × (Nat → Int32)) (σ : Mem) : Prop := ∃ S c, OKS S ∧ ICls c S σ ∧ aG S = G ∧ aR S = R ∧ aP S = P ∧ (aT S).2 = T
/-- register r is A, as far as longs tell -/
def rp (G : GD) (R : Nat → Nat → Int) (r : Nat) (A : Nat → Int) : Prop := (∀ k, k < 6 → oi (R r k) = oi (A k)) ∧ Z6 G A ∧ SB G 4000 A
variable {G : GD} {R : Nat → Nat → Int} {P : List Nat} {T : Nat × (Nat → Int32)} {σ : Mem} {A B : Nat → Int} {r p q : Nat}
theorem KJ.g (h : KJ G R P T σ) : GOK G := by
  obtain ⟨S, c, ok, _, rfl, rfl, rfl, rfl⟩ := h
  exact ok.1.1
theorem KJ.b (h : KJ G R P T σ) (r k : Nat) : -999 ≤ R r k ∧ R r k ≤ 999 := by
  obtain ⟨S, c, ok, _, rfl, rfl, rfl, rfl⟩ := h
  exact ok.1.2.1 r k
theorem KJ.z (h : KJ G R P T σ) (r : Nat) : Z6 G (R r) := by
  obtain ⟨S, c, ok, _, rfl, rfl, rfl, rfl⟩ := h
  exact reg_z6 ok r
theorem KJ.sb (h : KJ G R P T σ) (r : Nat) : SB G 999 (R r) := fun j _ _ => h.b r j
theorem SB.up {x y : Int} (h : SB G x A) (hxy : x ≤ y) : SB G y A := fun j hj hw => by have := h j hj hw; omega
theorem KJ.self (h : KJ G R P T σ) (r : Nat) : rp G R r (R r) := ⟨fun _ _ => rfl, h.z r, (h.sb r).up (by omega)⟩
theorem rp.new (zA : Z6 G A) (sA : SB G 4000 A) : rp G (upR G R r A) r A := by
  refine ⟨fun k hk => ?_, zA, sA⟩
  unfold upR
  rw [if_pos rfl]
  by_cases h : k < gn G
  · rw [if_pos h]; exact Int64.ofInt_toInt _
  · rw [if_neg h, zA k (Nat.le_of_not_lt h) hk]
theorem rp.keep (h : rp G R q B) (hne : q ≠ r) : rp G (upR G R r A) q B := by
  refine ⟨fun k hk => ?_, h.2⟩
  unfold upR
  rw [if_neg hne]
  exact h.1 k hk
theorem rp.row (h : rp G R r A) (hK : KJ G R P T σ) {k : Nat} (hk : k < gn G) : R r k = (oi (A k)).toInt := by
  have hn : gn G ≤ 6 := hK.g.2.1
  have hb := hK.b r k
  rw [← h.1 k (by omega), oi_toInt (by omega) (by omega)]
theorem k_makes (h : KJ G R P T σ) (hc : Cons G) (hr : r < 10) (hp : p < 10) (hq : q < 10) (hA : rp G R p A) (hB : rp G R q B) : (isEl G (mul G A B) = true ∧ ∃ τ, f_L_makes σ (i32 r) (i32 p) (i32 q) = some (1, τ) ∧ KJ G (upR G R r (mul G A B)) P T τ) ∨ (isEl G (mul G A B) = false ∧ ∃ τ, f_L_makes σ (i32 r) (i32 p) (i32 q) = some (0, τ) ∧ KJ G R P T τ) := by
  obtain ⟨S, c, ok, hI, rfl, rfl, rfl, rfl⟩ := h
  rcases s_makesR hI ok hc hr hp hq hA hB with ⟨he, τ, e, i, ok2⟩ | ⟨he, τ, e, i, ok2⟩
  · exact Or.inl ⟨he, τ, e, _, _, ok2, i, rfl, rfl, rfl, rfl⟩
  · exact Or.inr ⟨he, τ, e, _, _, ok2, i, rfl, rfl, rfl, rfl⟩
theorem k_inverts (h : KJ G R P T σ) (hc : Cons G) (hr : r < 10) (hp : p < 10) : (isEl G (inv G (R p)) = true ∧ ∃ τ, f_L_inverts σ (i32 r) (i32 p) = some (1, τ) ∧ KJ G (upR G R r (inv G (R p))) P T τ) ∨ (isEl G (inv G (R p)) = false ∧ ∃ τ, f_L_inverts σ (i32 r) (i32 p) = some (0, τ) ∧ KJ G R P T τ) := by
  obtain ⟨S, c, ok, hI, rfl, rfl, rfl, rfl⟩ := h
  rcases s_invertsR hI ok hc hr hp with ⟨he, τ, e, i, ok2⟩ | ⟨he, τ, e, i, ok2⟩
  · exact Or.inl ⟨he, τ, e, _, _, ok2, i, rfl, rfl, rfl, rfl⟩
  · exact Or.inr ⟨he, τ, e, _, _, ok2, i, rfl, rfl, rfl, rfl⟩
theorem k_assoc (h : KJ G R P T σ) (hc : Cons G) (hr : r < 10) (hp : p < 10) (hq : q < 10) : ∃ τ, f_X10_associates σ (i32 r) (i32 p) (i32 q) = some (1, τ) ∧ KJ G R P T τ := by
  obtain ⟨S, c, ok, hI, rfl, rfl, rfl, rfl⟩ := h
  obtain ⟨τ, e, i⟩ := s_assoc hI ok hc hr hp hq
  exact ⟨τ, e, S, _, ok, i, rfl, rfl, rfl, rfl⟩
theorem k_same (h : KJ G R P T σ) (hp : p < 10) (hq : q < 10) (hA : rp G R p A) (hB : rp G R q B) (he : EqG G A B) : f_L_areSame σ (i32 p) (i32 q) (i32 (gn G)) = some true := by
  have hrow : ∀ k, k < gn G → R p k = R q k := fun k hk => by rw [hA.row h hk, hB.row h hk, he k hk]
  obtain ⟨S, c, ok, hI, rfl, rfl, rfl, rfl⟩ := h
  exact s_areSame hI ok hp hq hrow
theorem k_one (h : KJ G R P T σ) (hp : p < 10) (hA : rp G R p A) (he : EqG G A O) : f_L_isOne σ (i32 p) (i32 (gn G)) = some true := by
  have hrow : ∀ k, k < gn G → R p k = 0 := fun k hk => by rw [hA.row h hk, he k hk]; rfl
  obtain ⟨S, c, ok, hI, rfl, rfl, rfl, rfl⟩ := h
  exact s_isOne hI ok hp hrow
theorem k_exp (h : KJ G R P T σ) {k : Nat} (hr : r < 10) (hk : k < gn G) : f_X10_exponent σ (i32 r) (i32 (k + 1)) = some (o3 (R r k)) := by
  obtain ⟨S, c, ok, hI, rfl, rfl, rfl, rfl⟩ := h
  exact s_exp hI ok hr hk
theorem k_sets {sl : Nat} {sx : Nat → Int32} (hl : sl ≤ 260) (h : KJ G R P T σ) (hc : Cons G) {f : Nat} (hf : f ≤ 1000) (hr : r < 10) : ∃ R' T' τ, f_L_sets σ sl sx (i32 f) (i32 r) (i32 (gn G)) 3 = some τ ∧ KJ G R' P T' τ := by
  obtain ⟨S, c, ok, hI, rfl, rfl, rfl, rfl⟩ := h
  obtain ⟨S', c', τ, e, ok', i', hg, hp⟩ := s_sets (sl := sl) (sx := sx) hl hI ok hc hf hr
  exact ⟨_, _, τ, e, S', c', ok', i', hg, rfl, hp, rfl⟩
theorem k_set (h : KJ G R P T σ) (hc : Cons G) {k : Nat} {v : Int32} (hr : r < 10) (hk : k < gn G) (hv : -999 ≤ v.toInt ∧ v.toInt ≤ 999) : ∃ τ R', f_X10_set σ (i32 r) (i32 (k + 1)) v = some (true, τ) ∧ KJ G R' P T τ ∧ (∀ i, i < gn G → R' r i = if i = k then v.toInt else R r i) ∧ ∀ q, q ≠ r → R' q = R q := by
  have hb := h.b
  obtain ⟨S, c, ok, hI, rfl, rfl, rfl, rfl⟩ := h
  have hA := uV_el (R := aR S r) (k := k) (ok.1.2.1 r) hv
  obtain ⟨τ, e, i⟩ := s_set hI ok hc hr hk hv
  refine ⟨τ, _, e, ⟨_, _, nS_ok ok (isEl_small hA), i, rfl, rfl, rfl, rfl⟩, fun i hi => ?_, fun q hq => ?_⟩
  · show upR (aG S) (aR S) r (uV (aR S r) k v.toInt) r i = _
    have := hA i
    unfold upR
    rw [if_pos rfl, if_pos hi, oi_toInt (by omega) (by omega)]
    rfl
  · funext i
    show upR (aG S) (aR S) r (uV (aR S r) k v.toInt) q i = _
    unfold upR
    rw [if_neg hq]
/-! the tape -/
theorem k_collect (h : KJ G R P T σ) (h24 : P.length ≤ 24) (hv : ∀ x, x ∈ P → vlt (gn G) x) : (∃ W e τ, col G 1000 [] (wdof P) 0 = some (W, e) ∧ e ≤ 1000 ∧ W.length < 12076 ∧ f_X10_collect σ = some (i32 e, τ) ∧ KJ G R [] (gn G, fun i => i32 (W.count i)) τ) ∨ ∃ τ, f_X10_collect σ = some (-2, τ) ∧ KJ G R [] T τ := by
  obtain ⟨S, c, ok, hI, rfl, rfl, rfl, rfl⟩ := h
  rcases s_collect hI ok h24 hv with ⟨W, e, τ, hcol, hle, hW, e1, i1⟩ | ⟨τ, _, e1, i1⟩
  · exact Or.inl ⟨W, e, τ, hcol, hle, hW, e1, _, _, tdS_ok ok, i1, rfl, rfl, rfl, rfl⟩
  · exact Or.inr ⟨τ, e1, _, _, tpS_ok ok (Nat.zero_le _) (fun x hx => by cases hx), i1, rfl, rfl, rfl, rfl⟩
theorem k_collected {f : Nat → Int32} (h : KJ G R P (gn G, f) σ) {k : Nat} (hk : k < gn G) : f_X10_collected σ (i32 (k + 1)) = some (f k) := by
  have hn : gn G ≤ 6 := h.g.2.1
  obtain ⟨S, c, ok, hI, rfl, rfl, rfl, hT⟩ := h
  have h1 : (aT S).2.1 = gn (aG S) := by rw [hT]
  have h2 : (aT S).2.2 = f := by rw [hT]
  rw [s_collected hI (by rw [h1]; exact hk) (by rw [h1]; exact hn), h2]
/-! the first rounds: what is collected, and the product -/
theorem cnt_lt {W : List Nat} (h : W.length < 12076) (k : Nat) : W.count k < 12076 := Nat.lt_of_le_of_lt List.count_le_length h
theorem el_cnt {W : List Nat} (hW : W.length < 12076) (hA : ∀ k, k < gn G → A k = (W.count k : Int)) : isEl G A = true ↔ ∀ k, k < gn G → W.count k ≤ 999 := by
  unfold isEl
  rw [decide_eq_true_eq]
  refine forall_congr' (fun k => forall_congr' (fun hk => ?_))
  have h1 := cnt_lt hW k
  have h2 := hA k hk
  rw [Int64.le_iff_toInt_le, Int64.le_iff_toInt_le, oi_toInt (by omega) (by omega), show (-999 : Int64).toInt = -999 by decide, show (999 : Int64).toInt = 999 by decide, h2]
  omega
theorem o3_nat {n : Nat} (h : n < 12076) : o3 (n : Int) = i32 n := by
  unfold o3
  rw [← Int32.toInt_inj, i32_toInt (by omega), Int32.toInt_ofInt, show Int32.size = 4294967296 from rfl]
  exact Int.bmod_eq_of_le (by omega) (by omega)
theorem cnt_row {W : List Nat} (hW : W.length < 12076) (hK : KJ G R P T σ) (hR : rp G R r A) (hA : ∀ k, k < gn G → A k = (W.count k : Int)) {k : Nat} (hk : k < gn G) : o3 (R r k) = i32 (W.count k) := by
  have h1 := cnt_lt hW k
  rw [hR.row hK hk, hA k hk, oi_toInt (by omega) (by omega), o3_nat h1]
/-! the last rounds -/
theorem prod_O (hG : GOK G) : isEl G O = true := isEl_small (fun _ => ⟨by show (-999 : Int) ≤ 0; omega, by show (0 : Int) ≤ 999; omega⟩)
end KJS
section KJR
variable {G : GD} {R : Nat → Nat → Int} {P : List Nat} {T : Nat × (Nat → Int32)} {σ τ1 : Mem} {A B : Nat → Int} {r p q : Nat}
theorem k_makes1 (h : KJ G R P T σ) (hc : Cons G) (hr : r < 10) (hp : p < 10) (hq : q < 10) (hA : rp G R p A) (hB : rp G R q B) (he : isEl G (mul G A B) = true) : ∃ τ, f_L_makes σ (i32 r) (i32 p) (i32 q) = some (1, τ) ∧ KJ G (upR G R r (mul G A B)) P T τ := by
  rcases k_makes h hc hr hp hq hA hB with ⟨_, τ, e, k⟩ | ⟨h0, _⟩
  · exact ⟨τ, e, k⟩
  · rw [he] at h0; cases h0
theorem k_inv_round (hK : KJ G R P T σ) (hc : Cons G) (hK1 : KJ G (upR G R 5 (inv G (R 0))) P T τ1) : ∃ τ2 τ3 τ4 τ5 R5, f_L_makes τ1 6 0 5 = some (1, τ2) ∧ f_L_isOne τ2 6 (i32 (gn G)) = some true ∧ f_L_makes τ2 6 5 0 = some (1, τ3) ∧ f_L_isOne τ3 6 (i32 (gn G)) = some true ∧ f_L_makes τ3 7 0 6 = some (1, τ4) ∧ f_L_areSame τ4 7 0 (i32 (gn G)) = some true ∧ f_L_makes τ4 7 6 0 = some (1, τ5) ∧ f_L_areSame τ5 7 0 (i32 (gn G)) = some true ∧ KJ G R5 P T τ5 := by
  have hG := hK.g
  have hJ : Jac G := Cons.jac hG hc
  have z0 := hK.z 0
  have s0 := hK.sb 0
  have a0 : rp G R 0 (R 0) := hK.self 0
  have b0 := hK.b 0
  generalize R 0 = A at *
  have sI : SB G 999 (inv G A) := SB.inv hG s0
  have r1 : rp G (upR G R 5 (inv G A)) 0 A := a0.keep (by omega)
  have r5 : rp G (upR G R 5 (inv G A)) 5 (inv G A) := rp.new Z6.invs (sI.up (by omega))
  have q1 : EqG G (mul G A (inv G A)) O := mul_inv hG
  have q2 : EqG G (mul G (inv G A) A) O := inv_mul hG hJ
  obtain ⟨τ2, e2, k2⟩ := k_makes1 hK1 hc (r := 6) (p := 0) (q := 5) (by omega) (by omega) (by omega) r1 r5 ((isEl_congr q1).trans (prod_O hG))
  have f2 := k_one k2 (p := 6) (by omega) (rp.new (z0.muls hG) ((s0.mul hG sI).up (by omega))) q1
  have r15 : rp G (upR G (upR G R 5 (inv G A)) 6 (mul G A (inv G A))) 5 (inv G A) := r5.keep (by omega)
  have r10 : rp G (upR G (upR G R 5 (inv G A)) 6 (mul G A (inv G A))) 0 A := r1.keep (by omega)
  obtain ⟨τ3, e3, k3⟩ := k_makes1 k2 hc (r := 6) (p := 5) (q := 0) (by omega) (by omega) (by omega) r15 r10 ((isEl_congr q2).trans (prod_O hG))
  have zX : Z6 G (mul G (inv G A) A) := Z6.invs.muls hG
  have sX := sI.mul hG s0
  have n6 := rp.new (R := upR G (upR G R 5 (inv G A)) 6 (mul G A (inv G A))) (r := 6) zX (sX.up (by omega))
  have n0 := r10.keep (r := 6) (A := mul G (inv G A) A) (by omega)
  have f3 := k_one k3 (p := 6) (by omega) n6 q2
  generalize upR G (upR G (upR G R 5 (inv G A)) 6 (mul G A (inv G A))) 6 (mul G (inv G A) A) = R3 at *
  have q3 : EqG G (mul G A (mul G (inv G A) A)) A := (EqG.times EqG.refl q2).trans (mul_O hG)
  have q4 : EqG G (mul G (mul G (inv G A) A) A) A := (EqG.times q2 EqG.refl).trans (O_mul hG)
  obtain ⟨τ4, e4, k4⟩ := k_makes1 k3 hc (r := 7) (p := 0) (q := 6) (by omega) (by omega) (by omega) n0 n6 ((isEl_congr q3).trans (isEl_small b0))
  have f4 := k_same k4 (p := 7) (q := 0) (by omega) (by omega) (rp.new (z0.muls hG) ((s0.mul hG sX).up (by omega))) (n0.keep (by omega)) q3
  have m6 := n6.keep (r := 7) (A := mul G A (mul G (inv G A) A)) (by omega)
  have m0 := n0.keep (r := 7) (A := mul G A (mul G (inv G A) A)) (by omega)
  obtain ⟨τ5, e5, k5⟩ := k_makes1 k4 hc (r := 7) (p := 6) (q := 0) (by omega) (by omega) (by omega) m6 m0 ((isEl_congr q4).trans (isEl_small b0))
  have f5 := k_same k5 (p := 7) (q := 0) (by omega) (by omega) (rp.new (zX.muls hG) ((sX.mul hG s0).up (by omega))) (m0.keep (by omega)) q4
  exact ⟨τ2, τ3, τ4, τ5, _, e2, f2, e3, f3, e4, f4, e5, f5, k5⟩
end KJR
