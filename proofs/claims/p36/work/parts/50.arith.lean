/-! the class's rows of longs and its tables of binomials -/
/-- only rows of longs of a kind have changed -/
def OL (P : Nat → Prop) (σ τ : Mem) : Prop := τ.1 = σ.1 ∧ ∀ x, ¬ P x → τ.2 x = σ.2 x
theorem OL.refl {P : Nat → Prop} {σ : Mem} : OL P σ σ := ⟨rfl, fun _ _ => rfl⟩
theorem OL.trans {P : Nat → Prop} {σ τ υ : Mem} (h1 : OL P σ τ) (h2 : OL P τ υ) : OL P σ υ := ⟨h2.1.trans h1.1, fun x hx => (h2.2 x hx).trans (h1.2 x hx)⟩
theorem OL.mono {P Q : Nat → Prop} {σ τ : Mem} (h : OL P σ τ) (hPQ : ∀ x, P x → Q x) : OL Q σ τ := ⟨h.1, fun x hx => h.2 x (fun q => hx (hPQ x q))⟩
theorem OL.wL {P : Nat → Prop} {σ : Mem} {a k : Nat} {v : Int64} (h : P a) : OL P σ (wL σ a k v) := ⟨rfl, fun x hx => funext (fun y => if_neg (fun q => hx (by rw [q.1]; exact h)))⟩
/-- a row that holds six whole numbers -/
def H6 (σ : Mem) (a : Nat) (v : Nat → Int) : Prop := ∀ k, k < 6 → σ.2 a k = oi (v k)
theorem H6.keep {P : Nat → Prop} {σ τ : Mem} {a : Nat} {v : Nat → Int} (h : H6 σ a v) (ho : OL P σ τ) (hn : ¬ P a) : H6 τ a v := fun k hk => by rw [ho.2 a hn]; exact h k hk
/-- a table of binomials: 1, x, x over 2 (of weight one) for each of twelve -/
def Tb (G : GD) (σ : Mem) (t : Nat) (x : Nat → Int) : Prop := ∀ v, v < 12 → σ.2 t (4 * v) = oi 1 ∧ σ.2 t (4 * v + 1) = oi (x v) ∧ (gw G (v % 6) = 1 → σ.2 t (4 * v + 2) = oi (two (x v)))
/-- up to a number of variables -/
def TbU (G : GD) (σ : Mem) (t : Nat) (x : Nat → Int) (p : Nat → Prop) : Prop := ∀ v, v < 12 → p v → σ.2 t (4 * v) = oi 1 ∧ σ.2 t (4 * v + 1) = oi (x v) ∧ (gw G (v % 6) = 1 → σ.2 t (4 * v + 2) = oi (two (x v)))
theorem c_put {G : GD} {σ : Mem} {t v : Nat} {y : Int} (ht : ln t = 64) (hv : v < 12) (hy : gw G (v % 6) = 1 → two64ok y) :
    ∃ τ, f_X4_put σ t (i32 v) (oi y) = some τ ∧ OL (fun x => x = t) σ τ ∧ (τ.2 t (4 * v) = oi 1 ∧ τ.2 t (4 * v + 1) = oi y ∧ (gw G (v % 6) = 1 → τ.2 t (4 * v + 2) = oi (two y))) ∧ (∀ u, u ≠ v → τ.2 t (4 * u) = σ.2 t (4 * u) ∧ τ.2 t (4 * u + 1) = σ.2 t (4 * u + 1) ∧ τ.2 t (4 * u + 2) = σ.2 t (4 * u + 2)) := by
  unfold f_X4_put
  have h4 : (4 : Int32) * i32 v = i32 (4 * v) := by rw [i32_4, i32_mul]
  rw [e_bd, h4, if_neg (show ¬ i32 (4 * v) < 0 from i_nlt (b := 0) (Nat.zero_le _) (by omega)), i32_2, i32_add, ht, if_pos (show i32 (4 * v + 2) < Int32.ofNat 64 from i_lt (b := 64) (by omega) (by omega)), e_pL ht (by omega) (by omega), i32_1, i32_add, e_pL ht (by omega) (by omega), e_nzL (by decide), e_pL ht (by omega) (by omega)]
  refine ⟨_, rfl, ?_, ⟨?_, ?_, fun hw => ?_⟩, fun u hu => ⟨?_, ?_, ?_⟩⟩
  · exact ((OL.wL (P := fun x => x = t) rfl).trans (OL.wL rfl)).trans (OL.wL rfl)
  · rw [wL_2, if_neg (by omega), wL_2, if_neg (by omega), wL_2, if_pos ⟨rfl, rfl⟩]; rfl
  · rw [wL_2, if_neg (by omega), wL_2, if_pos ⟨rfl, rfl⟩]
  · rw [wL_2, if_pos ⟨rfl, rfl⟩]
    have := hy hw
    exact two_ok this.1 this.2
  · rw [wL_2, if_neg (by omega), wL_2, if_neg (by omega), wL_2, if_neg (by omega)]
  · rw [wL_2, if_neg (by omega), wL_2, if_neg (by omega), wL_2, if_neg (by omega)]
  · rw [wL_2, if_neg (by omega), wL_2, if_neg (by omega), wL_2, if_neg (by omega)]
/-- the polynomials that the class holds tell the product -/
def PolyOK (G : GD) (σ : Mem) : Prop := ∀ k, k < 6 → ∀ (τ : Mem) (t : Nat) (x : Nat → Int), τ.1 (48 + 4 * k) = σ.1 (48 + 4 * k) → τ.1 (49 + 4 * k) = σ.1 (49 + 4 * k) → τ.2 (50 + 4 * k) = σ.2 (50 + 4 * k) → τ.1 (51 + 4 * k) = σ.1 (51 + 4 * k) → ln t = 64 → TbU G τ t x (fun v => v % 6 ≤ k) →
  f_X9_value τ (48 + 4 * k) t = some (oi (if k < gn G then mul G x (fun i => x (6 + i)) k else 0))
/-- a row of longs outside the polynomials -/
def notSum (x : Nat) : Prop := ∀ k, k < 6 → x ≠ 50 + 4 * k
theorem PolyOK.keep {G : GD} {P : Nat → Prop} {σ τ : Mem} (h : PolyOK G σ) (ho : OL P σ τ) (hP : ∀ x, P x → notSum x) : PolyOK G τ := fun k hk υ t x h1 h2 h3 h4 ht hT =>
  h k hk υ t x (by rw [h1, ho.1]) (by rw [h2, ho.1]) (by rw [h3, ho.2 _ (fun q => hP _ q k hk rfl)]) (by rw [h4, ho.1]) ht hT
theorem PolyOK.value {G : GD} {σ : Mem} (h : PolyOK G σ) {k t : Nat} {x : Nat → Int} (hk : k < 6) (ht : ln t = 64) (hT : Tb G σ t x) : f_X9_value σ (48 + 4 * k) t = some (oi (if k < gn G then mul G x (fun i => x (6 + i)) k else 0)) := h k hk σ t x rfl rfl rfl rfl ht (fun v hv _ => hT v hv)
theorem rf_44 {k : Nat} (h : k < 6) : rf 44 k = 48 + 4 * k := by
  have h1 : (List.range 6).all (fun k => rf 44 k == 48 + 4 * k) = true := by decide +kernel
  have h2 := List.all_eq_true.mp h1 k (List.mem_range.mpr h)
  exact eq_of_beq h2
/-- an element's numbers: 0 beyond the last generator -/
def Z6 (G : GD) (a : Nat → Int) : Prop := ∀ k, gn G ≤ k → k < 6 → a k = 0
def W1 (G : GD) (a : Nat → Int) : Prop := ∀ k, k < 6 → gw G k = 1 → two64ok (a k)
theorem mul_beyond {G : GD} (hG : GOK G) {a b : Nat → Int} {m : Nat} (hm : gn G ≤ m) : mul G a b m = a m := by
  have hw : gw G m ≤ 1 := by rw [hG.2.2.2.2.1 m hm]; omega
  unfold mul
  rw [mulU_one hG hw (gn G) (Nat.le_refl _), if_neg (by omega), Int.add_zero]
/-- two elements as twelve numbers -/
def two6 (a b : Nat → Int) : Nat → Int := fun v => if v < 6 then a v else b (v - 6)
section CP
variable {G : GD} {σ : Mem}
/-- the first loop of a product: the table -/
theorem c_prod3 (hG : GOK G) {a b : Nat} {A B : Nat → Int} (ha : ln a = 6) (hb : ln b = 6) (hA : H6 σ a A) (hB : H6 σ b B) (ha3 : a ≠ 73) (hb3 : b ≠ 73) (wA : W1 G A) (wB : W1 G B) :
    ∃ τ, loopO (fun (z8 : Mem × Int32) => l_X0_product_3 a b z8.1 z8.2) (σ, 0) = some τ ∧ OL (fun x => x = 73) σ τ ∧ Tb G τ 73 (two6 A B) := by
  have hl := loop_inv (body := fun (z8 : Mem × Int32) => l_X0_product_3 a b z8.1 z8.2) (fun n z => ∃ k τ, k ≤ 6 ∧ n = 6 - k ∧ z = (τ, i32 k) ∧ OL (fun x => x = 73) σ τ ∧ TbU G τ 73 (two6 A B) (fun v => v % 6 < k)) (fun τ => OL (fun x => x = 73) σ τ ∧ Tb G τ 73 (two6 A B)) ?_ 6 (σ, 0) ⟨0, σ, by omega, rfl, rfl, OL.refl, fun v _ h => absurd h (Nat.not_lt_zero _)⟩
  · exact hl
  · rintro n z ⟨k, τ, hk, hn, rfl, ho, hT⟩
    by_cases hk6 : k = 6
    · right
      refine ⟨τ, ?_, ho, fun v hv => hT v hv (by omega)⟩
      show l_X0_product_3 _ _ _ _ = _
      unfold l_X0_product_3
      rw [hk6, i32_6, if_pos (i_le (Nat.le_refl 6) (by omega))]
    · left
      obtain ⟨τ1, p1, o1, s1, r1⟩ := c_put (G := G) (σ := τ) (t := 73) (v := k) (y := A k) ln_73 (by omega) (fun h => wA k (by omega) (by rwa [Nat.mod_eq_of_lt (by omega)] at h))
      obtain ⟨τ2, p2, o2, s2, r2⟩ := c_put (G := G) (σ := τ1) (t := 73) (v := 6 + k) (y := B k) ln_73 (by omega) (fun h => wB k (by omega) (by rwa [show (6 + k) % 6 = k by omega] at h))
      have oo : OL (fun x => x = 73) σ τ1 := ho.trans o1
      refine ⟨(τ2, i32 (k + 1)), 6 - (k + 1), by omega, ?_, k + 1, τ2, by omega, rfl, rfl, oo.trans o2, fun v hv hvk => ?_⟩
      · show l_X0_product_3 _ _ _ _ = _
        unfold l_X0_product_3
        rw [i32_6, if_neg (i_nle (by omega) (by omega)), e_gL ha (by omega) (by omega), hA.keep ho ha3 k (by omega), p1, e_bs, e_gL hb (by omega) (by omega), hB.keep oo hb3 k (by omega), i32_add, p2, e_bs, i32_1, i32_add]
      · by_cases h1 : v = 6 + k
        · subst h1
          have e : two6 A B (6 + k) = B k := by unfold two6; rw [if_neg (by omega)]; congr 1; omega
          rw [e]; exact s2
        · obtain ⟨q1, q2, q3⟩ := r2 v h1
          rw [q1, q2, q3]
          by_cases h2 : v = k
          · subst h2
            have e : two6 A B v = A v := by unfold two6; rw [if_pos (by omega)]
            rw [e]; exact s1
          · obtain ⟨u1, u2, u3⟩ := r1 v h2
            rw [u1, u2, u3]
            exact hT v hv (by show v % 6 < k; omega)
theorem c_product (hG : GOK G) (hP : PolyOK G σ) {out a b : Nat} {A B : Nat → Int} (hout : ln out = 6) (ha : ln a = 6) (hb : ln b = 6) (hA : H6 σ a A) (hB : H6 σ b B) (ho3 : out ≠ 73) (hos : notSum out) (ha3 : a ≠ 73) (hb3 : b ≠ 73) (wA : W1 G A) (wB : W1 G B) (zA : Z6 G A) :
    ∃ τ, f_X0_product σ out a b = some τ ∧ OL (fun x => x = 73 ∨ x = out) σ τ ∧ H6 τ out (mul G A B) := by
  unfold f_X0_product
  obtain ⟨τ0, e0, o0, T0⟩ := c_prod3 hG ha hb hA hB ha3 hb3 wA wB
  rw [e0, e_bs]
  unfold j_X0_product_45
  have ns73 : notSum 73 := fun k hk => by omega
  have hP0 := hP.keep o0 (fun x hx => by rw [hx]; exact ns73)
  have hl := loop_inv (body := fun (z3 : Mem × Int32) => l_X0_product_48 out z3.1 z3.2) (fun n z => ∃ k τ, k ≤ 6 ∧ n = 6 - k ∧ z = (τ, i32 k) ∧ OL (fun x => x = out) τ0 τ ∧ ∀ i, i < k → τ.2 out i = oi (mul G A B i)) (fun τ => OL (fun x => x = out) τ0 τ ∧ ∀ i, i < 6 → τ.2 out i = oi (mul G A B i)) ?_ 6 (τ0, 0) ⟨0, τ0, by omega, rfl, rfl, OL.refl, fun i h => absurd h (Nat.not_lt_zero _)⟩
  · obtain ⟨τ, h1, h2, h3⟩ := hl
    exact ⟨τ, h1, (o0.mono (fun x hx => Or.inl hx)).trans (h2.mono (fun x hx => Or.inr hx)), h3⟩
  · rintro n z ⟨k, τ, hk, hn, rfl, ho, hv⟩
    by_cases hk6 : k = 6
    · right
      refine ⟨τ, ?_, ho, fun i hi => hv i (by omega)⟩
      show l_X0_product_48 _ _ _ = _
      unfold l_X0_product_48
      rw [hk6, i32_6, if_pos (i_le (Nat.le_refl 6) (by omega))]
    · left
      have hTk : Tb G τ 73 (two6 A B) := fun v hv => by rw [ho.2 73 (fun q => ho3 q.symm)]; exact T0 v hv
      refine ⟨(wL τ out k (oi (mul G A B k)), i32 (k + 1)), 6 - (k + 1), by omega, ?_, k + 1, _, by omega, rfl, rfl, ho.trans (OL.wL rfl), fun i hi => ?_⟩
      · show l_X0_product_48 _ _ _ = _
        unfold l_X0_product_48
        have hval : (if k < gn G then mul G (two6 A B) (fun i => two6 A B (6 + i)) k else 0) = mul G A B k := by
          have hn := hG.2.1
          by_cases h1 : k < gn G
          · rw [if_pos h1]
            refine mul_congr (fun i hi => ?_) (fun i hi => ?_) h1
            · unfold two6; rw [if_pos (by omega)]
            · show two6 A B (6 + i) = B i
              unfold two6; rw [if_neg (by omega)]; congr 1; omega
          · rw [if_neg h1, mul_beyond hG (by omega), zA k (by omega) (by omega)]
        rw [i32_6, if_neg (i_nle (by omega) (by omega)), e_gR ln_44 (by omega) (by omega), rf_44 (by omega), (hP0.keep ho (fun x hx => by rw [hx]; exact hos)).value (by omega) ln_73 hTk, e_bs, hval, e_pL hout (by omega) (by omega), i32_1, i32_add]
      · rw [wL_2]
        by_cases h1 : i = k
        · rw [if_pos ⟨rfl, h1⟩, h1]
        · rw [if_neg (fun q => h1 q.2)]; exact hv i (by omega)
/-- an inverse, exponent by exponent -/
theorem c_inv2 (hG : GOK G) {a : Nat} {A : Nat → Int} (ha : ln a = 6) (hA : H6 σ a A) (ha3 : a ≠ 73) (wA : W1 G A) :
    ∃ τ, loopO (fun (z10 : Mem × Int32) => l_X0_inverse_2 a z10.1 z10.2) (σ, 0) = some τ ∧ OL (fun x => x = 73) σ τ ∧ Tb G τ 73 (two6 A (fun _ => 0)) := by
  have hl := loop_inv (body := fun (z10 : Mem × Int32) => l_X0_inverse_2 a z10.1 z10.2) (fun n z => ∃ k τ, k ≤ 6 ∧ n = 6 - k ∧ z = (τ, i32 k) ∧ OL (fun x => x = 73) σ τ ∧ TbU G τ 73 (two6 A (fun _ => 0)) (fun v => v % 6 < k)) (fun τ => OL (fun x => x = 73) σ τ ∧ Tb G τ 73 (two6 A (fun _ => 0))) ?_ 6 (σ, 0) ⟨0, σ, by omega, rfl, rfl, OL.refl, fun v _ h => absurd h (Nat.not_lt_zero _)⟩
  · exact hl
  · rintro n z ⟨k, τ, hk, hn, rfl, ho, hT⟩
    by_cases hk6 : k = 6
    · right
      refine ⟨τ, ?_, ho, fun v hv => hT v hv (by omega)⟩
      show l_X0_inverse_2 _ _ _ = _
      unfold l_X0_inverse_2
      rw [hk6, i32_6, if_pos (i_le (Nat.le_refl 6) (by omega))]
    · left
      obtain ⟨τ1, p1, o1, s1, r1⟩ := c_put (G := G) (σ := τ) (t := 73) (v := k) (y := A k) ln_73 (by omega) (fun h => wA k (by omega) (by rwa [Nat.mod_eq_of_lt (by omega)] at h))
      obtain ⟨τ2, p2, o2, s2, r2⟩ := c_put (G := G) (σ := τ1) (t := 73) (v := 6 + k) (y := 0) ln_73 (by omega) (fun _ => ⟨by omega, by omega⟩)
      have oo : OL (fun x => x = 73) σ τ1 := ho.trans o1
      refine ⟨(τ2, i32 (k + 1)), 6 - (k + 1), by omega, ?_, k + 1, τ2, by omega, rfl, rfl, oo.trans o2, fun v hv hvk => ?_⟩
      · show l_X0_inverse_2 _ _ _ = _
        unfold l_X0_inverse_2
        rw [i32_6, if_neg (i_nle (by omega) (by omega)), e_gL ha (by omega) (by omega), hA.keep ho ha3 k (by omega), p1, e_bs, i32_add, show (0 : Int64) = oi 0 from rfl, p2, e_bs, i32_1, i32_add]
      · by_cases h1 : v = 6 + k
        · subst h1
          have e : two6 A (fun _ => 0) (6 + k) = 0 := by unfold two6; rw [if_neg (by omega)]
          rw [e]; exact s2
        · obtain ⟨q1, q2, q3⟩ := r2 v h1
          rw [q1, q2, q3]
          by_cases h2 : v = k
          · subst h2
            have e : two6 A (fun _ => 0) v = A v := by unfold two6; rw [if_pos (by omega)]
            rw [e]; exact s1
          · obtain ⟨u1, u2, u3⟩ := r1 v h2
            rw [u1, u2, u3]
            exact hT v hv (by show v % 6 < k; omega)
theorem c_inverse (hG : GOK G) (hP : PolyOK G σ) {out a : Nat} {A : Nat → Int} (hout : ln out = 6) (ha : ln a = 6) (hA : H6 σ a A) (ho3 : out ≠ 73) (hos : notSum out) (ha3 : a ≠ 73) (wA : W1 G A) :
    ∃ τ, f_X0_inverse σ out a = some τ ∧ OL (fun x => x = 73 ∨ x = out) σ τ ∧ H6 τ out (inv G A) := by
  have hn := hG.2.1
  unfold f_X0_inverse
  obtain ⟨τ0, e0, o0, T0⟩ := c_inv2 hG ha hA ha3 wA
  rw [e0, e_bs]
  unfold j_X0_inverse_37
  have ns73 : notSum 73 := fun k hk => by omega
  have hPO : ∀ τ, OL (fun x => x = 73 ∨ x = out) σ τ → PolyOK G τ := fun τ ho => hP.keep ho (fun x hx => by
    rcases hx with hx | hx
    · rw [hx]; exact ns73
    · rw [hx]; exact hos)
  -- the numbers: as far as k, of the generators alone
  have hcut : ∀ k, k ≤ 6 → ∀ i, i < 6 → invU G A (min k (gn G)) i = if i < k then inv G A i else 0 := by
    intro k hk i hi
    by_cases h1 : i < k
    · rw [if_pos h1]
      unfold inv
      by_cases h2 : i < gn G
      · have : ∃ d, gn G = min k (gn G) + d := ⟨gn G - min k (gn G), by omega⟩
        obtain ⟨d, hd⟩ := this
        have e := invU_keep (G := G) (a := A) (m := i) d (min k (gn G)) (by omega)
        rw [← hd] at e
        exact e.symm
      · rw [inv_beyond _ (by omega), inv_beyond _ (by omega)]
    · rw [if_neg h1, inv_beyond _ (by omega)]
  have hl := loop_inv (body := fun (z3 : Mem × Int32) => l_X0_inverse_39 out z3.1 z3.2) (fun n z => ∃ k τ, k ≤ 6 ∧ n = 6 - k ∧ z = (τ, i32 k) ∧ OL (fun x => x = 73 ∨ x = out) σ τ ∧ (∀ i, i < k → τ.2 out i = oi (inv G A i)) ∧ Tb G τ 73 (two6 A (fun i => if i < k then inv G A i else 0))) (fun τ => OL (fun x => x = 73 ∨ x = out) σ τ ∧ ∀ i, i < 6 → τ.2 out i = oi (inv G A i)) ?_ 6 (τ0, 0) ⟨0, τ0, by omega, rfl, rfl, o0.mono (fun x hx => Or.inl hx), fun i h => absurd h (Nat.not_lt_zero _), by
      have e : (fun i => if i < 0 then inv G A i else 0) = fun _ => (0 : Int) := funext (fun i => if_neg (Nat.not_lt_zero i))
      rw [e]; exact T0⟩
  · exact hl
  · rintro n z ⟨k, τ, hk, hnk, rfl, ho, hv, hT⟩
    by_cases hk6 : k = 6
    · right
      refine ⟨τ, ?_, ho, fun i hi => hv i (by omega)⟩
      show l_X0_inverse_39 _ _ _ = _
      unfold l_X0_inverse_39
      rw [hk6, i32_6, if_pos (i_le (Nat.le_refl 6) (by omega))]
    · left
      have hval : -(if k < gn G then mul G (two6 A (fun i => if i < k then inv G A i else 0)) (fun i => two6 A (fun i => if i < k then inv G A i else 0) (6 + i)) k else 0) = inv G A k := by
        by_cases h1 : k < gn G
        · rw [if_pos h1]
          have e1 : mul G (two6 A (fun i => if i < k then inv G A i else 0)) (fun i => two6 A (fun i => if i < k then inv G A i else 0) (6 + i)) k = mul G A (invU G A k) k := by
            refine mul_congr (fun i hi => ?_) (fun i hi => ?_) h1
            · unfold two6; rw [if_pos (by omega)]
            · show two6 A _ (6 + i) = _
              unfold two6
              rw [if_neg (by omega), show 6 + i - 6 = i by omega]
              have := hcut k (by omega) i (by omega)
              rw [Nat.min_eq_left (by omega)] at this
              exact this.symm
          rw [e1]
          have e2 := invU_keep (G := G) (a := A) (m := k) (gn G - (k + 1)) (k + 1) (Nat.lt_succ_self k)
          rw [show k + 1 + (gn G - (k + 1)) = gn G by omega] at e2
          unfold inv
          rw [e2]
          show _ = uV _ k _ k
          unfold uV
          rw [if_pos rfl]
        · rw [if_neg h1]
          unfold inv
          rw [inv_beyond _ (by omega)]; rfl
      obtain ⟨τ2, p2, o2, s2, r2⟩ := c_put (G := G) (σ := wL τ out k (oi (inv G A k))) (t := 73) (v := 6 + k) (y := inv G A k) ln_73 (by omega) (fun h => by
        rw [show (6 + k) % 6 = k by omega] at h
        by_cases h1 : k < gn G
        · rw [inv_one hG (by omega) h1]
          have := wA k (by omega) h
          exact ⟨by have := this.2; omega, by have := this.1; omega⟩
        · rw [hG.2.2.2.2.1 k (by omega)] at h; omega)
      have o1 : OL (fun x => x = 73 ∨ x = out) τ (wL τ out k (oi (inv G A k))) := OL.wL (Or.inr rfl)
      refine ⟨(τ2, i32 (k + 1)), 6 - (k + 1), by omega, ?_, k + 1, τ2, by omega, rfl, rfl, (ho.trans o1).trans (o2.mono (fun x hx => Or.inl hx)), fun i hi => ?_, fun v hv2 => ?_⟩
      · show l_X0_inverse_39 _ _ _ = _
        unfold l_X0_inverse_39
        rw [i32_6, if_neg (i_nle (by omega) (by omega)), e_gR ln_44 (by omega) (by omega), rf_44 (by omega), (hPO τ ho).value (by omega) ln_73 hT, e_bs, oi_neg, hval, e_pL hout (by omega) (by omega), e_gL hout (by omega) (by omega), wL_2, if_pos ⟨rfl, rfl⟩, i32_add, p2, e_bs, i32_1, i32_add]
      · rw [o2.2 out ho3, wL_2]
        by_cases h1 : i = k
        · rw [if_pos ⟨rfl, h1⟩, h1]
        · rw [if_neg (fun q => h1 q.2)]; exact hv i (by omega)
      · by_cases h1 : v = 6 + k
        · subst h1
          have e : two6 A (fun i => if i < k + 1 then inv G A i else 0) (6 + k) = inv G A k := by
            unfold two6
            rw [if_neg (by omega), show 6 + k - 6 = k by omega]
            exact if_pos (Nat.lt_succ_self k)
          rw [e]; exact s2
        · obtain ⟨q1, q2, q3⟩ := r2 v h1
          have hne : ∀ y, (wL τ out k (oi (inv G A k))).2 73 y = τ.2 73 y := fun y => by rw [wL_2, if_neg (fun q => ho3 q.1.symm)]
          rw [q1, q2, q3, hne, hne, hne]
          have e : two6 A (fun i => if i < k + 1 then inv G A i else 0) v = two6 A (fun i => if i < k then inv G A i else 0) v := by
            unfold two6
            by_cases h2 : v < 6
            · rw [if_pos h2, if_pos h2]
            · rw [if_neg h2, if_neg h2]
              by_cases h3 : v - 6 < k
              · exact (if_pos (show v - 6 < k + 1 by omega)).trans (if_pos h3).symm
              · exact (if_neg (show ¬ v - 6 < k + 1 by omega)).trans (if_neg h3).symm
          rw [e]
          exact hT v hv2
end CP

