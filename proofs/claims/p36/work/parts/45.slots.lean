/-! all places at once: memory with the places' whole numbers f -/
abbrev SF : Type := Nat → Nat → Int
def PS (σ : Mem) (f : SF) : Mem := (σ.1, fun x y => if x = 313 ∧ y < 600 then oi (f (y / 6) (y % 6)) else σ.2 x y)
def uS (f : SF) (s : Nat) (a : Nat → Int) : SF := fun q => if q = s then a else f q
theorem uS_self {f : SF} {s : Nat} {a : Nat → Int} : uS f s a s = a := if_pos rfl
theorem uS_ne {f : SF} {s q : Nat} {a : Nat → Int} (h : q ≠ s) : uS f s a q = f q := if_neg h
theorem PS_1 {σ : Mem} {f : SF} : (PS σ f).1 = σ.1 := rfl
theorem PS_2 {σ : Mem} {f : SF} {x : Nat} (h : x ≠ 313) : (PS σ f).2 x = σ.2 x := funext (fun _ => if_neg (fun q => h q.1))
theorem PS_vec {σ : Mem} {f : SF} {s i : Nat} (hs : s < 100) (hi : i < 6) : vec (PS σ f) s i = oi (f s i) := by
  show (if 313 = 313 ∧ 6 * s + i < 600 then oi (f ((6 * s + i) / 6) ((6 * s + i) % 6)) else _) = _
  rw [if_pos ⟨rfl, by omega⟩, show (6 * s + i) / 6 = s by omega, show (6 * s + i) % 6 = i by omega]
theorem PS_setI {σ : Mem} {f : SF} {s : Nat} {a : Nat → Int} (hs : s < 100) : setI (PS σ f) s a = PS σ (uS f s a) := by
  unfold setI setV PS uS
  refine Prod.ext rfl ?_
  funext x y
  show (if x = 313 ∧ 6 * s ≤ y ∧ y < 6 * s + 6 then oi (a (y - 6 * s)) else if x = 313 ∧ y < 600 then oi (f (y / 6) (y % 6)) else σ.2 x y) = (if x = 313 ∧ y < 600 then oi ((if y / 6 = s then a else f (y / 6)) (y % 6)) else σ.2 x y)
  by_cases h1 : x = 313 ∧ 6 * s ≤ y ∧ y < 6 * s + 6
  · rw [if_pos h1, if_pos ⟨h1.1, by omega⟩, if_pos (by omega), show y - 6 * s = y % 6 by omega]
  · rw [if_neg h1]
    by_cases h2 : x = 313 ∧ y < 600
    · rw [if_pos h2, if_pos h2, if_neg (by omega)]
    · rw [if_neg h2, if_neg h2]
theorem PS_MG {σ : Mem} {f : SF} {G : GD} (h : MG σ G) : MG (PS σ f) G := h
theorem PS_M0 {σ : Mem} {f : SF} (h : M0 σ) : M0 (PS σ f) := fun m hm => by rw [PS_2 (by omega)]; exact h m hm
/-- any memory is of this kind -/
theorem PS_any (σ : Mem) : ∃ f : SF, PS σ f = σ := by
  refine ⟨fun s i => (σ.2 313 (6 * s + i)).toInt, ?_⟩
  unfold PS
  refine Prod.ext rfl ?_
  funext x y
  show (if x = 313 ∧ y < 600 then oi (σ.2 313 (6 * (y / 6) + y % 6)).toInt else _) = _
  by_cases h : x = 313 ∧ y < 600
  · rw [if_pos h, show 6 * (y / 6) + y % 6 = y by omega, h.1]
    exact Int64.ofInt_toInt _
  · rw [if_neg h]
theorem PS_PS {σ : Mem} {f g : SF} : PS (PS σ f) g = PS σ g := by
  unfold PS
  refine Prod.ext rfl ?_
  funext x y
  show (if _ then _ else if _ then _ else _) = (if _ then _ else _)
  split <;> rfl
section SL
variable {σ : Mem} {G : GD} {f : SF}
theorem p_of {s i : Nat} (hs : s < 100) (hi : i < 6) : f_X11_of (PS σ f) (i32 s) (i32 i) = some (oi (f s i)) := by
  rw [e_of hs hi, PS_vec hs hi]
theorem upv_oi {a : Nat → Int} {i : Nat} {x : Int} : upv (fun k => oi (a k)) i (oi x) = fun k => oi (if k = i then x else a k) := by
  funext k
  unfold upv
  split <;> rfl
def uV (a : Nat → Int) (i : Nat) (x : Int) : Nat → Int := fun k => if k = i then x else a k
theorem p_puts {s i : Nat} {x : Int} (hs : s < 100) (hi : i < 6) : f_X11_puts (PS σ f) (i32 s) (i32 i) (oi x) = some (PS σ (uS f s (uV (f s) i x))) := by
  rw [e_puts hs hi, ← PS_setI hs]
  congr 1
  unfold setI
  refine setV_congr (fun k hk => ?_)
  unfold upv uV
  split
  · rfl
  · exact PS_vec hs hk
theorem p_ones {s : Nat} (hs : s < 100) : f_X11_ones (PS σ f) (i32 s) = some (PS σ (uS f s (fun _ => 0))) := by
  rw [e_ones hs, ← PS_setI hs]; rfl
theorem p_copies {s r : Nat} (hs : s < 100) (hr : r < 100) (hne : s ≠ r) : f_X11_copies (PS σ f) (i32 s) (i32 r) = some (PS σ (uS f r (f s))) := by
  rw [e_copies hs hr hne, ← PS_setI hr]
  congr 1
  unfold setI
  exact setV_congr (fun k hk => PS_vec hs hk)
theorem p_times (h : MG σ G) (hG : GOK G) (h0 : M0 σ) {s r : Nat} (hs : s < 100) (hr : r < 100) (hne : r ≠ s) (ha : S30 G (f s)) (hb : S30 G (f r)) : f_X11_times (PS σ f) (i32 s) (i32 r) = some (PS σ (uS f s (mul G (f s) (f r)))) := by
  rw [e_times (PS_MG h) hG hs hr hne (fun i hi => PS_vec hs hi) (fun i hi => PS_vec hr hi) (PS_M0 h0) ha hb, PS_setI hs]
end SL
/-! inverses -/
def invU (G : GD) (a : Nat → Int) : Nat → (Nat → Int)
  | 0 => fun _ => 0
  | k + 1 => uV (invU G a k) k (-(mul G a (invU G a k) k))
def inv (G : GD) (a : Nat → Int) : Nat → Int := invU G a (gn G)
theorem mul_one {G : GD} (hG : GOK G) {a b : Nat → Int} {m : Nat} (hm : gw G m ≤ 1) (hm2 : m < gn G) : mul G a b m = a m + b m := by
  unfold mul
  rw [mulU_one hG hm (gn G) (Nat.le_refl _), if_pos hm2]
theorem invU_one {G : GD} (hG : GOK G) {a : Nat → Int} {m : Nat} (hm : gw G m ≤ 1) (hm2 : m < gn G) : ∀ k, invU G a k m = if m < k then -a m else 0 := by
  intro k
  induction k with
  | zero => rw [if_neg (Nat.not_lt_zero m)]; rfl
  | succ k ih =>
    show uV (invU G a k) k _ m = _
    unfold uV
    by_cases h1 : m = k
    · subst h1
      rw [if_pos rfl, mul_one hG hm hm2, ih, if_neg (Nat.lt_irrefl m), if_pos (Nat.lt_succ_self m), Int.add_zero]
    · rw [if_neg h1, ih]
      by_cases h2 : m < k
      · rw [if_pos h2, if_pos (by omega)]
      · rw [if_neg h2, if_neg (by omega)]
theorem inv_one {G : GD} (hG : GOK G) {a : Nat → Int} {m : Nat} (hm : gw G m ≤ 1) (hm2 : m < gn G) : inv G a m = -a m := by
  unfold inv
  rw [invU_one hG hm hm2, if_pos hm2]
/-- exponents of weight one within a bound -/
def SB (G : GD) (B : Int) (a : Nat → Int) : Prop := ∀ j, j < gn G → gw G j = 1 → -B ≤ a j ∧ a j ≤ B
theorem SB.s30 {G : GD} {B : Int} {a : Nat → Int} (h : SB G B a) (hB : B ≤ 2 ^ 30) : S30 G a := fun j hj hw => by have := h j hj hw; omega
theorem SB.mul {G : GD} (hG : GOK G) {A B : Int} {a b : Nat → Int} (ha : SB G A a) (hb : SB G B b) : SB G (A + B) (mul G a b) := fun j hj hw => by
  rw [mul_one hG (by omega) hj]
  have h1 := ha j hj hw
  have h2 := hb j hj hw
  omega
theorem SB.inv {G : GD} (hG : GOK G) {A : Int} {a : Nat → Int} (ha : SB G A a) : SB G A (inv G a) := fun j hj hw => by
  rw [inv_one hG (by omega) hj]
  have h1 := ha j hj hw
  omega
theorem SB.invU {G : GD} (hG : GOK G) {A : Int} {a : Nat → Int} (ha : SB G A a) (k : Nat) : SB G A (invU G a k) := fun j hj hw => by
  rw [invU_one hG (by omega) hj]
  have h1 := ha j hj hw
  split <;> omega
/-- so many times itself -/
def pw (G : GD) (x : Nat → Int) : Nat → (Nat → Int)
  | 0 => fun _ => 0
  | k + 1 => mul G (pw G x k) x
theorem SB.zero {G : GD} {A : Int} (hA : 0 ≤ A) : SB G A (fun _ => 0) := fun j _ _ => ⟨by show -A ≤ 0; omega, by show 0 ≤ A; omega⟩
section SL2
variable {σ : Mem} {G : GD} {f : SF}
theorem p_inverse (h : MG σ G) (hG : GOK G) (h0 : M0 σ) {s t : Nat} (hs : s < 100) (ht : t + 1 < 100) (hne : s ≠ t) (hne2 : s ≠ t + 1) {B : Int} (hB : 2 * B ≤ 2 ^ 30) (hB0 : 0 ≤ B) (ha : SB G B (f s)) :
    ∃ f', f_X11_inverse (PS σ f) (i32 s) (i32 t) = some (PS σ f') ∧ f' t = inv G (f s) ∧ ∀ q, q ≠ t → q ≠ t + 1 → f' q = f q := by
  have hn := hG.2.1
  unfold f_X11_inverse
  rw [p_ones (by omega), e_bs]
  have hl := loop_inv (body := fun (z3 : Mem × Int32) => l_X11_inverse_7 (i32 s) (i32 t) z3.1 z3.2) (fun n z => ∃ k f', k ≤ gn G ∧ n = gn G - k ∧ z = (PS σ f', i32 k) ∧ f' t = invU G (f s) k ∧ ∀ q, q ≠ t → q ≠ t + 1 → f' q = f q) (fun x => ∃ f', x = PS σ f' ∧ f' t = inv G (f s) ∧ ∀ q, q ≠ t → q ≠ t + 1 → f' q = f q) ?_ (gn G) (PS σ (uS f t (fun _ => 0)), 0) ⟨0, _, Nat.zero_le _, by omega, rfl, uS_self, fun q hq _ => uS_ne hq⟩
  · obtain ⟨x, hx, f', rfl, h1, h2⟩ := hl
    exact ⟨f', hx, h1, h2⟩
  · rintro n z ⟨k, f', hk, hnk, rfl, h1, h2⟩
    show _ ∨ _
    by_cases hkn : k = gn G
    · right
      refine ⟨PS σ f', ?_, f', rfl, by rw [h1, hkn]; rfl, h2⟩
      show l_X11_inverse_7 _ _ _ _ = _
      unfold l_X11_inverse_7
      rw [e_n (PS_MG h), e_bs, if_pos (i_le (by omega) (by omega))]
    · left
      have hfs : f' s = f s := h2 s hne hne2
      refine ⟨_, gn G - (k + 1), by omega, ?_, k + 1, uS (uS f' (t + 1) (mul G (f s) (invU G (f s) k))) t (invU G (f s) (k + 1)), by omega, rfl, rfl, uS_self, fun q hq hq2 => by rw [uS_ne hq, uS_ne hq2, h2 q hq hq2]⟩
      show l_X11_inverse_7 _ _ _ _ = _
      unfold l_X11_inverse_7
      have hS1 : SB G B (uS f' (t + 1) (f' s) (t + 1)) := by rw [uS_self, hfs]; exact ha
      have hS2 : SB G B (uS f' (t + 1) (f' s) t) := by rw [uS_ne (by omega), h1]; exact ha.invU hG k
      rw [e_n (PS_MG h), e_bs, if_neg (i_nle (by omega) (by omega)), i32_1, i32_add, p_copies hs (by omega) hne2, e_bs, p_times h hG h0 (by omega) (by omega) (by omega) (hS1.s30 (by omega)) (hS2.s30 (by omega)), e_bs, p_of (by omega) (by omega), e_bs, oi_neg, p_puts (by omega) (by omega), e_bs, i32_add]
      congr 4
      funext q
      unfold uS
      by_cases hq : q = t
      · subst hq
        rw [if_pos rfl, if_pos rfl, if_neg (by omega), if_neg (by omega), if_pos rfl, h1, hfs]
        rw [if_pos rfl]
        rfl
      · rw [if_neg hq, if_neg hq]
        by_cases hq2 : q = t + 1
        · subst hq2
          rw [if_pos rfl, if_pos rfl, if_pos rfl, if_neg (by omega), h1, hfs]
        · rw [if_neg hq2, if_neg hq2, if_neg hq2]
/-- powers -/
theorem p_commutator (h : MG σ G) (hG : GOK G) (h0 : M0 σ) {s r t : Nat} (hs : s < 100) (hr : r < 100) (ht : t + 2 < 100) (hst : s < t ∨ t + 2 < s) (hrt : r < t ∨ t + 2 < r) {B : Int} (hB : 4 * B ≤ 2 ^ 30) (hB0 : 0 ≤ B) (ha : SB G B (f s)) (hb : SB G B (f r)) :
    ∃ f', f_X11_commutator (PS σ f) (i32 s) (i32 r) (i32 t) = some (PS σ f') ∧ f' t = mul G (mul G (mul G (inv G (f s)) (inv G (f r))) (f s)) (f r) ∧ ∀ q, q < t ∨ t + 2 < q → f' q = f q := by
  unfold f_X11_commutator
  obtain ⟨f1, e1, g1, k1⟩ := p_inverse (f := f) h hG h0 hs (t := t) (by omega) (by omega) (by omega) (by omega) hB0 ha
  rw [e1, e_bs, i32_1, i32_add]
  have hr1 : f1 r = f r := k1 r (by omega) (by omega)
  have hs1 : f1 s = f s := k1 s (by omega) (by omega)
  obtain ⟨f2, e2, g2, k2⟩ := p_inverse (f := f1) h hG h0 hr (t := t + 1) (by omega) (by omega) (by omega) (by omega) hB0 (by rw [hr1]; exact hb)
  have ht2 : f2 t = inv G (f s) := by rw [k2 t (by omega) (by omega), g1]
  have hs2 : f2 s = f s := by rw [k2 s (by omega) (by omega), hs1]
  have hr2 : f2 r = f r := by rw [k2 r (by omega) (by omega), hr1]
  rw [hr1] at g2
  have hi1 := ha.inv hG
  have hi2 := hb.inv hG
  have hi3 := hi1.mul hG hi2
  have hi4 := hi3.mul hG ha
  rw [e2, e_bs, p_times h hG h0 (by omega) (by omega) (by omega) (by rw [ht2]; exact hi1.s30 (by omega)) (by rw [g2]; exact hi2.s30 (by omega)), e_bs, g2, ht2]
  rw [p_times h hG h0 (by omega) (by omega) (by omega) (by rw [uS_self]; exact hi3.s30 (by omega)) (by rw [uS_ne (by omega), hs2]; exact ha.s30 (by omega)), e_bs, uS_self, uS_ne (by omega), hs2]
  rw [p_times h hG h0 (by omega) (by omega) (by omega) (by rw [uS_self]; exact hi4.s30 (by omega)) (by rw [uS_ne (by omega), uS_ne (by omega), hr2]; exact hb.s30 (by omega)), e_bs, uS_self, uS_ne (by omega), uS_ne (by omega), hr2]
  refine ⟨_, rfl, uS_self, fun q hq => ?_⟩
  rw [uS_ne (by omega), uS_ne (by omega), uS_ne (by omega), k2 q (by omega) (by omega), k1 q (by omega) (by omega)]
theorem p_conjugates (h : MG σ G) (hG : GOK G) (h0 : M0 σ) {s r t : Nat} (hs : s < 100) (hr : r < 100) (ht : t + 1 < 100) (hst : s < t ∨ t + 1 < s) (hrt : r < t ∨ t + 1 < r) {B : Int} (hB : 4 * B ≤ 2 ^ 30) (hB0 : 0 ≤ B) (ha : SB G B (f s)) (hb : SB G B (f r)) :
    ∃ f', f_X11_conjugates (PS σ f) (i32 s) (i32 r) (i32 t) = some (PS σ f') ∧ f' t = mul G (mul G (inv G (f r)) (f s)) (f r) ∧ ∀ q, q < t ∨ t + 1 < q → f' q = f q := by
  unfold f_X11_conjugates
  obtain ⟨f1, e1, g1, k1⟩ := p_inverse (f := f) h hG h0 hr (t := t) (by omega) (by omega) (by omega) (by omega) hB0 hb
  have hr1 : f1 r = f r := k1 r (by omega) (by omega)
  have hs1 : f1 s = f s := k1 s (by omega) (by omega)
  have hi2 := hb.inv hG
  have hi3 := hi2.mul hG ha
  rw [e1, e_bs, p_times h hG h0 (by omega) (by omega) (by omega) (by rw [g1]; exact hi2.s30 (by omega)) (by rw [hs1]; exact ha.s30 (by omega)), e_bs, g1, hs1]
  rw [p_times h hG h0 (by omega) (by omega) (by omega) (by rw [uS_self]; exact hi3.s30 (by omega)) (by rw [uS_ne (by omega), hr1]; exact hb.s30 (by omega)), e_bs, uS_self, uS_ne (by omega), hr1]
  refine ⟨_, rfl, uS_self, fun q hq => ?_⟩
  rw [uS_ne (by omega), uS_ne (by omega), k1 q (by omega) (by omega)]
/-- a power by multiplying -/
theorem pw_bound {x : Nat → Int} {B : Int} (hG : GOK G) (hx : SB G B x) (hB0 : 0 ≤ B) : ∀ k : Nat, SB G (B * k) (pw G x k) := by
  intro k
  induction k with
  | zero => exact SB.zero (by simp)
  | succ k ih =>
    have h1 := ih.mul hG hx
    intro j hj hw
    have h2 := h1 j hj hw
    have e : B * ((k + 1 : Nat) : Int) = B * k + B := by rw [Int.natCast_add, Int.mul_add]; simp
    rw [e]
    exact h2
theorem p_raises (h : MG σ G) (hG : GOK G) (h0 : M0 σ) {s t : Nat} {m : Int32} {z : Int} (hs : s < 100) (ht : t + 3 < 100) (hst : s < t ∨ t + 3 < s) (hm : m.toInt = z) (hz : -99 ≤ z ∧ z ≤ 99) {B : Int} (hB : 100 * B ≤ 2 ^ 30) (hB0 : 0 ≤ B) (ha : SB G B (f s)) :
    ∃ f', f_X11_raises (PS σ f) (i32 s) (i32 t) m = some (PS σ f') ∧ f' t = pw G (if z < 0 then inv G (f s) else f s) z.natAbs ∧ ∀ q, q < t ∨ t + 3 < q → f' q = f q := by
  have hm2 : m = if 0 ≤ z then i32 z.natAbs else -i32 z.natAbs := by
    rw [← Int32.toInt_inj, hm]
    split
    · rw [i32_toInt (by omega)]; omega
    · rw [Int32.toInt_neg, i32_toInt (by omega)]
      rw [Int.bmod_eq_of_le (by omega) (by omega)]; omega
  unfold f_X11_raises
  have hfirst : ∃ f1, (if 0 ≤ m then ((f_X11_copies (PS σ f) (i32 s) (i32 t + 2)).bind (fun (σ7 : Mem) => some σ7)) else ((f_X11_inverse (PS σ f) (i32 s) (i32 t + 2)).bind (fun (σ8 : Mem) => some σ8)) : Option Mem) = some (PS σ f1) ∧ f1 (t + 2) = (if z < 0 then inv G (f s) else f s) ∧ ∀ q, q ≠ t + 2 → q ≠ t + 3 → f1 q = f q := by
    by_cases hz0 : 0 ≤ z
    · rw [if_pos hz0] at hm2
      rw [hm2, if_pos (show 0 ≤ i32 z.natAbs from i_le (a := 0) (Nat.zero_le _) (by omega)), i32_2, i32_add, p_copies hs (by omega) (by omega), e_bs, if_neg (by omega)]
      exact ⟨_, rfl, uS_self, fun q h1 _ => uS_ne h1⟩
    · have hneg : ¬ 0 ≤ m := by
        rw [Int32.le_iff_toInt_le, hm]
        have : (0 : Int32).toInt = 0 := by decide
        omega
      obtain ⟨f1, e1, g1, k1⟩ := p_inverse (f := f) h hG h0 hs (t := t + 2) (by omega) (by omega) (by omega) (by omega) hB0 ha
      rw [if_neg hneg, i32_2, i32_add, e1, e_bs, if_pos (by omega)]
      exact ⟨f1, rfl, g1, fun q h1 h2 => k1 q h1 (by omega)⟩
  obtain ⟨f1, e1, g1, k1⟩ := hfirst
  rw [e1, e_bs]
  unfold j_X11_raises_23
  have habs : (if 0 ≤ m then (some m) else (some (-m)) : Option Int32) = some (i32 z.natAbs) := by
    by_cases hz0 : 0 ≤ z
    · rw [if_pos hz0] at hm2
      rw [hm2, if_pos (show 0 ≤ i32 z.natAbs from i_le (a := 0) (Nat.zero_le _) (by omega))]
    · have hneg : ¬ 0 ≤ m := by
        rw [Int32.le_iff_toInt_le, hm]
        have : (0 : Int32).toInt = 0 := by decide
        omega
      rw [if_neg hz0] at hm2
      rw [if_neg hneg, hm2, Int32.neg_neg]
  rw [p_ones (by omega), e_bs, habs, e_bs]
  unfold j_X11_raises_38
  have hx : SB G B (if z < 0 then inv G (f s) else f s) := by
    split
    · exact ha.inv hG
    · exact ha
  generalize (if z < 0 then inv G (f s) else f s) = x at g1 hx ⊢
  have hN : z.natAbs ≤ 99 := by omega
  generalize z.natAbs = N at hN ⊢
  refine ⟨_, loop_at (fun k => (PS σ (uS f1 t (pw G x k)), i32 (N - k))) 0 N ?_ (Nat.zero_le _) (fun k _ hk => ?_) (x := PS σ (uS f1 t (pw G x N))) ?_, uS_self, fun q hq => by rw [uS_ne (by omega), k1 q (by omega) (by omega)]⟩
  · rfl
  · show l_X11_raises_40 _ _ _ = _
    unfold l_X11_raises_40
    have hb := pw_bound hG hx hB0 k
    have hkB : B * (k : Int) ≤ B * 99 := Int.mul_le_mul_of_nonneg_left (by omega) hB0
    rw [if_neg (show ¬ i32 (N - k) ≤ 0 from i_nle (b := 0) (by omega) (by omega)), i32_2, i32_add, p_times h hG h0 (by omega) (by omega) (by omega) (by rw [uS_self]; exact hb.s30 (by omega)) (by rw [uS_ne (by omega), g1]; exact hx.s30 (by omega)), e_bs, uS_self, uS_ne (by omega), g1]
    have e2 : i32 (N - k) + (-1) = i32 (N - (k + 1)) := by
      rw [show N - k = (N - (k + 1)) + 1 by omega, ← i32_add, ← i32_1, Int32.add_neg_eq_sub, Int32.add_sub_cancel]
    rw [e2]
    congr 4
    funext q
    unfold uS
    by_cases hq : q = t
    · rw [if_pos hq, if_pos hq]; rfl
    · rw [if_neg hq, if_neg hq, if_neg hq]
  · show l_X11_raises_40 _ _ _ = _
    unfold l_X11_raises_40
    rw [Nat.sub_self, if_pos (show i32 0 ≤ 0 from i_le (b := 0) (Nat.le_refl 0) (by omega))]
end SL2
