/-! keys and places of terms, in bits -/
section KY
theorem i_and (a b : Nat) : i32 a &&& i32 b = i32 (a &&& b) := by
  apply Int32.toBitVec_inj.1
  show BitVec.ofNat 32 a &&& BitVec.ofNat 32 b = BitVec.ofNat 32 (a &&& b)
  apply BitVec.eq_of_getLsbD_eq
  intro i hi
  simp [hi]
theorem i_or (a b : Nat) : i32 a ||| i32 b = i32 (a ||| b) := by
  apply Int32.toBitVec_inj.1
  show BitVec.ofNat 32 a ||| BitVec.ofNat 32 b = BitVec.ofNat 32 (a ||| b)
  apply BitVec.eq_of_getLsbD_eq
  intro i hi
  simp [hi]
theorem i_andmask (n k : Nat) : i32 n &&& i32 (2 ^ k - 1) = i32 (n % 2 ^ k) := by
  rw [i_and, Nat.and_two_pow_sub_one_eq_mod]
theorem i_orsum {a k : Nat} (b : Nat) (h : a < 2 ^ k) : i32 (2 ^ k * b) ||| i32 a = i32 (2 ^ k * b + a) := by
  rw [i_or, Nat.two_pow_add_eq_or_of_lt h]
theorem i_key {a d : Nat} (ha : a < 2 ^ 22) (hd : d < 4) : (i32 a <<< (2 &&& 31)) ||| (i32 d &&& 3) = i32 (4 * a + d) := by
  have h1 : i32 a <<< ((2 : Int32) &&& 31) = i32 (a * 2 ^ 2) := pk_shlN (n := a) (2 &&& 31) 2 (by decide) (by omega)
  have h2 : i32 d &&& 3 = i32 (d % 2 ^ 2) := i_andmask d 2
  rw [h1, h2, Nat.mod_eq_of_lt (by omega), Nat.mul_comm, i_orsum _ (by omega)]
theorem i_place {a d : Nat} (ha : a < 2 ^ 12) (hd : d < 64) : (i32 a <<< (6 &&& 31)) ||| i32 d = i32 (64 * a + d) := by
  have h1 : i32 a <<< ((6 : Int32) &&& 31) = i32 (a * 2 ^ 6) := pk_shlN (n := a) (6 &&& 31) 6 (by decide) (by omega)
  rw [h1, Nat.mul_comm, i_orsum _ (by omega)]
theorem i_f0 {a : Nat} : i32 a &&& 63 = i32 (a % 64) := i_andmask a 6
theorem i_f1 {a : Nat} (ha : a < 2 ^ 31) : (i32 a >>> (6 &&& 31)) &&& 63 = i32 (a / 64 % 64) := by
  have h1 : i32 a >>> ((6 : Int32) &&& 31) = i32 (a / 2 ^ 6) := pk_shrN (n := a) ha (6 &&& 31) 6 (by decide)
  rw [h1]; exact i_andmask _ 6
theorem i_f2 {a : Nat} (ha : a < 2 ^ 31) : (i32 a >>> (12 &&& 31)) &&& 63 = i32 (a / 4096 % 64) := by
  have h1 : i32 a >>> ((12 : Int32) &&& 31) = i32 (a / 2 ^ 12) := pk_shrN (n := a) ha (12 &&& 31) 12 (by decide)
  rw [h1]; exact i_andmask _ 6
/-! folds -/
def fo {α : Type} (op : α → α → α) (z : α) (f : Nat → α) : Nat → α
  | 0 => z
  | n + 1 => op (fo op z f n) (f n)
section FO2
variable {α : Type} {op : α → α → α} {z : α}
theorem fo_congr {f g : Nat → α} : ∀ n, (∀ i, i < n → f i = g i) → fo op z f n = fo op z g n := by
  intro n
  induction n with
  | zero => intro _; rfl
  | succ n ih =>
    intro h
    show op _ _ = op _ _
    rw [ih (fun i hi => h i (by omega)), h n (Nat.lt_succ_self n)]
theorem fo_app (ha : ∀ a b c, op (op a b) c = op a (op b c)) (hr : ∀ a, op a z = a) {f : Nat → α} (m : Nat) : ∀ n, fo op z f (m + n) = op (fo op z f m) (fo op z (fun i => f (m + i)) n) := by
  intro n
  induction n with
  | zero => exact (hr _).symm
  | succ n ih =>
    show op (fo op z f (m + n)) (f (m + n)) = op _ (op _ (f (m + n)))
    rw [ih, ha]
theorem fo_z (hr : ∀ a, op a z = a) {f : Nat → α} {m : Nat} : ∀ n, (∀ i, i < n → f (m + i) = z) → fo op z (fun i => f (m + i)) n = z := by
  intro n
  induction n with
  | zero => intro _; rfl
  | succ n ih =>
    intro h
    show op (fo op z (fun i => f (m + i)) n) (f (m + n)) = z
    rw [ih (fun i hi => h i (by omega)), h n (Nat.lt_succ_self n), hr]
theorem fo_front (ha : ∀ a b c, op (op a b) c = op a (op b c)) (hr : ∀ a, op a z = a) (hl : ∀ a, op z a = a) {f : Nat → α} (n : Nat) : fo op z f (n + 1) = op (f 0) (fo op z (fun i => f (i + 1)) n) := by
  have h := fo_app ha hr (f := f) 1 n
  rw [Nat.add_comm 1 n] at h
  rw [h]
  show op (op z (f 0)) _ = _
  rw [hl]
  congr 1
  exact fo_congr n (fun i _ => by rw [Nat.add_comm])
end FO2
section DG
variable {G : GD}
/-- a term's degrees, in the class's twelve variables -/
def dg (G : GD) (e : List Nat) (v : Nat) : Nat := if v < 6 then (if v < gn G then e.getD v 0 else 0) else if v - 6 < gn G then e.getD (gn G + (v - 6)) 0 else 0
def vp (G : GD) (p : Nat) : Nat := if p < gn G then p else 6 + (p - gn G)
theorem fo12 (hG : GOK G) {α : Type} {op : α → α → α} {z : α} (ha : ∀ a b c, op (op a b) c = op a (op b c)) (hr : ∀ a, op a z = a) {g : Nat → α} (h0 : ∀ v, v < 12 → gn G ≤ v % 6 → g v = z) : fo op z g 12 = fo op z (fun p => g (vp G p)) (2 * gn G) := by
  have hn := hG.2.1
  have half : ∀ m, (m = 0 ∨ m = 6) → fo op z (fun i => g (m + i)) 6 = fo op z (fun i => g (m + i)) (gn G) := fun m hm => by
    have h1 := fo_app ha hr (f := fun i => g (m + i)) (gn G) (6 - gn G)
    rw [show gn G + (6 - gn G) = 6 by omega] at h1
    rw [h1, fo_z hr (f := fun i => g (m + i)) (m := gn G) (6 - gn G) (fun i hi => h0 _ (by omega) (by omega)), hr]
  have h2 := fo_app ha hr (f := g) 6 6
  have h3 := fo_app ha hr (f := fun p => g (vp G p)) (gn G) (gn G)
  rw [show gn G + gn G = 2 * gn G by omega] at h3
  have h5 : fo op z g 6 = fo op z g (gn G) := by
    have := half 0 (Or.inl rfl)
    rw [show (fun i => g (0 + i)) = g from funext (fun i => by rw [Nat.zero_add])] at this
    exact this
  rw [h2, h3, half 6 (Or.inr rfl), h5]
  congr 1
  · exact fo_congr _ (fun i hi => by unfold vp; rw [if_pos hi])
  · exact fo_congr _ (fun i hi => by unfold vp; rw [if_neg (by omega), show gn G + i - gn G = i by omega])
theorem dg_vp (hG : GOK G) {e : List Nat} {p : Nat} (hp : p < 2 * gn G) : dg G e (vp G p) = e.getD p 0 := by
  have hn := hG.2.1
  unfold dg vp
  by_cases h1 : p < gn G
  · rw [if_pos h1, if_pos (by omega), if_pos h1]
  · rw [if_neg h1, if_neg (by omega), if_pos (by omega), show gn G + (6 + (p - gn G) - 6) = p by omega]
theorem dg_out {e : List Nat} {v : Nat} (hv : v < 12) (h : gn G ≤ v % 6) : dg G e v = 0 := by
  unfold dg
  by_cases h1 : v < 6
  · rw [if_pos h1, if_neg (by omega)]
  · rw [if_neg h1, if_neg (by omega)]
theorem Bn_fo : ∀ (e : List Nat) (xs : List Int), xs.length = e.length → Bn e xs = fo (· * ·) 1 (fun p => bn (e.getD p 0) (xs.getD p 0)) e.length := by
  intro e
  induction e with
  | nil => intro xs _; cases xs <;> rfl
  | cons d e ih =>
    intro xs hl
    cases xs with
    | nil => simp at hl
    | cons x xs =>
      rw [List.length_cons, fo_front (fun a b c => Int.mul_assoc a b c) Int.mul_one Int.one_mul]
      show bn d x * Bn e xs = bn ((d :: e).getD 0 0) ((x :: xs).getD 0 0) * _
      rw [ih xs (by simpa using hl)]
      rfl
def nzc (d : Nat → Nat) (n : Nat) : Nat := fo (· + ·) 0 (fun v => if d v = 0 then 0 else 1) n
theorem nz_wt : ∀ (W e : List Nat), (∀ w, w ∈ W → 1 ≤ w) → e.length = W.length → fo (· + ·) 0 (fun p => if e.getD p 0 = 0 then 0 else 1) e.length ≤ pwt W e := by
  intro W
  induction W with
  | nil =>
    intro e _ hl
    have : e = [] := List.length_eq_zero_iff.mp hl
    subst this; exact Nat.le_refl 0
  | cons w W ih =>
    intro e hw hl
    cases e with
    | nil => simp at hl
    | cons d e =>
      have h1 := ih e (fun x hx => hw x (List.mem_cons_of_mem _ hx)) (by simpa using hl)
      have h2 := hw w (List.mem_cons_self ..)
      rw [List.length_cons, fo_front (fun a b c => Nat.add_assoc a b c) Nat.add_zero Nat.zero_add]
      show (if (d :: e).getD 0 0 = 0 then 0 else 1) + fo (· + ·) 0 (fun i => if (d :: e).getD (i + 1) 0 = 0 then 0 else 1) e.length ≤ d * w + pwt W e
      have h3 : (fun i => if (d :: e).getD (i + 1) 0 = 0 then 0 else 1) = fun i => if e.getD i 0 = 0 then (0 : Nat) else 1 := funext (fun i => by rw [List.getD_cons_succ])
      have h4 : (if (d :: e).getD 0 0 = 0 then 0 else 1) ≤ d * w := by
        show (if d = 0 then 0 else 1) ≤ d * w
        by_cases h5 : d = 0
        · rw [if_pos h5]; exact Nat.zero_le _
        · rw [if_neg h5]
          have := Nat.mul_le_mul (show 1 ≤ d by omega) h2
          omega
      rw [h3]
      omega
theorem wt_get : ∀ (W e : List Nat) (p : Nat), e.length = W.length → e.getD p 0 * W.getD p 0 ≤ pwt W e := by
  intro W
  induction W with
  | nil =>
    intro e p hl
    have : e = [] := List.length_eq_zero_iff.mp hl
    subst this
    show 0 * _ ≤ 0
    omega
  | cons w W ih =>
    intro e p hl
    cases e with
    | nil => simp at hl
    | cons d e =>
      show _ ≤ d * w + pwt W e
      cases p with
      | zero =>
        show d * w ≤ _
        omega
      | succ p =>
        rw [List.getD_cons_succ, List.getD_cons_succ]
        have := ih e p (by simpa using hl)
        omega
theorem nzc_le (hG : GOK G) {L : Nat} {e : List Nat} (he : e ∈ pts (wl G) L) : nzc (dg G e) 12 ≤ L := by
  have h1 := (pts_mem _ _ _ (wl_pos hG)).mp he
  have h2 := nz_wt (wl G) e (wl_pos hG) h1.1
  unfold nzc
  rw [fo12 hG (fun a b c => Nat.add_assoc a b c) Nat.add_zero (fun v hv h => by rw [dg_out hv h]; rfl)]
  rw [h1.1, wl_len] at h2
  have e1 : fo (· + ·) 0 (fun p => if dg G e (vp G p) = 0 then 0 else 1) (2 * gn G) = fo (· + ·) 0 (fun p => if e.getD p 0 = 0 then 0 else 1) (2 * gn G) := fo_congr _ (fun p hp => by rw [dg_vp hG hp])
  exact Nat.le_trans (Nat.le_of_eq e1) (Nat.le_trans h2 h1.2)
/-- a term's binomials, at the class's twelve numbers -/
def xl (G : GD) (x : Nat → Int) : List Int := (List.range' 0 (2 * gn G)).map (fun p => x (vp G p))
theorem xl_len {x : Nat → Int} : (xl G x).length = 2 * gn G := by
  unfold xl
  rw [List.length_map, List.length_range']
theorem xl_get {x : Nat → Int} {p : Nat} (hp : p < 2 * gn G) : (xl G x).getD p 0 = x (vp G p) := by
  unfold xl
  rw [List.getD_eq_getElem?_getD, List.getElem?_map, List.getElem?_range' hp, Nat.one_mul, Nat.zero_add]
  rfl
theorem val12 (hG : GOK G) {e : List Nat} (he : e.length = 2 * gn G) {x : Nat → Int} : fo (· * ·) 1 (fun v => bn (dg G e v) (x v)) 12 = Bn e (xl G x) := by
  rw [Bn_fo e (xl G x) (by rw [xl_len, he]), he, fo12 hG (fun a b c => Int.mul_assoc a b c) Int.mul_one (fun v hv h => by rw [dg_out hv h]; rfl)]
  exact fo_congr _ (fun p hp => by rw [dg_vp hG hp, xl_get hp])
end DG
/-! a key, and its degrees back -/
def ky (d : Nat → Nat) : Nat → Nat
  | 0 => 0
  | v + 1 => 4 * ky d v + d v
theorem ky_lt {d : Nat → Nat} : ∀ v, (∀ u, u < v → d u ≤ 3) → ky d v < 4 ^ v := by
  intro v
  induction v with
  | zero => intro _; exact Nat.one_pos
  | succ v ih =>
    intro h
    have h1 := ih (fun u hu => h u (by omega))
    have h2 := h v (Nat.lt_succ_self v)
    show 4 * ky d v + d v < 4 ^ (v + 1)
    rw [Nat.pow_succ]
    omega
theorem ky_div {d : Nat → Nat} : ∀ j v, (∀ u, u < v + j → d u ≤ 3) → ky d (v + j) / 4 ^ j = ky d v := by
  intro j
  induction j with
  | zero => intro v _; rw [Nat.pow_zero, Nat.div_one]; rfl
  | succ j ih =>
    intro v h
    have h2 := h (v + j) (by omega)
    rw [Nat.pow_succ, Nat.mul_comm, ← Nat.div_div_eq_div_mul]
    have e : ky d (v + (j + 1)) / 4 = ky d (v + j) := by
      show (4 * ky d (v + j) + d (v + j)) / 4 = _
      omega
    rw [e]
    exact ih v (fun u hu => h u (by omega))
theorem ky_get {d : Nat → Nat} (h : ∀ u, u < 12 → d u ≤ 3) {v : Nat} (hv : v < 12) : ky d 12 / 4 ^ (11 - v) % 4 = d v := by
  have h1 := ky_div (d := d) (11 - v) (v + 1) (fun u hu => h u (by omega))
  rw [show v + 1 + (11 - v) = 12 by omega] at h1
  rw [h1]
  have := h v hv
  show (4 * ky d v + d v) % 4 = d v
  omega
theorem c_degree {σ : Mem} {d : Nat → Nat} (h : ∀ u, u < 12 → d u ≤ 3) {v : Nat} (hv : v < 12) : f_X10_degree σ (i32 (ky d 12)) (i32 v) = some (i32 (d v)) := by
  unfold f_X10_degree
  have hk := ky_lt (d := d) 12 h
  have hs : ∀ v, v < 12 → ((((2 : Int32) * (11 - i32 v)) &&& 31).toBitVec.smod 32).toNat = 2 * (11 - v) := by
    have key : (List.range 12).all (fun v => decide (((((2 : Int32) * (11 - i32 v)) &&& 31).toBitVec.smod 32).toNat = 2 * (11 - v))) = true := by decide
    intro v hv
    exact of_decide_eq_true (List.all_eq_true.mp key v (List.mem_range.mpr hv))
  have h1 : i32 (ky d 12) >>> ((2 * (11 - i32 v)) &&& 31) = i32 (ky d 12 / 2 ^ (2 * (11 - v))) := pk_shrN (n := ky d 12) (by omega) _ _ (hs v hv)
  have h2 : ∀ a, i32 a &&& 3 = i32 (a % 4) := fun a => i_andmask a 2
  rw [h1, h2, Nat.pow_mul, show 2 ^ 2 = 4 from rfl, ky_get h hv]
/-! places -/
def pl (d : Nat → Nat) : Nat → Nat
  | 0 => 0
  | v + 1 => if d v = 0 then pl d v else 64 * pl d v + (4 * v + d v)
theorem nzc_succ {d : Nat → Nat} {v : Nat} : nzc d (v + 1) = nzc d v + if d v = 0 then 0 else 1 := rfl
theorem nzc_mono {d : Nat → Nat} : ∀ j v, nzc d v ≤ nzc d (v + j) := by
  intro j
  induction j with
  | zero => intro v; exact Nat.le_refl _
  | succ j ih =>
    intro v
    have := ih v
    rw [show v + (j + 1) = (v + j) + 1 by omega, nzc_succ]
    omega
theorem pl_lt {d : Nat → Nat} : ∀ v, v ≤ 12 → (∀ u, u < v → d u ≤ 3) → pl d v < 64 ^ nzc d v := by
  intro v
  induction v with
  | zero => intro _ _; exact Nat.one_pos
  | succ v ih =>
    intro hv h
    have h1 := ih (by omega) (fun u hu => h u (by omega))
    have h2 := h v (Nat.lt_succ_self v)
    rw [nzc_succ]
    show (if d v = 0 then pl d v else 64 * pl d v + (4 * v + d v)) < _
    by_cases h3 : d v = 0
    · rw [if_pos h3, if_pos h3]; exact h1
    · rw [if_neg h3, if_neg h3, Nat.pow_succ]
      omega
theorem c_placesOf {σ : Mem} {d : Nat → Nat} (h : ∀ u, u < 12 → d u ≤ 3) (hz : nzc d 12 ≤ 3) : f_X9_placesOf σ (i32 (ky d 12)) = some (i32 (pl d 12)) := by
  unfold f_X9_placesOf
  refine loop_at (fun v => (i32 (pl d v), i32 v)) 0 12 rfl (Nat.zero_le _) (fun v _ hv => ?_) ?_
  · show l_X9_placesOf_4 σ (i32 (ky d 12)) (i32 (pl d v)) (i32 v) = _
    unfold l_X9_placesOf_4
    have h2 := h v hv
    rw [show (12 : Int32) = i32 12 from rfl, if_neg (i_nle hv (by omega)), c_degree h hv, e_bs]
    by_cases h3 : d v = 0
    · rw [if_pos (show i32 (d v) ≤ 0 from i_le (b := 0) (by omega) (by omega)), e_bs]
      unfold j_X9_placesOf_31
      rw [i32_1, i32_add]
      show _ = some (Sum.inl (i32 (if d v = 0 then pl d v else 64 * pl d v + (4 * v + d v)), _))
      rw [if_pos h3]
    · have h4 := nzc_mono (d := d) (12 - (v + 1)) (v + 1)
      rw [show v + 1 + (12 - (v + 1)) = 12 by omega, nzc_succ, if_neg h3] at h4
      have h5 := pl_lt (d := d) v (by omega) (fun u hu => h u (by omega))
      have h6 : pl d v < 64 ^ 2 := Nat.lt_of_lt_of_le h5 (Nat.pow_le_pow_right (by omega) (by omega))
      rw [if_neg (show ¬ i32 (d v) ≤ 0 from i_nle (b := 0) (by omega) (by omega)), i32_4, i32_mul, i32_add, i_place (by omega) (by omega), e_bd, e_bs]
      unfold j_X9_placesOf_31
      rw [i32_1, i32_add]
      show _ = some (Sum.inl (i32 (if d v = 0 then pl d v else 64 * pl d v + (4 * v + d v)), _))
      rw [if_neg h3]
  · show l_X9_placesOf_4 σ (i32 (ky d 12)) (i32 (pl d 12)) (i32 12) = _
    unfold l_X9_placesOf_4
    rw [if_pos (by decide)]
/-- three entries of a table -/
def T3 (tab : Nat → Int64) (p : Nat) : Int64 := tab (p % 64) * tab (p / 64 % 64) * tab (p / 4096 % 64)
theorem T3_pl {tab : Nat → Int64} {d : Nat → Nat} {x : Nat → Int} (h0 : tab 0 = oi 1) (hd : ∀ u, u < 12 → d u ≤ 3) (ht : ∀ v, v < 12 → d v ≠ 0 → tab (4 * v + d v) = oi (bn (d v) (x v))) : ∀ v, v ≤ 12 → nzc d v ≤ 3 → T3 tab (pl d v) = oi (fo (· * ·) 1 (fun u => bn (d u) (x u)) v) := by
  intro v
  induction v with
  | zero =>
    intro _ _
    show tab (0 % 64) * tab (0 / 64 % 64) * tab (0 / 4096 % 64) = oi 1
    show tab 0 * tab 0 * tab 0 = oi 1
    rw [h0, oi_mul, oi_mul]
    rfl
  | succ v ih =>
    intro hv hz
    rw [nzc_succ] at hz
    have ih := ih (by omega) (by omega)
    show T3 tab (if d v = 0 then pl d v else 64 * pl d v + (4 * v + d v)) = oi (fo (· * ·) 1 (fun u => bn (d u) (x u)) v * bn (d v) (x v))
    by_cases h3 : d v = 0
    · rw [if_pos h3, ih, h3]
      show oi _ = oi (_ * 1)
      rw [Int.mul_one]
    · rw [if_neg h3, ← oi_mul, ← ih, ← ht v (by omega) h3]
      rw [if_neg h3] at hz
      have h5 := pl_lt (d := d) v (by omega) (fun u hu => hd u (by omega))
      have h6 : pl d v < 64 ^ 2 := Nat.lt_of_lt_of_le h5 (Nat.pow_le_pow_right (by omega) (by omega))
      have hdv := hd v (by omega)
      unfold T3
      rw [show (64 * pl d v + (4 * v + d v)) % 64 = 4 * v + d v by omega, show (64 * pl d v + (4 * v + d v)) / 64 % 64 = pl d v % 64 by omega, show (64 * pl d v + (4 * v + d v)) / 4096 % 64 = pl d v / 64 % 64 by omega, show pl d v / 4096 % 64 = 0 by omega, h0]
      rw [show oi 1 = (1 : Int64) from rfl, Int64.mul_one, Int64.mul_comm _ (tab (4 * v + d v)), Int64.mul_assoc]
end KY

