/-! a product's exponents are sums of binomials -/
section PY
def upf (f : Nat → Nat) (p d : Nat) : Nat → Nat := fun q => if q = p then d else f q
def lst (s m : Nat) (f : Nat → Nat) : List Nat := (List.range' s m).map f
theorem lst_succ {s m : Nat} {f : Nat → Nat} : lst s (m + 1) f = f s :: lst (s + 1) m f := by
  unfold lst
  rw [List.range'_succ, List.map_cons]
theorem lst_len {s m : Nat} {f : Nat → Nat} : (lst s m f).length = m := by
  unfold lst
  rw [List.length_map, List.length_range']
theorem lst_congr {s m : Nat} {f g : Nat → Nat} (h : ∀ q, s ≤ q → q < s + m → f q = g q) : lst s m f = lst s m g := by
  unfold lst
  refine List.map_congr_left (fun q hq => ?_)
  rw [List.mem_range'_1] at hq
  exact h q hq.1 hq.2
theorem lst_getD {s m : Nat} {f : Nat → Nat} {p : Nat} (h : p < m) : (lst s m f).getD p 0 = f (s + p) := by
  unfold lst
  rw [List.getD_eq_getElem?_getD, List.getElem?_map, List.getElem?_range' h, Nat.one_mul]
  rfl
theorem Bn_upd : ∀ (m s : Nat) (f : Nat → Nat) (p d : Nat) (xs : List Int), f p = 0 → s ≤ p → p < s + m → xs.length = m → Bn (lst s m (upf f p d)) xs = bn d (xs.getD (p - s) 0) * Bn (lst s m f) xs := by
  intro m
  induction m with
  | zero => intro s f p d xs _ h1 h2 _; omega
  | succ m ih =>
    intro s f p d xs h0 h1 h2 hl
    cases xs with
    | nil => simp at hl
    | cons x xs =>
      rw [lst_succ, lst_succ]
      show bn (upf f p d s) x * Bn (lst (s + 1) m (upf f p d)) xs = bn d ((x :: xs).getD (p - s) 0) * (bn (f s) x * Bn (lst (s + 1) m f) xs)
      by_cases hp : p = s
      · subst hp
        rw [lst_congr (g := f) (fun q h3 _ => by unfold upf; rw [if_neg (by omega)]), h0, Nat.sub_self]
        unfold upf
        rw [if_pos rfl]
        show bn d x * _ = bn d x * (1 * _)
        rw [Int.one_mul]
      · rw [ih (s + 1) f p d xs h0 (by omega) (by omega) (by simpa using hl)]
        unfold upf
        rw [if_neg (fun z => hp z.symm), show p - s = (p - (s + 1)) + 1 by omega, List.getD_cons_succ]
        simp only [Int.mul_left_comm]
theorem wt_upd : ∀ (m s : Nat) (W f : Nat → Nat) (p d : Nat), f p = 0 → s ≤ p → p < s + m → pwt (lst s m W) (lst s m (upf f p d)) = d * W p + pwt (lst s m W) (lst s m f) := by
  intro m
  induction m with
  | zero => intro s W f p d _ h1 h2; omega
  | succ m ih =>
    intro s W f p d h0 h1 h2
    rw [lst_succ, lst_succ, lst_succ]
    show upf f p d s * W s + pwt (lst (s + 1) m W) (lst (s + 1) m (upf f p d)) = d * W p + (f s * W s + pwt (lst (s + 1) m W) (lst (s + 1) m f))
    by_cases hp : p = s
    · subst hp
      rw [lst_congr (f := upf f p d) (g := f) (fun q h3 _ => by unfold upf; rw [if_neg (by omega)]), h0]
      unfold upf
      rw [if_pos rfl]
      omega
    · rw [ih (s + 1) W f p d h0 (by omega) (by omega)]
      unfold upf
      rw [if_neg (fun z => hp z.symm)]
      omega
theorem Bn_z : ∀ (m s : Nat) (xs : List Int), Bn (lst s m (fun _ => 0)) xs = 1 := by
  intro m
  induction m with
  | zero => intro s xs; cases xs <;> rfl
  | succ m ih =>
    intro s xs
    rw [lst_succ]
    cases xs with
    | nil => rfl
    | cons x xs =>
      show 1 * Bn _ xs = 1
      rw [ih, Int.one_mul]
theorem wt_z : ∀ (m s : Nat) (W : Nat → Nat), pwt (lst s m W) (lst s m (fun _ => 0)) = 0 := by
  intro m
  induction m with
  | zero => intro s W; rfl
  | succ m ih =>
    intro s W
    rw [lst_succ, lst_succ]
    show 0 * W s + pwt (lst (s + 1) m W) (lst (s + 1) m _) = 0
    rw [ih]; omega
variable {G : GD}
def wl (G : GD) : List Nat := lst 0 (2 * gn G) (fun p => gw G (p % gn G))
theorem wl_len : (wl G).length = 2 * gn G := lst_len
theorem wl_pos (hG : GOK G) : ∀ w, w ∈ wl G → 1 ≤ w := by
  intro w hw
  unfold wl lst at hw
  obtain ⟨p, _, rfl⟩ := List.mem_map.mp hw
  exact (hG.2.2.1 _ (Nat.mod_lt _ (by have := hG.1; omega))).1
def good (G : GD) (k : Nat) (e : List Nat) : Prop := e ∈ pts (wl G) (gw G k) ∧ (∀ d, d ∈ e → d ≤ 2) ∧ ∀ p, e.getD p 0 ≠ 0 → p % gn G ≤ k
def SpK (G : GD) (k : Nat) (f : List Int → Int) : Prop := ∃ c : List Nat → Int, (∀ e, c e ≠ 0 → good G k e) ∧ Sp (wl G) (gw G k) c f
theorem SpK.congr {k : Nat} {f g : List Int → Int} (h : SpK G k f) (e : ∀ xs, g xs = f xs) : SpK G k g := by
  obtain ⟨c, h1, h2⟩ := h
  exact ⟨c, h1, fun xs hx => by rw [e]; exact h2 xs hx⟩
theorem SpK.zero {k : Nat} : SpK G k (fun _ => 0) := ⟨fun _ => 0, fun e h => absurd rfl h, fun xs _ => by
  rw [psum_zero (fun e => Int.zero_mul _)]⟩
theorem SpK.add {k : Nat} {f g : List Int → Int} (h : SpK G k f) (h' : SpK G k g) : SpK G k (fun xs => f xs + g xs) := by
  obtain ⟨c, h1, h2⟩ := h
  obtain ⟨c', h1', h2'⟩ := h'
  refine ⟨fun e => c e + c' e, fun e he => ?_, fun xs hx => ?_⟩
  · by_cases h3 : c e = 0
    · refine h1' e (fun z => he ?_)
      show c e + c' e = 0
      rw [h3, z]; rfl
    · exact h1 e h3
  · show f xs + g xs = _
    rw [h2 xs hx, h2' xs hx, psum_add]
    exact psum_congr (fun e _ => by rw [Int.add_mul])
theorem SpK.smul {k : Nat} {f : List Int → Int} (z : Int) (h : SpK G k f) : SpK G k (fun xs => z * f xs) := by
  obtain ⟨c, h1, h2⟩ := h
  refine ⟨fun e => z * c e, fun e he => h1 e (fun q => he (by show z * c e = 0; rw [q, Int.mul_zero])), fun xs hx => ?_⟩
  show z * f xs = _
  rw [h2 xs hx, psum_mul]
  exact psum_congr (fun e _ => by rw [Int.mul_assoc])
theorem SpK.sums {k : Nat} {f : Nat → List Int → Int} : ∀ n, (∀ i, i < n → SpK G k (f i)) → SpK G k (fun xs => sm (fun i => f i xs) n) := by
  intro n
  induction n with
  | zero => intro _; exact SpK.zero
  | succ n ih =>
    intro h
    exact (ih (fun i hi => h i (by omega))).add (h n (Nat.lt_succ_self n))
theorem SpK.base {k : Nat} {q : List Nat} (hG : GOK G) (hq : good G k q) : SpK G k (Bn q) := by
  refine ⟨fun e => if e = q then 1 else 0, fun e he => ?_, fun xs hx => ?_⟩
  · by_cases h : e = q
    · rw [h]; exact hq
    · exact absurd (if_neg h) he
  · have h1 := (pts_mem _ _ _ (wl_pos hG)).mp hq.1
    have h2 := psum_delta (wl G) (gw G k) q (fun e => Bn e xs) (wl_pos hG) h1.1 h1.2
    rw [← h2]
    refine psum_congr (fun e _ => ?_)
    show (if e = q then Bn e xs else 0) = (if e = q then 1 else 0) * Bn e xs
    by_cases h : e = q
    · rw [if_pos h, if_pos h, Int.one_mul]
    · rw [if_neg h, if_neg h, Int.zero_mul]
theorem SpK.good_of {k : Nat} (hG : GOK G) {f : Nat → Nat} (h1 : pwt (wl G) (lst 0 (2 * gn G) f) ≤ gw G k) (h2 : ∀ p, f p ≤ 2) (h3 : ∀ p, p < 2 * gn G → f p ≠ 0 → p % gn G ≤ k) : good G k (lst 0 (2 * gn G) f) := by
  refine ⟨(pts_mem _ _ _ (wl_pos hG)).mpr ⟨by rw [lst_len, wl_len], h1⟩, fun d hd => ?_, fun p hp => ?_⟩
  · unfold lst at hd
    obtain ⟨p, _, rfl⟩ := List.mem_map.mp hd
    exact h2 p
  · by_cases h : p < 2 * gn G
    · rw [lst_getD h, Nat.zero_add] at hp
      exact h3 p h hp
    · exfalso
      apply hp
      rw [List.getD_eq_getElem?_getD, List.getElem?_eq_none (by rw [lst_len]; omega)]
      rfl
theorem SpK.m1 {k : Nat} (hG : GOK G) {p1 d1 : Nat} (hp : p1 < 2 * gn G) (hd : d1 ≤ 2) (hw : d1 * gw G (p1 % gn G) ≤ gw G k) (hk : p1 % gn G ≤ k) : SpK G k (fun xs => bn d1 (xs.getD p1 0)) := by
  have hgood : good G k (lst 0 (2 * gn G) (upf (fun _ => 0) p1 d1)) := by
    refine SpK.good_of hG ?_ (fun p => ?_) (fun p h1 h2 => ?_)
    · unfold wl
      rw [wt_upd _ _ _ _ _ _ rfl (Nat.zero_le _) (by omega), wt_z]
      exact hw
    · unfold upf; dsimp only; split <;> omega
    · unfold upf at h2
      by_cases h3 : p = p1
      · rw [h3]; exact hk
      · rw [if_neg h3] at h2; exact absurd rfl h2
  obtain ⟨c, h1, h2⟩ := SpK.base hG hgood
  refine ⟨c, h1, fun xs hx => ?_⟩
  rw [← h2 xs hx, Bn_upd _ _ _ _ _ _ rfl (Nat.zero_le _) (by omega) (by rw [hx, wl_len]), Bn_z, Int.mul_one]
  rfl
theorem SpK.m2 {k : Nat} (hG : GOK G) {p1 d1 p2 d2 : Nat} (hp : p1 < 2 * gn G) (hp2 : p2 < 2 * gn G) (h12 : p1 ≠ p2) (hd : d1 ≤ 2) (hd2 : d2 ≤ 2) (hw : d1 * gw G (p1 % gn G) + d2 * gw G (p2 % gn G) ≤ gw G k) (hk : p1 % gn G ≤ k) (hk2 : p2 % gn G ≤ k) : SpK G k (fun xs => bn d1 (xs.getD p1 0) * bn d2 (xs.getD p2 0)) := by
  have z1 : upf (fun _ => 0) p2 d2 p1 = 0 := by unfold upf; rw [if_neg h12]
  have hgood : good G k (lst 0 (2 * gn G) (upf (upf (fun _ => 0) p2 d2) p1 d1)) := by
    refine SpK.good_of hG ?_ (fun p => ?_) (fun p h1 h2 => ?_)
    · unfold wl
      rw [wt_upd _ _ _ _ _ _ z1 (Nat.zero_le _) (by omega), wt_upd _ _ _ _ _ _ rfl (Nat.zero_le _) (by omega), wt_z]
      exact hw
    · unfold upf; dsimp only; split
      · omega
      · split <;> omega
    · unfold upf at h2
      by_cases h3 : p = p1
      · rw [h3]; exact hk
      · rw [if_neg h3] at h2
        by_cases h4 : p = p2
        · rw [h4]; exact hk2
        · rw [if_neg h4] at h2; exact absurd rfl h2
  obtain ⟨c, h1, h2⟩ := SpK.base hG hgood
  refine ⟨c, h1, fun xs hx => ?_⟩
  rw [← h2 xs hx, Bn_upd _ _ _ _ _ _ z1 (Nat.zero_le _) (by omega) (by rw [hx, wl_len]), Bn_upd _ _ _ _ _ _ rfl (Nat.zero_le _) (by omega) (by rw [hx, wl_len]), Bn_z, Int.mul_one]
  rfl
theorem SpK.m3 {k : Nat} (hG : GOK G) {p1 d1 p2 d2 p3 d3 : Nat} (hp : p1 < 2 * gn G) (hp2 : p2 < 2 * gn G) (hp3 : p3 < 2 * gn G) (h12 : p1 ≠ p2) (h13 : p1 ≠ p3) (h23 : p2 ≠ p3) (hd : d1 ≤ 2) (hd2 : d2 ≤ 2) (hd3 : d3 ≤ 2) (hw : d1 * gw G (p1 % gn G) + (d2 * gw G (p2 % gn G) + d3 * gw G (p3 % gn G)) ≤ gw G k) (hk : p1 % gn G ≤ k) (hk2 : p2 % gn G ≤ k) (hk3 : p3 % gn G ≤ k) : SpK G k (fun xs => bn d1 (xs.getD p1 0) * (bn d2 (xs.getD p2 0) * bn d3 (xs.getD p3 0))) := by
  have z2 : upf (fun _ => 0) p3 d3 p2 = 0 := by unfold upf; rw [if_neg h23]
  have z1 : upf (upf (fun _ => 0) p3 d3) p2 d2 p1 = 0 := by unfold upf; rw [if_neg h12, if_neg h13]
  have hgood : good G k (lst 0 (2 * gn G) (upf (upf (upf (fun _ => 0) p3 d3) p2 d2) p1 d1)) := by
    refine SpK.good_of hG ?_ (fun p => ?_) (fun p h1 h2 => ?_)
    · unfold wl
      rw [wt_upd _ _ _ _ _ _ z1 (Nat.zero_le _) (by omega), wt_upd _ _ _ _ _ _ z2 (Nat.zero_le _) (by omega), wt_upd _ _ _ _ _ _ rfl (Nat.zero_le _) (by omega), wt_z]
      exact hw
    · unfold upf; dsimp only; split
      · omega
      · split
        · omega
        · split <;> omega
    · unfold upf at h2
      by_cases h3 : p = p1
      · rw [h3]; exact hk
      · rw [if_neg h3] at h2
        by_cases h4 : p = p2
        · rw [h4]; exact hk2
        · rw [if_neg h4] at h2
          by_cases h5 : p = p3
          · rw [h5]; exact hk3
          · rw [if_neg h5] at h2; exact absurd rfl h2
  obtain ⟨c, h1, h2⟩ := SpK.base hG hgood
  refine ⟨c, h1, fun xs hx => ?_⟩
  rw [← h2 xs hx, Bn_upd _ _ _ _ _ _ z1 (Nat.zero_le _) (by omega) (by rw [hx, wl_len]), Bn_upd _ _ _ _ _ _ z2 (Nat.zero_le _) (by omega) (by rw [hx, wl_len]), Bn_upd _ _ _ _ _ _ rfl (Nat.zero_le _) (by omega) (by rw [hx, wl_len]), Bn_z, Int.mul_one]
  rfl
/-- a product's exponent k, of twice as many numbers as generators -/
def Fk (G : GD) (k : Nat) (xs : List Int) : Int := mul G (fun i => xs.getD i 0) (fun i => xs.getD (gn G + i) 0) k
theorem Fk_sp (hG : GOK G) {k : Nat} (hk : k < gn G) : SpK G k (Fk G k) := by
  have hn := hG.1
  have mA : ∀ i, i < gn G → i % gn G = i := fun i hi => Nat.mod_eq_of_lt hi
  have mB : ∀ i, i < gn G → (gn G + i) % gn G = i := fun i hi => by rw [Nat.add_mod_left, mA i hi]
  have hw := hG.2.2.1 k hk
  have b1 : ∀ x, bn 1 x = x := fun x => rfl
  have b2 : ∀ x, bn 2 x = two x := fun x => rfl
  refine SpK.congr (f := fun xs => xs.getD k 0 + xs.getD (gn G + k) 0 + pT G k (fun i => xs.getD i 0) (fun i => xs.getD (gn G + i) 0) + pU G k (fun i => xs.getD i 0) (fun i => xs.getD (gn G + i) 0) + pV G k (fun i => xs.getD i 0) (fun i => xs.getD (gn G + i) 0) + pW G k (fun i => xs.getD i 0) (fun i => xs.getD (gn G + i) 0) + pX G k (fun i => xs.getD i 0) (fun i => xs.getD (gn G + i) 0)) ?_ (fun xs => mul_eq hG hk)
  refine SpK.add (SpK.add (SpK.add (SpK.add (SpK.add (SpK.add ?_ ?_) ?_) ?_) ?_) ?_) ?_
  · exact SpK.m1 hG (p1 := k) (d1 := 1) (by omega) (by omega) (by rw [mA k hk]; omega) (by rw [mA k hk]; omega)
  · exact SpK.m1 hG (p1 := gn G + k) (d1 := 1) (by omega) (by omega) (by rw [mB k hk]; omega) (by rw [mB k hk]; omega)
  · refine SpK.sums _ (fun i hi => SpK.sums _ (fun j hj => ?_))
    by_cases h : tI G j i k = 0
    · exact SpK.zero.congr (fun xs => by rw [h, Int.zero_mul, Int.zero_mul])
    · have h1 := tI_ne hG h
      refine ((SpK.m2 hG (p1 := j) (d1 := 1) (p2 := gn G + i) (d2 := 1) (by omega) (by omega) (by omega) (by omega) (by omega) (by rw [mA j hj, mB i hi]; omega) (by rw [mA j hj]; omega) (by rw [mB i hi]; omega)).smul (tI G j i k)).congr (fun xs => ?_)
      rw [b1, b1, Int.mul_assoc]
  · refine SpK.sums _ (fun i hi => SpK.sums _ (fun j hj => ?_))
    by_cases h : DD G k j i i = 0
    · exact SpK.zero.congr (fun xs => by rw [h, Int.zero_mul, Int.zero_mul])
    · have h1 : i < j ∧ gw G i = 1 ∧ gw G j = 1 ∧ gw G i = 1 ∧ gw G k = 3 ∧ j < gn G := Classical.byContradiction (fun z => h (DD_0 hG z))
      have h2 : ¬ (k ≤ i ∨ k ≤ j ∨ k ≤ i) := fun z => h (DD_low hG z)
      refine ((SpK.m2 hG (p1 := j) (d1 := 1) (p2 := gn G + i) (d2 := 2) (by omega) (by omega) (by omega) (by omega) (by omega) (by rw [mA j hj, mB i hi]; omega) (by rw [mA j hj]; omega) (by rw [mB i hi]; omega)).smul (DD G k j i i)).congr (fun xs => ?_)
      rw [b1, b2, Int.mul_assoc]
  · refine SpK.sums _ (fun i hi => SpK.sums _ (fun j hj => ?_))
    by_cases h : DD G k j i j = 0
    · exact SpK.zero.congr (fun xs => by rw [h, Int.zero_mul, Int.zero_mul])
    · have h1 : i < j ∧ gw G i = 1 ∧ gw G j = 1 ∧ gw G j = 1 ∧ gw G k = 3 ∧ j < gn G := Classical.byContradiction (fun z => h (DD_0 hG z))
      have h2 : ¬ (k ≤ i ∨ k ≤ j ∨ k ≤ j) := fun z => h (DD_low hG z)
      refine ((SpK.m2 hG (p1 := gn G + i) (d1 := 1) (p2 := j) (d2 := 2) (by omega) (by omega) (by omega) (by omega) (by omega) (by rw [mA j hj, mB i hi]; omega) (by rw [mB i hi]; omega) (by rw [mA j hj]; omega)).smul (DD G k j i j)).congr (fun xs => ?_)
      rw [b1, b2, Int.mul_assoc]
  · refine SpK.sums _ (fun i hi => SpK.sums _ (fun j hj => SpK.sums _ (fun q hq => ?_)))
    by_cases hjq : j < q
    · by_cases h : DD G k j i q = 0
      · exact SpK.zero.congr (fun xs => by rw [if_pos hjq, h, Int.zero_mul, Int.zero_mul, Int.zero_mul])
      · have h1 : i < j ∧ gw G i = 1 ∧ gw G j = 1 ∧ gw G q = 1 ∧ gw G k = 3 ∧ j < gn G := Classical.byContradiction (fun z => h (DD_0 hG z))
        have h2 : ¬ (k ≤ i ∨ k ≤ j ∨ k ≤ q) := fun z => h (DD_low hG z)
        refine ((SpK.m3 hG (p1 := j) (d1 := 1) (p2 := q) (d2 := 1) (p3 := gn G + i) (d3 := 1) (by omega) (by omega) (by omega) (by omega) (by omega) (by omega) (by omega) (by omega) (by omega) (by rw [mA j hj, mA q hq, mB i hi]; omega) (by rw [mA j hj]; omega) (by rw [mA q hq]; omega) (by rw [mB i hi]; omega)).smul (DD G k j i q)).congr (fun xs => ?_)
        rw [if_pos hjq, b1, b1, b1, Int.mul_assoc, Int.mul_assoc]
    · exact SpK.zero.congr (fun xs => if_neg hjq)
  · refine SpK.sums _ (fun i hi => SpK.sums _ (fun p hp => ?_))
    by_cases hpi : p < i
    · refine SpK.congr (f := fun xs => sm (fun j => DD G k j p i * xs.getD j 0 * xs.getD (gn G + p) 0 * xs.getD (gn G + i) 0) (gn G)) (SpK.sums _ (fun j hj => ?_)) (fun xs => if_pos hpi)
      by_cases h : DD G k j p i = 0
      · exact SpK.zero.congr (fun xs => by rw [h, Int.zero_mul, Int.zero_mul, Int.zero_mul])
      · have h1 : p < j ∧ gw G p = 1 ∧ gw G j = 1 ∧ gw G i = 1 ∧ gw G k = 3 ∧ j < gn G := Classical.byContradiction (fun z => h (DD_0 hG z))
        have h2 : ¬ (k ≤ p ∨ k ≤ j ∨ k ≤ i) := fun z => h (DD_low hG z)
        refine ((SpK.m3 hG (p1 := j) (d1 := 1) (p2 := gn G + p) (d2 := 1) (p3 := gn G + i) (d3 := 1) (by omega) (by omega) (by omega) (by omega) (by omega) (by omega) (by omega) (by omega) (by omega) (by rw [mA j hj, mB p hp, mB i hi]; omega) (by rw [mA j hj]; omega) (by rw [mB p hp]; omega) (by rw [mB i hi]; omega)).smul (DD G k j p i)).congr (fun xs => ?_)
        rw [b1, b1, b1, Int.mul_assoc, Int.mul_assoc]
    · exact SpK.zero.congr (fun xs => if_neg hpi)
/-- the numbers of the polynomial of k -/
noncomputable def cf (G : GD) (k : Nat) : List Nat → Int := @dite (List Nat → Int) (SpK G k (Fk G k)) (Classical.propDecidable _) (fun h => h.choose) (fun _ _ => 0)
theorem cf_ok (hG : GOK G) {k : Nat} (hk : k < gn G) : (∀ e, cf G k e ≠ 0 → good G k e) ∧ Sp (wl G) (gw G k) (cf G k) (Fk G k) := by
  have h := Fk_sp hG hk
  unfold cf
  rw [dif_pos h]
  exact h.choose_spec
end PY

