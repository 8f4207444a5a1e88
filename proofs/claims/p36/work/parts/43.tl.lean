/-! a letter's power behind an element: the closed form in whole numbers -/
def oi (x : Int) : Int64 := Int64.ofInt x
theorem oi_add {a b : Int} : oi a + oi b = oi (a + b) := (Int64.ofInt_add a b).symm
theorem oi_sub {a b : Int} : oi a - oi b = oi (a - b) := (Int64.ofInt_sub a b).symm
theorem oi_mul {a b : Int} : oi a * oi b = oi (a * b) := (Int64.ofInt_mul a b).symm
theorem oi_neg {a : Int} : -oi a = oi (-a) := (Int64.ofInt_neg a).symm
theorem oi_nat {a : Nat} : Int64.ofNat a = oi (a : Int) := rfl
theorem oi_toInt {x : Int} (h1 : -2 ^ 63 ≤ x) (h2 : x < 2 ^ 63) : (oi x).toInt = x := Int64.toInt_ofInt_of_le h1 h2
def two (x : Int) : Int := x * (x - 1) / 2
theorem two_ok {x : Int} (h1 : -2 ^ 31 ≤ x) (h2 : x ≤ 2 ^ 31) : oi x * (oi x - 1) / 2 = oi (two x) := by
  have e1 : (1 : Int64) = oi 1 := rfl
  have e2 : (2 : Int64) = oi 2 := rfl
  rw [e1, e2, oi_sub, oi_mul]
  have hp : 0 ≤ x * (x - 1) := by
    by_cases h : 1 ≤ x
    · exact Int.mul_nonneg (by omega) (by omega)
    · have := Int.mul_nonneg (show 0 ≤ -x by omega) (show 0 ≤ -(x - 1) by omega)
      rwa [Int.neg_mul_neg] at this
  have hb : x * (x - 1) ≤ 2 ^ 62 + 2 ^ 31 := by
    by_cases h : 1 ≤ x
    · have := Int.mul_le_mul (a := x) (b := x - 1) (c := 2 ^ 31) (d := 2 ^ 31) h2 (by omega) (by omega) (by omega)
      omega
    · have h3 := Int.mul_le_mul (a := -x) (b := -(x - 1)) (c := 2 ^ 31) (d := 2 ^ 31 + 1) (by omega) (by omega) (by omega) (by omega)
      rw [Int.neg_mul_neg] at h3
      omega
  unfold two
  rw [← Int64.toInt_inj, Int64.toInt_div, oi_toInt (by omega) (by omega), oi_toInt (by omega) (by omega), oi_toInt (by omega) (by omega), Int.tdiv_eq_ediv_of_nonneg hp]
  apply Int.bmod_eq_of_le <;> omega
/-- sums -/
def sm (f : Nat → Int) : Nat → Int
  | 0 => 0
  | n + 1 => sm f n + f n
theorem sm_congr {f g : Nat → Int} {n : Nat} (h : ∀ k, k < n → f k = g k) : sm f n = sm g n := by
  induction n with
  | zero => rfl
  | succ n ih => simp only [sm]; rw [ih (fun k hk => h k (by omega)), h n (Nat.lt_succ_self n)]
abbrev tI (G : GD) (j i k : Nat) : Int := (gt G j i k : Int)
/-- what is behind two letters: by k, at m -/
def behind (G : GD) (a : Nat → Int) (j i : Nat) (y : Int) (k m : Nat) : Int :=
  tI G k i m * a j * two y + tI G k j m * y * two (a j) + sm (fun q => if j < q ∧ gw G q = 1 then a j * y * tI G k q m * a q else 0) (gn G)
def passOne (G : GD) (a : Nat → Int) (j i : Nat) (y : Int) (m : Nat) : Int :=
  tI G j i m * a j * y + sm (fun k => tI G j i k * behind G a j i y k m) (gn G)
def TL (G : GD) (a : Nat → Int) (i : Nat) (y : Int) (m : Nat) : Int :=
  a m + (if m = i then y else 0) + (if gw G i = 1 then
    sm (fun j => if i < j ∧ gw G j = 2 then tI G j i m * (a j * y) else if i < j ∧ gw G j = 1 then passOne G a j i y m else 0) (gn G) else 0)
def mulU (G : GD) (a b : Nat → Int) : Nat → (Nat → Int)
  | 0 => a
  | n + 1 => TL G (mulU G a b n) n (b n)
def mul (G : GD) (a b : Nat → Int) : Nat → Int := mulU G a b (gn G)
def rowL (σ : Mem) (a : Nat) (f : Nat → Int64) : Mem := (σ.1, fun x y => if x = a then f y else σ.2 x y)
theorem rowL_self {σ : Mem} {a : Nat} {f : Nat → Int64} {y : Nat} : (rowL σ a f).2 a y = f y := if_pos rfl
theorem rowL_ne {σ : Mem} {a b : Nat} {f : Nat → Int64} (h : b ≠ a) : (rowL σ a f).2 b = σ.2 b := funext (fun _ => if_neg h)
theorem rowL_id {σ : Mem} {a : Nat} : rowL σ a (σ.2 a) = σ := by
  refine Prod.ext rfl ?_
  funext x y
  show (if x = a then _ else _) = _
  split
  · rename_i h; rw [h]
  · rfl
theorem wL_rowL {σ : Mem} {a k : Nat} {f : Nat → Int64} {v : Int64} : wL (rowL σ a f) a k v = rowL σ a (upv f k v) := by
  refine Prod.ext rfl ?_
  funext x y
  show (if _ then _ else if _ then _ else _) = if _ then upv f k v y else _
  unfold upv
  by_cases h : x = a
  · rw [if_pos h, if_pos h]
    by_cases h2 : y = k
    · rw [if_pos ⟨h, h2⟩, if_pos h2]
    · rw [if_neg (fun q => h2 q.2), if_neg h2]
  · rw [if_neg (fun q => h q.1), if_neg h, if_neg h]
/-- what comes later to the letters, beside the elements -/
def mrow (σ : Mem) (M : Nat → Int) : Nat → Int64 := fun y => if y < 6 then oi (M y) else σ.2 314 y
def moreM (σ : Mem) (M : Nat → Int) : Mem := rowL σ 314 (mrow σ M)
def up (M : Nat → Int) (m : Nat) (x : Int) : Nat → Int := fun k => if k = m then M k + x else M k
theorem upv_mrow {σ : Mem} {M : Nat → Int} {m : Nat} {x : Int} (h : m < 6) : upv (mrow σ M) m (oi (M m + x)) = mrow σ (up M m x) := by
  funext y
  unfold upv mrow up
  by_cases h1 : y = m
  · subst h1; rw [if_pos rfl, if_pos h, if_pos rfl]
  · rw [if_neg h1]
    by_cases h2 : y < 6
    · rw [if_pos h2, if_pos h2, if_neg h1]
    · rw [if_neg h2, if_neg h2]
theorem e_getM {σ : Mem} {M : Nat → Int} {m : Nat} {α : Type} {f : Int64 → Option α} (h : m < 6) : gL (moreM σ M) 314 (i32 m) f = f (oi (M m)) := by
  rw [e_gL ln_314 h (by omega)]
  show f ((rowL σ 314 _).2 314 m) = _
  rw [rowL_self]
  unfold mrow
  rw [if_pos h]
theorem e_putM {σ : Mem} {M : Nat → Int} {m : Nat} {x : Int} {v : Int64} {α : Type} {f : Mem → Option α} (h : m < 6) (hv : v = oi (M m + x)) : pL (moreM σ M) 314 (i32 m) v f = f (moreM σ (up M m x)) := by
  rw [e_pL ln_314 h (by omega)]
  unfold moreM
  rw [wL_rowL, hv, upv_mrow h]
theorem moreM_vec {σ : Mem} {M : Nat → Int} {s : Nat} : vec (moreM σ M) s = vec σ s := by
  unfold vec moreM
  rw [rowL_ne (by omega)]
theorem moreM_MG {σ : Mem} {M : Nat → Int} {G : GD} (h : MG σ G) : MG (moreM σ M) G := h
theorem tl64 {G : GD} (hG : GOK G) {j i k : Nat} : (i32 (gt G j i k)).toInt64 = oi (tI G j i k) := by
  rw [i32_64 (by have := hG.2.2.2.2.2.1 j i k; omega)]; rfl
theorem sm_tail {f : Nat → Int} {e n : Nat} (h : e ≤ n) (hz : ∀ k, e ≤ k → k < n → f k = 0) : sm f n = sm f e := by
  induction n with
  | zero => rw [show e = 0 by omega]
  | succ n ih =>
    by_cases h1 : e = n + 1
    · rw [h1]
    · simp only [sm]
      rw [ih (by omega) (fun k h2 h3 => hz k h2 (by omega)), hz n (by omega) (Nat.lt_succ_self n), Int.add_zero]
theorem sm_zero {f : Nat → Int} {n : Nat} (hz : ∀ k, k < n → f k = 0) : sm f n = 0 := sm_tail (e := 0) (Nat.zero_le n) (fun k _ h => hz k h)
theorem up_up {M : Nat → Int} {m : Nat} {x y : Int} : up (up M m x) m y = up M m (x + y) := by
  funext k
  unfold up
  by_cases h : k = m
  · rw [if_pos h, if_pos h, if_pos h, Int.add_assoc]
  · rw [if_neg h, if_neg h, if_neg h]
theorem up_0 {M : Nat → Int} {m : Nat} : up M m 0 = M := by
  funext k
  unfold up
  split
  · rw [Int.add_zero]
  · rfl
/-- where the letters of a weight end -/
theorem ones_end {G : GD} (hG : GOK G) (c : Nat) (a : Nat) (ha : a ≤ gn G) (hlow : ∀ q, a ≤ q → q < gn G → c ≤ gw G q) : ∃ e, a ≤ e ∧ e ≤ gn G ∧ (∀ q, a ≤ q → q < e → gw G q = c) ∧ (∀ q, e ≤ q → q < gn G → gw G q ≠ c) := by
  have key : ∀ d a, d = gn G - a → a ≤ gn G → (∀ q, a ≤ q → q < gn G → c ≤ gw G q) → ∃ e, a ≤ e ∧ e ≤ gn G ∧ (∀ q, a ≤ q → q < e → gw G q = c) ∧ (∀ q, e ≤ q → q < gn G → gw G q ≠ c) := by
    intro d
    induction d with
    | zero => intro a h1 h2 h3; exact ⟨a, Nat.le_refl a, h2, fun q h4 h5 => by omega, fun q h4 h5 => by omega⟩
    | succ d ih =>
      intro a h1 h2 h3
      by_cases hw : gw G a = c
      · obtain ⟨e, e1, e2, e3, e4⟩ := ih (a + 1) (by omega) (by omega) (fun q h4 h5 => h3 q (by omega) h5)
        refine ⟨e, by omega, e2, fun q h4 h5 => ?_, e4⟩
        by_cases h6 : q = a
        · rw [h6]; exact hw
        · exact e3 q (by omega) h5
      · refine ⟨a, Nat.le_refl a, h2, fun q h4 h5 => by omega, fun q h4 h5 h6 => ?_⟩
        have h7 := h3 a (Nat.le_refl a) (by omega)
        have h8 := hG.2.2.2.1 a q h4 h5
        omega
  exact key _ a rfl ha hlow
/-- the letters of weight one behind j -/
theorem e_pOne157 {σ : Mem} {G : GD} (h : MG σ G) (hG : GOK G) {a : Nat → Int} {s j k m : Nat} {y : Int} {t : Nat} {M : Nat → Int} (hs : s < 100) (hv : ∀ i, i < 6 → vec σ s i = oi (a i)) (hj : j < gn G) (hj1 : gw G j = 1) (hk : k < 6) (hm : m < 6) (ht : t ≤ 3) :
    loopO (fun (z24 : Mem × Int32) => l_X11_passesOne_157 (i32 s) (oi y) (oi (a j)) (i32 k) (i32 t) (i32 m) z24.1 z24.2) (moreM σ M, i32 (j + 1)) = some (moreM σ (up M m (sm (fun q => if j < q ∧ gw G q = 1 then (t : Int) * a j * y * tI G k q m * a q else 0) (gn G)))) := by
  have hn := hG.2.1
  obtain ⟨e, e1, e2, e3, e4⟩ := ones_end hG 1 (j + 1) (by omega) (fun q _ h2 => (hG.2.2.1 q h2).1)
  generalize hf : (fun q => if j < q ∧ gw G q = 1 then (t : Int) * a j * y * tI G k q m * a q else 0) = f
  have hfq : ∀ q, f q = if j < q ∧ gw G q = 1 then (t : Int) * a j * y * tI G k q m * a q else 0 := fun q => by rw [← hf]
  refine loop_at (fun k => (moreM σ (up M m (sm f k)), i32 k)) (j + 1) e ?_ e1 (fun q h1 h2 => ?_) ?_
  · rw [sm_zero (fun q hq => by rw [hfq, if_neg (by omega)]), up_0]
  · show l_X11_passesOne_157 _ _ _ _ _ _ _ _ = _
    unfold l_X11_passesOne_157
    rw [e_n (moreM_MG h), e_bs, if_neg (i_nle (by omega) (by omega)), e_weight (moreM_MG h) (by omega), e_bs, e3 q h1 h2, if_pos i32_1.symm, e_getM hm, e_tail (moreM_MG h) hk (by omega) hm, e_bs, e_of hs (by omega), e_bs, moreM_vec, hv q (by omega), tl64 hG]
    rw [e_putM (x := f q) hm ?_]
    · rw [i32_1, i32_add, up_up]; rfl
    · have ht64 : (i32 t).toInt64 = oi (t : Int) := by rw [i32_64 (by omega)]; rfl
      rw [ht64, oi_mul, oi_mul, oi_mul, oi_mul, oi_add, hfq, if_pos ⟨by omega, e3 q h1 h2⟩]
  · show l_X11_passesOne_157 _ _ _ _ _ _ _ _ = _
    unfold l_X11_passesOne_157
    rw [sm_tail e2 (fun q h1 h2 => by rw [hfq, if_neg (fun h3 => e4 q h1 h2 h3.2)])]
    rw [e_n (moreM_MG h), e_bs]
    by_cases he : e = gn G
    · rw [if_pos (i_le (by omega) (by omega))]
    · rw [if_neg (i_nle (by omega) (by omega)), e_weight (moreM_MG h) (by omega), e_bs, if_neg (i_ne1 (e4 e (Nat.le_refl e) (by omega)) (by have := (hG.2.2.1 e (by omega)).2; omega))]
def two64ok (x : Int) : Prop := -2 ^ 31 ≤ x ∧ x ≤ 2 ^ 31
theorem sm_mul {c : Int} {f : Nat → Int} {n : Nat} : c * sm f n = sm (fun k => c * f k) n := by
  induction n with
  | zero => exact Int.mul_zero c
  | succ n ih => simp only [sm]; rw [Int.mul_add, ih]
theorem sm_add {f g : Nat → Int} {n : Nat} : sm f n + sm g n = sm (fun k => f k + g k) n := by
  induction n with
  | zero => rfl
  | succ n ih => simp only [sm]; rw [← ih]; omega
/-- at k, behind two letters: all m -/
theorem e_pOne83 {σ : Mem} {G : GD} (h : MG σ G) (hG : GOK G) {a : Nat → Int} {s j i k : Nat} {y : Int} {M : Nat → Int} (hs : s < 100) (hv : ∀ i, i < 6 → vec σ s i = oi (a i)) (hj : j < gn G) (hj1 : gw G j = 1) (hi : i < 6) (hk : k < gn G) (hy : two64ok y) (ha : two64ok (a j)) :
    loopO (fun (z13 : Mem × Int32) => l_X11_passesOne_83 (i32 s) (i32 j) (i32 i) (oi y) (oi (a j)) (i32 k) (i32 (gt G j i k)) z13.1 z13.2) (moreM σ M, i32 (k + 1)) = some (moreM σ (fun m => if k < m ∧ m < gn G then M m + tI G j i k * behind G a j i y k m else M m)) := by
  have hn := hG.2.1
  have ht := hG.2.2.2.2.2.1 j i k
  refine loop_at (fun q => (moreM σ (fun m => if k < m ∧ m < q then M m + tI G j i k * behind G a j i y k m else M m), i32 q)) (k + 1) (gn G) ?_ (by omega) (fun m h1 h2 => ?_) ?_
  · congr 2
    funext m
    rw [if_neg (by omega)]
  · show l_X11_passesOne_83 _ _ _ _ _ _ _ _ _ = _
    unfold l_X11_passesOne_83
    rw [e_n (moreM_MG h), e_bs, if_neg (i_nle h2 (by omega)), e_getM (by omega), e_tail (moreM_MG h) (by omega) hi (by omega), e_bs, e_two, e_bs, e_tail (moreM_MG h) (by omega) (by omega) (by omega), e_bs, e_two, e_bs]
    rw [two_ok hy.1 hy.2, two_ok ha.1 ha.2, tl64 hG, tl64 hG, tl64 hG]
    rw [e_putM (x := tI G j i k * (tI G k i m * a j * two y + tI G k j m * y * two (a j))) (by omega) (by simp only [oi_mul, oi_add])]
    rw [e_bd, i32_1, i32_add, e_pOne157 h hG hs hv hj hj1 (by omega) (by omega) ht, e_bs]
    unfold j_X11_passesOne_226
    rw [i32_1, i32_add]
    congr 4
    funext q
    rw [up_up]
    unfold up behind
    dsimp only
    by_cases hq : q = m
    · subst hq
      rw [if_pos rfl, if_neg (by omega), if_pos ⟨by omega, by omega⟩]
      have e1 : sm (fun q_1 => if j < q_1 ∧ gw G q_1 = 1 then (↑(gt G j i k) : Int) * a j * y * tI G k q_1 q * a q_1 else 0) (gn G) = tI G j i k * sm (fun q_1 => if j < q_1 ∧ gw G q_1 = 1 then a j * y * tI G k q_1 q * a q_1 else 0) (gn G) := by
        rw [sm_mul]
        refine sm_congr (fun z _ => ?_)
        by_cases hz : j < z ∧ gw G z = 1
        · rw [if_pos hz, if_pos hz]; simp only [Int.mul_assoc]
        · rw [if_neg hz, if_neg hz, Int.mul_zero]
      rw [e1, ← Int.mul_add]
    · rw [if_neg hq]
      by_cases h5 : k < q ∧ q < m
      · rw [if_pos h5, if_pos ⟨h5.1, by omega⟩]
      · rw [if_neg h5, if_neg (by omega)]
  · show l_X11_passesOne_83 _ _ _ _ _ _ _ _ _ = _
    unfold l_X11_passesOne_83
    rw [e_n (moreM_MG h), e_bs, if_pos (i_le (Nat.le_refl _) (by omega))]
theorem behind_0 {G : GD} (hG : GOK G) {a : Nat → Int} {j i k m : Nat} {y : Int} (h : m ≤ k ∨ gn G ≤ m ∨ 2 < gw G k) : tI G j i k * behind G a j i y k m = 0 := by
  have hz : ∀ q, gt G k q m = 0 ∨ gt G j i k = 0 := by
    intro q
    by_cases h1 : gt G k q m = 0
    · exact Or.inl h1
    · refine Or.inr ?_
      have h2 := hG.2.2.2.2.2.2 k q m h1
      rcases h with h | h | h
      · omega
      · omega
      · have h3 := (hG.2.2.1 q (by omega)).1
        have h4 := (hG.2.2.1 m (by omega)).2
        omega
  by_cases ht : gt G j i k = 0
  · unfold tI; rw [ht]; exact Int.zero_mul _
  · have hz2 : ∀ q, tI G k q m = 0 := fun q => by
      unfold tI
      rcases hz q with h1 | h1
      · rw [h1]; rfl
      · exact absurd h1 ht
    unfold behind
    rw [hz2, hz2, sm_zero (fun q _ => by rw [hz2]; split <;> simp)]
    simp
theorem e_passesOne {σ : Mem} {G : GD} (h : MG σ G) (hG : GOK G) {a : Nat → Int} {s j i : Nat} {y : Int} {M : Nat → Int} (hs : s < 100) (hv : ∀ i, i < 6 → vec σ s i = oi (a i)) (hj : j < gn G) (hj1 : gw G j = 1) (hi : i < 6) (hy : two64ok y) (ha : two64ok (a j)) :
    f_X11_passesOne (moreM σ M) (i32 s) (i32 j) (i32 i) (oi y) = some (moreM σ (fun m => M m + passOne G a j i y m)) := by
  have hn := hG.2.1
  unfold f_X11_passesOne
  rw [e_of hs (by omega), e_bs, moreM_vec, hv j (by omega), e_bd, i32_1, i32_add]
  -- what is there ahead of k
  generalize hS : (fun (k m : Nat) => M m + ((if m < k ∧ j < m then tI G j i m * a j * y else 0) + sm (fun k => tI G j i k * behind G a j i y k m) k)) = F
  have hF : ∀ k m, F k m = M m + ((if m < k ∧ j < m then tI G j i m * a j * y else 0) + sm (fun k => tI G j i k * behind G a j i y k m) k) := fun k m => by rw [← hS]
  have ht0 : ∀ k, k ≤ j → tI G j i k = 0 := fun k hk => by
    unfold tI
    by_cases h1 : gt G j i k = 0
    · rw [h1]; rfl
    · have := hG.2.2.2.2.2.2 j i k h1; omega
  have htn : ∀ k, gn G ≤ k → tI G j i k = 0 := fun k hk => by
    unfold tI
    by_cases h1 : gt G j i k = 0
    · rw [h1]; rfl
    · have := hG.2.2.2.2.2.2 j i k h1; omega
  refine loop_at (fun k => (moreM σ (F k), i32 k)) (j + 1) (gn G) ?_ (by omega) (fun k h1 h2 => ?_) ?_
  · congr 2
    funext m
    rw [hF, if_neg (by omega), sm_zero (fun k hk => by rw [ht0 k (by omega)]; exact Int.zero_mul _)]
    omega
  · show l_X11_passesOne_13 _ _ _ _ _ _ _ = _
    unfold l_X11_passesOne_13
    rw [e_n (moreM_MG h), e_bs, if_neg (i_nle h2 (by omega)), e_tail (moreM_MG h) (by omega) hi (by omega), e_bs]
    have ht := hG.2.2.2.2.2.1 j i k
    have fin : ∀ m, F (k + 1) m = up (F k) k (tI G j i k * a j * y) m + tI G j i k * behind G a j i y k m := by
      intro m
      unfold up
      rw [hF, hF]
      simp only [sm]
      by_cases hm : m = k
      · subst hm
        rw [if_pos rfl, if_pos ⟨by omega, by omega⟩, if_neg (by omega)]
        omega
      · rw [if_neg hm]
        by_cases h3 : m < k ∧ j < m
        · rw [if_pos h3, if_pos ⟨by omega, h3.2⟩]; omega
        · rw [if_neg h3, if_neg (by omega)]; omega
    by_cases h0 : gt G j i k = 0
    · rw [h0, if_pos i32_0.symm, e_bs]
      unfold j_X11_passesOne_232
      rw [i32_1, i32_add]
      have hz : tI G j i k = 0 := by unfold tI; rw [h0]; rfl
      have e9 : F (k + 1) = F k := funext (fun m => by rw [fin, hz, Int.zero_mul, Int.zero_mul, Int.zero_mul, up_0, Int.add_zero])
      rw [e9]
    · rw [if_neg (i_ne0 h0 (by omega)), e_getM (by omega), tl64 hG, oi_mul, oi_mul, oi_add, e_putM (by omega) rfl, e_weight (moreM_MG h) (by omega), e_bs]
      by_cases hw : gw G k ≤ 2
      · rw [if_pos (show i32 (gw G k) ≤ 2 from i_le (b := 2) hw (by decide)), e_bd, i32_1, i32_add, e_pOne83 h hG hs hv hj hj1 hi h2 hy ha, e_bs]
        unfold j_X11_passesOne_232
        rw [i32_1, i32_add]
        congr 4
        funext m
        rw [fin]
        by_cases h3 : k < m ∧ m < gn G
        · rw [if_pos h3]
        · rw [if_neg h3, behind_0 hG (by omega), Int.add_zero]
      · rw [if_neg (show ¬ i32 (gw G k) ≤ 2 from i_nle (b := 2) (by omega) (by have := (hG.2.2.1 k h2).2; omega)), e_bs]
        unfold j_X11_passesOne_232
        rw [i32_1, i32_add]
        congr 4
        funext m
        rw [fin, behind_0 hG (by omega), Int.add_zero]
  · show l_X11_passesOne_13 _ _ _ _ _ _ _ = _
    unfold l_X11_passesOne_13
    have e9 : F (gn G) = fun m => M m + passOne G a j i y m := by
      funext m
      rw [hF]
      unfold passOne
      by_cases h3 : m < gn G ∧ j < m
      · rw [if_pos h3]
      · rw [if_neg h3]
        have hz : tI G j i m = 0 := by
          by_cases h4 : m ≤ j
          · exact ht0 m h4
          · exact htn m (by omega)
        rw [hz, Int.zero_mul, Int.zero_mul]
    rw [e_n (moreM_MG h), e_bs, if_pos (i_le (Nat.le_refl _) (by omega)), ← e9]
