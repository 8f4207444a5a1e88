/-! the reference's rows: places of six longs in its row 313 -/
def vec (σ : Mem) (s : Nat) : Nat → Int64 := fun i => σ.2 313 (6 * s + i)
/-- a place's six longs -/
def setV (σ : Mem) (s : Nat) (v : Nat → Int64) : Mem := (σ.1, fun x y => if x = 313 ∧ 6 * s ≤ y ∧ y < 6 * s + 6 then v (y - 6 * s) else σ.2 x y)
theorem setV_1 {σ : Mem} {s : Nat} {v : Nat → Int64} : (setV σ s v).1 = σ.1 := rfl
theorem setV_2 {σ : Mem} {s : Nat} {v : Nat → Int64} {x y : Nat} (h : x ≠ 313) : (setV σ s v).2 x y = σ.2 x y := if_neg (fun q => h q.1)
theorem setV_self {σ : Mem} {s i : Nat} {v : Nat → Int64} (h : i < 6) : vec (setV σ s v) s i = v i := by
  show (if 313 = 313 ∧ 6 * s ≤ 6 * s + i ∧ 6 * s + i < 6 * s + 6 then v (6 * s + i - 6 * s) else _) = v i
  rw [if_pos ⟨rfl, by omega, by omega⟩]; congr 1; omega
theorem setV_ne {σ : Mem} {s r i : Nat} {v : Nat → Int64} (h : i < 6) (hr : r ≠ s) : vec (setV σ s v) r i = vec σ r i := by
  show (if 313 = 313 ∧ 6 * s ≤ 6 * r + i ∧ 6 * r + i < 6 * s + 6 then _ else _) = _
  rw [if_neg (by omega)]; rfl
theorem setV_congr {σ : Mem} {s : Nat} {v u : Nat → Int64} (h : ∀ i, i < 6 → v i = u i) : setV σ s v = setV σ s u := by
  unfold setV
  refine Prod.ext rfl ?_
  funext x y
  show (if _ then _ else _) = (if _ then _ else _)
  split
  · exact h _ (by omega)
  · rfl
theorem setV_id {σ : Mem} {s : Nat} : setV σ s (vec σ s) = σ := by
  unfold setV vec
  refine Prod.ext rfl ?_
  funext x y
  show (if _ then _ else _) = _
  split
  · rename_i h; rw [h.1, show 6 * s + (y - 6 * s) = y by omega]
  · rfl
theorem setV_setV {σ : Mem} {s : Nat} {v u : Nat → Int64} : setV (setV σ s v) s u = setV σ s u := by
  unfold setV
  refine Prod.ext rfl ?_
  funext x y
  show (if _ then _ else if _ then _ else _) = (if _ then _ else _)
  split <;> rfl
def upv (v : Nat → Int64) (i : Nat) (x : Int64) : Nat → Int64 := fun k => if k = i then x else v k
theorem wL_setV {σ : Mem} {s i : Nat} {v : Nat → Int64} {x : Int64} (h : i < 6) : wL (setV σ s v) 313 (6 * s + i) x = setV σ s (upv v i x) := by
  unfold setV wL upv
  refine Prod.ext rfl ?_
  funext a y
  show (if _ then _ else if _ then _ else _) = (if _ then (if _ then _ else _) else _)
  by_cases h1 : a = 313 ∧ y = 6 * s + i
  · rw [if_pos h1, if_pos ⟨h1.1, by omega, by omega⟩, if_pos (by omega)]
  · rw [if_neg h1]
    by_cases h2 : a = 313 ∧ 6 * s ≤ y ∧ y < 6 * s + 6
    · rw [if_pos h2, if_pos h2, if_neg (by omega)]
    · rw [if_neg h2, if_neg h2]
theorem wL_vec {σ : Mem} {s i : Nat} {x : Int64} (h : i < 6) : wL σ 313 (6 * s + i) x = setV σ s (upv (vec σ s) i x) := by
  have := wL_setV (σ := σ) (s := s) (v := vec σ s) (x := x) h
  rwa [setV_id] at this
theorem e_of {σ : Mem} {s i : Nat} (hs : s < 100) (hi : i < 6) : f_X11_of σ (i32 s) (i32 i) = some (vec σ s i) := by
  unfold f_X11_of
  rw [i32_6, i32_mul, i32_add, e_gL ln_313 (by omega) (by omega)]; rfl
theorem e_puts {σ : Mem} {s i : Nat} {x : Int64} (hs : s < 100) (hi : i < 6) : f_X11_puts σ (i32 s) (i32 i) x = some (setV σ s (upv (vec σ s) i x)) := by
  unfold f_X11_puts
  rw [i32_6, i32_mul, i32_add, e_pL ln_313 (by omega) (by omega), wL_vec hi]
def pv (f v : Nat → Int64) (k : Nat) : Nat → Int64 := fun i => if i < k then f i else v i
theorem pv_0 {f v : Nat → Int64} : pv f v 0 = v := funext (fun i => if_neg (Nat.not_lt_zero i))
theorem pv_step {f v : Nat → Int64} {k : Nat} : upv (pv f v k) k (f k) = pv f v (k + 1) := by
  funext i
  unfold upv pv
  by_cases h1 : i = k
  · subst h1; rw [if_pos rfl, if_pos (Nat.lt_succ_self i)]
  · rw [if_neg h1]
    by_cases h2 : i < k
    · rw [if_pos h2, if_pos (by omega)]
    · rw [if_neg h2, if_neg (by omega)]
theorem pv_6 {σ : Mem} {s : Nat} {f v : Nat → Int64} : setV σ s (pv f v 6) = setV σ s f := setV_congr (fun i hi => if_pos hi)
theorem upv_congr {v u : Nat → Int64} {i : Nat} {x : Int64} {σ : Mem} {s : Nat} (h : ∀ k, k < 6 → v k = u k) : setV σ s (upv v i x) = setV σ s (upv u i x) := setV_congr (fun k hk => by
  unfold upv
  by_cases h1 : k = i
  · rw [if_pos h1, if_pos h1]
  · rw [if_neg h1, if_neg h1, h k hk])
/-- a write into a place that was written -/
theorem e_puts2 {σ : Mem} {s i : Nat} {v : Nat → Int64} {x : Int64} (hs : s < 100) (hi : i < 6) : f_X11_puts (setV σ s v) (i32 s) (i32 i) x = some (setV σ s (upv v i x)) := by
  rw [e_puts hs hi, setV_setV]
  congr 1
  exact upv_congr (fun k hk => setV_self hk)
theorem e_of2 {σ : Mem} {s i : Nat} {v : Nat → Int64} (hs : s < 100) (hi : i < 6) : f_X11_of (setV σ s v) (i32 s) (i32 i) = some (v i) := by
  rw [e_of hs hi, setV_self hi]
theorem e_of3 {σ : Mem} {s r i : Nat} {v : Nat → Int64} (hr : r < 100) (hi : i < 6) (h : r ≠ s) : f_X11_of (setV σ s v) (i32 r) (i32 i) = some (vec σ r i) := by
  rw [e_of hr hi, setV_ne hi h]
theorem e_ones {σ : Mem} {s : Nat} (hs : s < 100) : f_X11_ones σ (i32 s) = some (setV σ s (fun _ => 0)) := by
  unfold f_X11_ones
  refine loop_at (fun k => (setV σ s (pv (fun _ => 0) (vec σ s) k), i32 k)) 0 6 (by rw [pv_0, setV_id]; rfl) (by omega) (fun k _ hk => ?_) ?_
  · show l_X11_ones_2 _ _ _ = _
    unfold l_X11_ones_2
    rw [i32_6, if_neg (i_nle hk (by omega)), e_puts2 hs hk, e_bs, i32_1, i32_add, ← pv_step]
  · show l_X11_ones_2 _ _ _ = _
    unfold l_X11_ones_2
    rw [i32_6, if_pos (i_le (Nat.le_refl 6) (by omega)), pv_6]
theorem e_copies {σ : Mem} {s r : Nat} (hs : s < 100) (hr : r < 100) (hne : s ≠ r) : f_X11_copies σ (i32 s) (i32 r) = some (setV σ r (vec σ s)) := by
  unfold f_X11_copies
  refine loop_at (fun k => (setV σ r (pv (vec σ s) (vec σ r) k), i32 k)) 0 6 (by rw [pv_0, setV_id]; rfl) (by omega) (fun k _ hk => ?_) ?_
  · show l_X11_copies_2 _ _ _ _ = _
    unfold l_X11_copies_2
    rw [i32_6, if_neg (i_nle hk (by omega)), e_of3 hs hk hne, e_bs, e_puts2 hr hk, e_bs, i32_1, i32_add, ← pv_step]
  · show l_X11_copies_2 _ _ _ _ = _
    unfold l_X11_copies_2
    rw [i32_6, if_pos (i_le (Nat.le_refl 6) (by omega)), pv_6]
/-! the group in the reference's row 307 -/
/-- how many generators, weights, tails, registers' exponents -/
def mN (σ : Mem) (n : Nat) : Prop := σ.1 307 0 = i32 n
/-- the group's numbers: generators from 0, weights, tails -/
abbrev GD : Type := Nat × (Nat → Nat) × (Nat → Nat → Nat → Nat)
abbrev gn (G : GD) : Nat := G.1
abbrev gw (G : GD) : Nat → Nat := G.2.1
abbrev gt (G : GD) : Nat → Nat → Nat → Nat := G.2.2
/-- what is a group's numbers -/
def GOK (G : GD) : Prop := 1 ≤ gn G ∧ gn G ≤ 6 ∧ (∀ i, i < gn G → 1 ≤ gw G i ∧ gw G i ≤ 3) ∧ (∀ i j, i ≤ j → j < gn G → gw G i ≤ gw G j) ∧ (∀ i, gn G ≤ i → gw G i = 0) ∧ (∀ j i k, gt G j i k ≤ 3) ∧ (∀ j i k, gt G j i k ≠ 0 → i < j ∧ j < k ∧ k < gn G ∧ gw G i + gw G j ≤ gw G k)
/-- the reference holds G -/
def MG (σ : Mem) (G : GD) : Prop := σ.1 307 0 = i32 (gn G) ∧ (∀ i, i < 6 → σ.1 307 (1 + i) = i32 (gw G i)) ∧ (∀ j i k, j < 6 → i < 6 → k < 6 → σ.1 307 (7 + 36 * j + 6 * i + k) = i32 (gt G j i k))
theorem MG.setV {σ : Mem} {G : GD} {s : Nat} {v : Nat → Int64} (h : MG σ G) : MG (setV σ s v) G := h
theorem e_n {σ : Mem} {G : GD} (h : MG σ G) : f_X11_n σ = some (i32 (gn G)) := by
  unfold f_X11_n
  rw [i32_0, e_gI ln_307 (by omega) (by omega), h.1]
theorem e_weight {σ : Mem} {G : GD} (h : MG σ G) {i : Nat} (hi : i < 6) : f_X11_weight σ (i32 i) = some (i32 (gw G i)) := by
  unfold f_X11_weight
  rw [i32_1, i32_add, e_gI ln_307 (by omega) (by omega), h.2.1 i hi]
theorem e_tail {σ : Mem} {G : GD} (h : MG σ G) {j i k : Nat} (hj : j < 6) (hi : i < 6) (hk : k < 6) : f_X11_tail σ (i32 j) (i32 i) (i32 k) = some (i32 (gt G j i k)) := by
  unfold f_X11_tail
  rw [i32_7, i32_36, i32_6, i32_mul, i32_mul, i32_add, i32_add, i32_add, e_gI ln_307 (by omega) (by omega), h.2.2 j i k hj hi hk]
theorem e_two {σ : Mem} {y : Int64} : f_X11_two σ y = some (y * (y - 1) / 2) := e_nzL (by decide)
/-- an element less nothing, times so many letters i that pass j of weight two -/
def pTwo (G : GD) (j i : Nat) (x : Int64) (v : Nat → Int64) : Nat → Int64 := fun m => if j < m ∧ m < gn G then v m + Int64.ofNat (gt G j i m) * x else v m
theorem e_passesTwo {σ : Mem} {G : GD} (h : MG σ G) (hG : GOK G) {s j i : Nat} {x : Int64} (hs : s < 100) (hj : j < gn G) (hi : i < 6) : f_X11_passesTwo σ (i32 s) (i32 j) (i32 i) x = some (setV σ s (pTwo G j i x (vec σ s))) := by
  have hn := hG.2.1
  unfold f_X11_passesTwo
  rw [e_bd, i32_1, i32_add]
  have hp : ∀ k, pTwo G j i x (vec σ s) k = if j < k ∧ k < gn G then vec σ s k + Int64.ofNat (gt G j i k) * x else vec σ s k := fun k => rfl
  refine loop_at (fun k => (setV σ s (pv (pTwo G j i x (vec σ s)) (vec σ s) k), i32 k)) (j + 1) (gn G) ?_ (by omega) (fun k hk1 hk => ?_) ?_
  · refine Prod.ext ?_ rfl
    show setV σ s _ = σ
    refine (setV_congr (fun i hi => ?_)).trans setV_id
    unfold pv
    by_cases h1 : i < j + 1
    · rw [if_pos h1, hp, if_neg (by omega)]
    · rw [if_neg h1]
  · show l_X11_passesTwo_5 _ _ _ _ _ _ = _
    unfold l_X11_passesTwo_5
    rw [e_n (h.setV), e_bs, if_neg (i_nle hk (by omega)), e_of2 hs (by omega), e_bs, e_tail (h.setV) (by omega) hi (by omega), e_bs, e_puts2 hs (by omega), e_bs, i32_1, i32_add, ← pv_step, hp, if_pos ⟨hk1, hk⟩, i32_64 (by have := hG.2.2.2.2.2.1 j i k; omega)]
    congr 4
    unfold pv
    rw [if_neg (Nat.lt_irrefl k)]
  · show l_X11_passesTwo_5 _ _ _ _ _ _ = _
    unfold l_X11_passesTwo_5
    rw [e_n (h.setV), e_bs, if_pos (i_le (Nat.le_refl _) (by omega))]
    congr 2
    refine setV_congr (fun i hi => ?_)
    unfold pv
    by_cases h1 : i < gn G
    · rw [if_pos h1]
    · rw [if_neg h1, hp, if_neg (by omega)]
