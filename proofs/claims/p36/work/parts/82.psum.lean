/-! sums over points; what is a sum of binomials -/
section PS2
def lsm (g : List Nat → Int) : List (List Nat) → Int
  | [] => 0
  | e :: L => g e + lsm g L
def psum : List Nat → Nat → (List Nat → Int) → Int
  | [], _, g => g []
  | w :: ws, left, g => sm (fun d => psum ws (left - d * w) (fun e => g (d :: e))) (left / w + 1)
theorem lsm_app {g : List Nat → Int} : ∀ A B : List (List Nat), lsm g (A ++ B) = lsm g A + lsm g B := by
  intro A
  induction A with
  | nil => intro B; show lsm g B = 0 + lsm g B; omega
  | cons a A ih =>
    intro B
    show g a + lsm g (A ++ B) = g a + lsm g A + lsm g B
    rw [ih B]; omega
theorem lsm_map {g : List Nat → Int} {f : List Nat → List Nat} : ∀ A : List (List Nat), lsm g (A.map f) = lsm (fun e => g (f e)) A := by
  intro A
  induction A with
  | nil => rfl
  | cons a A ih =>
    show g (f a) + lsm g (A.map f) = g (f a) + lsm (fun e => g (f e)) A
    rw [ih]
theorem lsm_congr {g h : List Nat → Int} : ∀ A : List (List Nat), (∀ e, e ∈ A → g e = h e) → lsm g A = lsm h A := by
  intro A
  induction A with
  | nil => intro _; rfl
  | cons a A ih =>
    intro hh
    show g a + lsm g A = h a + lsm h A
    rw [hh a (List.mem_cons_self ..), ih (fun e he => hh e (List.mem_cons_of_mem _ he))]
theorem lsm_zero {g : List Nat → Int} : ∀ A : List (List Nat), (∀ e, e ∈ A → g e = 0) → lsm g A = 0 := by
  intro A
  induction A with
  | nil => intro _; rfl
  | cons a A ih =>
    intro hh
    show g a + lsm g A = 0
    rw [hh a (List.mem_cons_self ..), ih (fun e he => hh e (List.mem_cons_of_mem _ he))]; rfl
theorem lsm_range {g : List Nat → Int} {f : Nat → List (List Nat)} : ∀ n, lsm g ((List.range' 0 n).flatMap f) = sm (fun d => lsm g (f d)) n := by
  intro n
  induction n with
  | zero => rfl
  | succ n ih =>
    rw [List.range'_concat, List.flatMap_append, lsm_app, ih]
    show _ + lsm g ([0 + 1 * n].flatMap f) = sm _ n + lsm g (f n)
    rw [List.flatMap_cons, List.flatMap_nil, List.append_nil, Nat.zero_add, Nat.one_mul]
theorem psum_lsm : ∀ (ws : List Nat) (left : Nat) (g : List Nat → Int), psum ws left g = lsm g (pts ws left) := by
  intro ws
  induction ws with
  | nil => intro left g; show g [] = g [] + 0; omega
  | cons w ws ih =>
    intro left g
    show sm (fun d => psum ws (left - d * w) (fun e => g (d :: e))) (left / w + 1) = lsm g ((List.range' 0 (left / w + 1)).flatMap (fun d => (pts ws (left - d * w)).map (fun e => d :: e)))
    rw [lsm_range]
    refine sm_congr (fun d _ => ?_)
    rw [ih, lsm_map]
theorem psum_congr {ws : List Nat} {left : Nat} {g h : List Nat → Int} (hh : ∀ e, e ∈ pts ws left → g e = h e) : psum ws left g = psum ws left h := by
  rw [psum_lsm, psum_lsm]; exact lsm_congr _ hh
theorem psum_add : ∀ (ws : List Nat) (left : Nat) (g h : List Nat → Int), psum ws left g + psum ws left h = psum ws left (fun e => g e + h e) := by
  intro ws
  induction ws with
  | nil => intro left g h; rfl
  | cons w ws ih =>
    intro left g h
    show sm _ _ + sm _ _ = sm _ _
    rw [sm_add]
    exact sm_congr (fun d _ => ih _ _ _)
theorem psum_mul : ∀ (ws : List Nat) (left : Nat) (c : Int) (g : List Nat → Int), c * psum ws left g = psum ws left (fun e => c * g e) := by
  intro ws
  induction ws with
  | nil => intro left c g; rfl
  | cons w ws ih =>
    intro left c g
    show c * sm _ _ = sm _ _
    rw [sm_mul]
    exact sm_congr (fun d _ => ih _ _ _)
theorem psum_zero {ws : List Nat} {left : Nat} {g : List Nat → Int} (h : ∀ e, g e = 0) : psum ws left g = 0 := by
  rw [psum_lsm]; exact lsm_zero _ (fun e _ => h e)
theorem psum_delta : ∀ (ws : List Nat) (left : Nat) (q : List Nat) (g : List Nat → Int), (∀ w, w ∈ ws → 1 ≤ w) → q.length = ws.length → pwt ws q ≤ left → psum ws left (fun e => if e = q then g e else 0) = g q := by
  intro ws
  induction ws with
  | nil =>
    intro left q g _ hl _
    have : q = [] := List.length_eq_zero_iff.mp hl
    subst this
    show (if ([] : List Nat) = [] then g [] else 0) = g []
    rw [if_pos rfl]
  | cons w ws ih =>
    intro left q g hw hl hq
    have hw0 := hw w (List.mem_cons_self ..)
    cases q with
    | nil => simp at hl
    | cons d0 q =>
      have h1 : d0 * w + pwt ws q ≤ left := hq
      have h2 : d0 ≤ left / w := (Nat.le_div_iff_mul_le (by omega)).mpr (by omega)
      show sm (fun d => psum ws (left - d * w) (fun e => if d :: e = d0 :: q then g (d :: e) else 0)) (left / w + 1) = _
      have e1 : ∀ d, psum ws (left - d * w) (fun e => if d :: e = d0 :: q then g (d :: e) else 0) = if d0 = d then psum ws (left - d * w) (fun e => if e = q then g (d :: e) else 0) else 0 := by
        intro d
        by_cases h3 : d0 = d
        · subst h3
          rw [if_pos rfl]
          congr 1
          funext e
          simp only [List.cons.injEq, true_and]
        · rw [if_neg h3]
          refine psum_zero (fun e => ?_)
          rw [if_neg]
          intro z
          exact h3 (List.cons.inj z).1.symm
      rw [show (fun d => psum ws (left - d * w) (fun e => if d :: e = d0 :: q then g (d :: e) else 0)) = fun d => if d0 = d then psum ws (left - d * w) (fun e => if e = q then g (d :: e) else 0) else 0 from funext e1, sm_delta (g := fun d => psum ws (left - d * w) (fun e => if e = q then g (d :: e) else 0)) (by omega)]
      exact ih (left - d0 * w) q (fun e => g (d0 :: e)) (fun x hx => hw x (List.mem_cons_of_mem _ hx)) (by simpa using hl) (by omega)
/-! at a point: its own binomial is 1, those behind it are 0 -/
theorem bn_lt {q d : Nat} (h : d < q) (h3 : q ≤ 3) : bn q (d : Int) = 0 := by
  have key : (List.range 4).all (fun q => (List.range 4).all (fun d => !(decide (d < q)) || decide (bn q (d : Int) = 0))) = true := by decide
  have h1 := List.all_eq_true.mp key q (List.mem_range.mpr (by omega))
  have h2 := List.all_eq_true.mp h1 d (List.mem_range.mpr (by omega))
  rw [decide_eq_true h] at h2
  simpa using h2
theorem bn_self {d : Nat} (h : d ≤ 3) : bn d (d : Int) = 1 := by
  have key : (List.range 4).all (fun d => decide (bn d (d : Int) = 1)) = true := by decide
  have h2 := List.all_eq_true.mp key d (List.mem_range.mpr (by omega))
  exact of_decide_eq_true h2
def ints (e : List Nat) : List Int := e.map (fun (d : Nat) => (d : Int))
theorem Bn_self : ∀ e : List Nat, (∀ d, d ∈ e → d ≤ 3) → Bn e (ints e) = 1 := by
  intro e
  induction e with
  | nil => intro _; rfl
  | cons d e ih =>
    intro h
    show bn d (d : Int) * Bn e (ints e) = 1
    rw [bn_self (h d (List.mem_cons_self ..)), ih (fun x hx => h x (List.mem_cons_of_mem _ hx))]; rfl
theorem Bn_aft : ∀ (ws : List Nat) (left : Nat) (e r : List Nat), r ∈ aft ws left e → (∀ d, d ∈ r → d ≤ 3) → Bn r (ints e) = 0 := by
  intro ws
  induction ws with
  | nil => intro left e r h; cases h
  | cons w ws ih =>
    intro left e r h h3
    cases e with
    | nil => cases h
    | cons d e =>
      rcases List.mem_append.mp h with h1 | h1
      · obtain ⟨q, hq, rfl⟩ := List.mem_map.mp h1
        show bn d (d : Int) * Bn q (ints e) = 0
        rw [ih _ _ _ hq (fun x hx => h3 x (List.mem_cons_of_mem _ hx)), Int.mul_zero]
      · obtain ⟨c, hc, h2⟩ := List.mem_flatMap.mp h1
        rw [List.mem_range'_1] at hc
        obtain ⟨q, hq, rfl⟩ := List.mem_map.mp h2
        show bn c (d : Int) * Bn q (ints e) = 0
        rw [bn_lt (by omega) (h3 c (List.mem_cons_self ..)), Int.zero_mul]
theorem wt_deg : ∀ (ws e : List Nat), (∀ w, w ∈ ws → 1 ≤ w) → e.length = ws.length → ∀ d, d ∈ e → d ≤ pwt ws e := by
  intro ws
  induction ws with
  | nil =>
    intro e _ hl d hd
    have : e = [] := List.length_eq_zero_iff.mp hl
    subst this; cases hd
  | cons w ws ih =>
    intro e hw hl d hd
    have hw0 := hw w (List.mem_cons_self ..)
    cases e with
    | nil => cases hd
    | cons c e =>
      show d ≤ c * w + pwt ws e
      rcases List.mem_cons.mp hd with h | h
      · subst h
        have := Nat.le_mul_of_pos_right d hw0
        omega
      · have := ih e (fun x hx => hw x (List.mem_cons_of_mem _ hx)) (by simpa using hl) d h
        omega
/-! differences -/
def ch : Nat → Nat → Nat
  | _, 0 => 1
  | 0, _ + 1 => 0
  | n + 1, k + 1 => ch n k + ch n (k + 1)
/-! what is a sum of binomials, by numbers of a kind -/
def Sp (W : List Nat) (left : Nat) (c : List Nat → Int) (f : List Int → Int) : Prop := ∀ xs, xs.length = W.length → f xs = psum W left (fun e => c e * Bn e xs)
/-- at a point: what is told ahead of it, and its own number -/
theorem Sp.point {W : List Nat} {left : Nat} {c : List Nat → Int} {f : List Int → Int} (h : Sp W left c f) (hW : ∀ w, w ∈ W → 1 ≤ w) (h3 : left ≤ 3) {P : List (List Nat)} {q : List Nat} {R : List (List Nat)} (hP : pts W left = P ++ q :: R) (hR : ∀ r, r ∈ R → Bn r (ints q) = 0) : f (ints q) = lsm (fun e => c e * Bn e (ints q)) P + c q := by
  have hq : q ∈ pts W left := by rw [hP]; exact List.mem_append_right _ (List.mem_cons_self ..)
  have hq' := (pts_mem W left q hW).mp hq
  rw [h (ints q) (by unfold ints; rw [List.length_map, hq'.1]), psum_lsm, hP, lsm_app]
  congr 1
  show c q * Bn q (ints q) + lsm _ R = c q
  rw [lsm_zero R (fun r hr => by rw [hR r hr, Int.mul_zero]), Bn_self q (fun d hd => by
    have := wt_deg W q hW hq'.1 d hd
    omega)]
  omega
end PS2

