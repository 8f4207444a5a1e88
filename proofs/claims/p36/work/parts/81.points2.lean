/-! points: rows of degrees up to a weight; sums over them -/
section PP2
def bn (d : Nat) (x : Int) : Int := if d = 0 then 1 else if d = 1 then x else if d = 2 then two x else three x
def Bn : List Nat → List Int → Int
  | d :: e, x :: xs => bn d x * Bn e xs
  | _, _ => 1
def pts : List Nat → Nat → List (List Nat)
  | [], _ => [[]]
  | w :: ws, left => (List.range' 0 (left / w + 1)).flatMap (fun d => (pts ws (left - d * w)).map (fun e => d :: e))
def zs (ws : List Nat) : List Nat := ws.map (fun _ => 0)
def aft : List Nat → Nat → List Nat → List (List Nat)
  | w :: ws, left, d :: e => (aft ws (left - d * w) e).map (fun r => d :: r) ++ (List.range' (d + 1) (left / w - d)).flatMap (fun q => (pts ws (left - q * w)).map (fun r => q :: r))
  | _, _, _ => []
def nx : List Nat → Nat → List Nat → Option (List Nat)
  | w :: ws, left, d :: e => match nx ws (left - d * w) e with
    | some r => some (d :: r)
    | none => if (d + 1) * w ≤ left then some ((d + 1) :: zs ws) else none
  | _, _, _ => none
def pwt : List Nat → List Nat → Nat
  | w :: ws, d :: e => d * w + pwt ws e
  | _, _ => 0
theorem pts_zs : ∀ (ws : List Nat) (left : Nat), pts ws left = zs ws :: aft ws left (zs ws) := by
  intro ws
  induction ws with
  | nil => intro left; rfl
  | cons w ws ih =>
    intro left
    show (List.range' 0 (left / w + 1)).flatMap (fun d => (pts ws (left - d * w)).map (fun e => d :: e)) = (0 :: zs ws) :: ((aft ws (left - 0 * w) (zs ws)).map (fun r => 0 :: r) ++ (List.range' (0 + 1) (left / w - 0)).flatMap (fun q => (pts ws (left - q * w)).map (fun r => q :: r)))
    rw [List.range'_succ, List.flatMap_cons, ih (left - 0 * w), List.map_cons, Nat.sub_zero]
    rfl
theorem nx_some : ∀ (ws : List Nat) (left : Nat) (e r : List Nat), (∀ w, w ∈ ws → 1 ≤ w) → nx ws left e = some r → aft ws left e = r :: aft ws left r := by
  intro ws
  induction ws with
  | nil => intro left e r _ h; cases h
  | cons w ws ih =>
    intro left e r hw h
    cases e with
    | nil => cases h
    | cons d e =>
      have hw0 := hw w (List.mem_cons_self ..)
      have hw' : ∀ x, x ∈ ws → 1 ≤ x := fun x hx => hw x (List.mem_cons_of_mem _ hx)
      have none_aft : ∀ (us : List Nat) (l : Nat) (q : List Nat), (∀ x, x ∈ us → 1 ≤ x) → nx us l q = none → aft us l q = [] := by
        intro us
        induction us with
        | nil => intro l q _ _; rfl
        | cons u us ih2 =>
          intro l q hu hq
          cases q with
          | nil => rfl
          | cons c q =>
            have hu0 := hu u (List.mem_cons_self ..)
            simp only [nx] at hq
            cases h1 : nx us (l - c * u) q with
            | some y => rw [h1] at hq; cases hq
            | none =>
              rw [h1] at hq
              have h2 : ¬ (c + 1) * u ≤ l := fun z => by simp only [if_pos z] at hq; cases hq
              show (aft us (l - c * u) q).map _ ++ (List.range' (c + 1) (l / u - c)).flatMap _ = []
              have h3 : l / u - c = 0 := by
                have h4 : ¬ (c + 1) ≤ l / u := fun z => h2 ((Nat.le_div_iff_mul_le (by omega)).mp z)
                omega
              rw [ih2 _ _ (fun x hx => hu x (List.mem_cons_of_mem _ hx)) h1, h3]
              rfl
      simp only [nx] at h
      cases h1 : nx ws (left - d * w) e with
      | some y =>
        rw [h1] at h
        cases h
        show (aft ws (left - d * w) e).map _ ++ _ = (d :: y) :: ((aft ws (left - d * w) y).map _ ++ _)
        rw [ih _ _ _ hw' h1]
        rfl
      | none =>
        rw [h1] at h
        by_cases h2 : (d + 1) * w ≤ left
        · simp only [if_pos h2] at h
          cases h
          have h4 : (d + 1) ≤ left / w := (Nat.le_div_iff_mul_le (by omega)).mpr h2
          show (aft ws (left - d * w) e).map _ ++ (List.range' (d + 1) (left / w - d)).flatMap _ = ((d + 1) :: zs ws) :: ((aft ws (left - (d + 1) * w) (zs ws)).map _ ++ (List.range' (d + 1 + 1) (left / w - (d + 1))).flatMap _)
          rw [none_aft _ _ _ hw' h1, show left / w - d = (left / w - (d + 1)) + 1 by omega, List.range'_succ, List.flatMap_cons, pts_zs]
          rfl
        · simp only [if_neg h2] at h
          cases h
theorem nx_none : ∀ (us : List Nat) (l : Nat) (q : List Nat), (∀ x, x ∈ us → 1 ≤ x) → nx us l q = none → aft us l q = [] := by
  intro us
  induction us with
  | nil => intro l q _ _; rfl
  | cons u us ih2 =>
    intro l q hu hq
    cases q with
    | nil => rfl
    | cons c q =>
      have hu0 := hu u (List.mem_cons_self ..)
      simp only [nx] at hq
      cases h1 : nx us (l - c * u) q with
      | some y => rw [h1] at hq; cases hq
      | none =>
        rw [h1] at hq
        have h2 : ¬ (c + 1) * u ≤ l := fun z => by simp only [if_pos z] at hq; cases hq
        show (aft us (l - c * u) q).map _ ++ (List.range' (c + 1) (l / u - c)).flatMap _ = []
        have h3 : l / u - c = 0 := by
          have h4 : ¬ (c + 1) ≤ l / u := fun z => h2 ((Nat.le_div_iff_mul_le (by omega)).mp z)
          omega
        rw [ih2 _ _ (fun x hx => hu x (List.mem_cons_of_mem _ hx)) h1, h3]
        rfl
theorem nx_app : ∀ (A WA : List Nat) (left : Nat) (WX X r : List Nat), A.length = WA.length → nx WX (left - pwt WA A) X = some r → nx (WA ++ WX) left (A ++ X) = some (A ++ r) := by
  intro A
  induction A with
  | nil =>
    intro WA left WX X r hl h
    cases WA with
    | nil => exact h
    | cons w WA => simp at hl
  | cons d A ih =>
    intro WA left WX X r hl h
    cases WA with
    | nil => simp at hl
    | cons w WA =>
      have h2 := ih WA (left - d * w) WX X r (by simpa using hl) (by
        rw [Nat.sub_sub]
        exact h)
      show nx (w :: (WA ++ WX)) left (d :: (A ++ X)) = _
      simp only [nx, h2]
      rfl
theorem nx_last {w left d : Nat} {WB B : List Nat} (h : nx WB (left - d * w) B = none) : nx (w :: WB) left (d :: B) = if (d + 1) * w ≤ left then some ((d + 1) :: zs WB) else none := by
  simp only [nx, h]
theorem wt_app : ∀ (A WA : List Nat) (WX X : List Nat), A.length = WA.length → pwt (WA ++ WX) (A ++ X) = pwt WA A + pwt WX X := by
  intro A
  induction A with
  | nil =>
    intro WA WX X hl
    cases WA with
    | nil => show pwt WX X = 0 + _; omega
    | cons w WA => simp at hl
  | cons d A ih =>
    intro WA WX X hl
    cases WA with
    | nil => simp at hl
    | cons w WA =>
      show d * w + pwt (WA ++ WX) (A ++ X) = d * w + pwt WA A + pwt WX X
      rw [ih WA WX X (by simpa using hl)]
      omega
theorem wt_zs : ∀ ws : List Nat, pwt ws (zs ws) = 0 := by
  intro ws
  induction ws with
  | nil => rfl
  | cons w ws ih =>
    show 0 * w + pwt ws (zs ws) = 0
    rw [ih]; omega
theorem pts_mem : ∀ (ws : List Nat) (left : Nat) (e : List Nat), (∀ w, w ∈ ws → 1 ≤ w) → (e ∈ pts ws left ↔ e.length = ws.length ∧ pwt ws e ≤ left) := by
  intro ws
  induction ws with
  | nil =>
    intro left e _
    show e ∈ [[]] ↔ _
    rw [List.mem_singleton]
    constructor
    · intro h; subst h; exact ⟨rfl, Nat.zero_le _⟩
    · intro h; exact List.length_eq_zero_iff.mp h.1
  | cons w ws ih =>
    intro left e hw
    have hw0 := hw w (List.mem_cons_self ..)
    have hw' : ∀ x, x ∈ ws → 1 ≤ x := fun x hx => hw x (List.mem_cons_of_mem _ hx)
    show e ∈ (List.range' 0 (left / w + 1)).flatMap (fun d => (pts ws (left - d * w)).map (fun e => d :: e)) ↔ _
    rw [List.mem_flatMap]
    constructor
    · rintro ⟨d, hd, h⟩
      rw [List.mem_range'_1] at hd
      obtain ⟨r, hr, rfl⟩ := List.mem_map.mp h
      have h1 := (ih _ _ hw').mp hr
      have h2 : d * w ≤ left := (Nat.le_div_iff_mul_le (by omega)).mp (by omega)
      refine ⟨by simp only [List.length_cons, h1.1], ?_⟩
      show d * w + pwt ws r ≤ left
      omega
    · rintro ⟨hl, h⟩
      cases e with
      | nil => simp at hl
      | cons d r =>
        have h1 : d * w + pwt ws r ≤ left := h
        have h2 : d ≤ left / w := (Nat.le_div_iff_mul_le (by omega)).mpr (by omega)
        refine ⟨d, List.mem_range'_1.mpr ⟨Nat.zero_le _, by omega⟩, List.mem_map.mpr ⟨r, (ih _ _ hw').mpr ⟨by simpa using hl, by omega⟩, rfl⟩⟩
/-- the points of less weight, in their order -/
theorem pts_filter : ∀ (ws : List Nat) (left L : Nat), (∀ w, w ∈ ws → 1 ≤ w) → L ≤ left → (pts ws left).filter (fun e => decide (pwt ws e ≤ L)) = pts ws L := by
  intro ws
  induction ws with
  | nil => intro left L _ _; rfl
  | cons w ws ih =>
    intro left L hw hL
    have hw0 := hw w (List.mem_cons_self ..)
    have hw' : ∀ x, x ∈ ws → 1 ≤ x := fun x hx => hw x (List.mem_cons_of_mem _ hx)
    have key : ∀ d, ((pts ws (left - d * w)).map (fun e => d :: e)).filter (fun e => decide (pwt (w :: ws) e ≤ L)) = if d * w ≤ L then (pts ws (L - d * w)).map (fun e => d :: e) else [] := by
      intro d
      rw [List.filter_map]
      by_cases h : d * w ≤ L
      · rw [if_pos h, ← ih (left - d * w) (L - d * w) hw' (by omega)]
        congr 1
        refine List.filter_congr (fun e _ => ?_)
        show decide (d * w + pwt ws e ≤ L) = decide (pwt ws e ≤ L - d * w)
        rw [decide_eq_decide]
        omega
      · rw [if_neg h]
        have : (pts ws (left - d * w)).filter ((fun e => decide (pwt (w :: ws) e ≤ L)) ∘ fun e => d :: e) = [] := by
          rw [List.filter_eq_nil_iff]
          intro e _
          show ¬ decide (d * w + pwt ws e ≤ L) = true
          rw [decide_eq_true_eq]
          omega
        rw [this]; rfl
    show ((List.range' 0 (left / w + 1)).flatMap (fun d => (pts ws (left - d * w)).map (fun e => d :: e))).filter _ = (List.range' 0 (L / w + 1)).flatMap (fun d => (pts ws (L - d * w)).map (fun e => d :: e))
    rw [List.filter_flatMap]
    have e1 : (fun d => ((pts ws (left - d * w)).map (fun e => d :: e)).filter (fun e => decide (pwt (w :: ws) e ≤ L))) = fun d => if d * w ≤ L then (pts ws (L - d * w)).map (fun e => d :: e) else [] := funext key
    rw [e1]
    have hle : L / w ≤ left / w := Nat.div_le_div_right hL
    have hr : List.range' 0 (left / w + 1) = List.range' 0 (L / w + 1) ++ List.range' (L / w + 1) (left / w - L / w) := by
      rw [show left / w + 1 = (L / w + 1) + (left / w - L / w) by omega, ← List.range'_append_1, Nat.zero_add]
    rw [hr, List.flatMap_append]
    have z : (List.range' (L / w + 1) (left / w - L / w)).flatMap (fun d => if d * w ≤ L then (pts ws (L - d * w)).map (fun e => d :: e) else []) = [] := by
      rw [List.flatMap_eq_nil_iff]
      intro d hd
      rw [List.mem_range'_1] at hd
      rw [if_neg]
      intro q
      have := (Nat.le_div_iff_mul_le (show 0 < w by omega)).mpr q
      omega
    rw [z, List.append_nil]
    rw [List.flatMap_def, List.flatMap_def]
    congr 1
    refine List.map_congr_left (fun d hd => ?_)
    rw [List.mem_range'_1] at hd
    rw [if_pos ((Nat.le_div_iff_mul_le (by omega)).mp (by omega))]
end PP2

