/-! what short words make: lists -/
section BLL
variable {G : GD}
def Far (G : GD) (M : List (Nat → Int)) : Prop := M.Pairwise (fun a b => areS G a b = false)
def PB (G : GD) (B : Int) (x : Nat → Int) : Prop := SB G B x ∧ ∀ k, gn G ≤ k → x k = 0
theorem addE_full {M : List (Nat → Int)} {x : Nat → Int} (h : 1000 < M.length) : addE G M x = M := by
  unfold addE
  rw [if_neg (show ¬ M.length ≤ 1000 by omega)]
  split <;> rfl
theorem addE_pre {M : List (Nat → Int)} {x : Nat → Int} : ∃ T, addE G M x = M ++ T := by
  unfold addE
  split
  · exact ⟨[], (List.append_nil _).symm⟩
  · split
    · exact ⟨[x], rfl⟩
    · exact ⟨[], (List.append_nil _).symm⟩
theorem addE_len {M : List (Nat → Int)} {x : Nat → Int} (h : M.length ≤ 1001) : (addE G M x).length ≤ 1001 := by
  unfold addE
  split
  · exact h
  · split
    · rw [List.length_append, List.length_singleton]; omega
    · exact h
theorem addE_all {M : List (Nat → Int)} {x : Nat → Int} {P : (Nat → Int) → Prop} (h : ∀ y, y ∈ M → P y) (hx : P x) : ∀ y, y ∈ addE G M x → P y := by
  unfold addE
  split
  · exact h
  · split
    · intro y hy
      rw [List.mem_append, List.mem_singleton] at hy
      rcases hy with hy | hy
      · exact h y hy
      · rw [hy]; exact hx
    · exact h
theorem addE_far {M : List (Nat → Int)} {x : Nat → Int} (h : Far G M) : Far G (addE G M x) := by
  unfold addE
  split
  · exact h
  · rename_i hn
    split
    · unfold Far
      rw [List.pairwise_append]
      refine ⟨h, List.pairwise_singleton _ _, fun a ha b hb => ?_⟩
      rw [List.mem_singleton] at hb
      subst hb
      cases hs : areS G a b with
      | false => rfl
      | true => exact absurd (List.any_eq_true.mpr ⟨a, ha, hs⟩) hn
    · exact h
theorem pre_trans {A B C : List (Nat → Int)} (h : ∃ T, B = A ++ T) (k : ∃ T, C = B ++ T) : ∃ T, C = A ++ T := by
  obtain ⟨T, rfl⟩ := h
  obtain ⟨U, rfl⟩ := k
  exact ⟨T ++ U, List.append_assoc ..⟩
theorem pre_get {A B : List (Nat → Int)} (h : ∃ T, B = A ++ T) {q : Nat} (hq : q < A.length) : B[q]? = A[q]? := by
  obtain ⟨T, rfl⟩ := h
  exact List.getElem?_append_left hq
theorem pre_len {A B : List (Nat → Int)} (h : ∃ T, B = A ++ T) : A.length ≤ B.length := by
  obtain ⟨T, rfl⟩ := h
  rw [List.length_append]; omega
/-- letter by letter, both signs -/
def hE (G : GD) (x : Nat → Int) (M : List (Nat → Int)) : Nat → List (Nat → Int)
  | 0 => M
  | g + 1 => if gw G (g / 2) = 1 then addE G (hE G x M g) (TL G x (g / 2) (if g % 2 = 0 then 1 else -1)) else hE G x M g
theorem hE_gen {x : Nat → Int} {M : List (Nat → Int)} : ∀ i, hE G x M (2 * i) = genE G x M i
  | 0 => rfl
  | i + 1 => by
    rw [show 2 * (i + 1) = 2 * i + 1 + 1 by omega]
    show (if gw G ((2 * i + 1) / 2) = 1 then addE G (if gw G ((2 * i) / 2) = 1 then addE G (hE G x M (2 * i)) (TL G x ((2 * i) / 2) (if (2 * i) % 2 = 0 then 1 else -1)) else hE G x M (2 * i)) (TL G x ((2 * i + 1) / 2) (if (2 * i + 1) % 2 = 0 then 1 else -1)) else (if gw G ((2 * i) / 2) = 1 then addE G (hE G x M (2 * i)) (TL G x ((2 * i) / 2) (if (2 * i) % 2 = 0 then 1 else -1)) else hE G x M (2 * i))) = genE G x M (i + 1)
    rw [hE_gen i, show (2 * i + 1) / 2 = i by omega, show (2 * i) / 2 = i by omega, if_pos (show (2 * i) % 2 = 0 by omega), if_neg (show ¬ (2 * i + 1) % 2 = 0 by omega)]
    show _ = (if gw G i = 1 then addE G (addE G (genE G x M i) (TL G x i 1)) (TL G x i (-1)) else genE G x M i)
    split <;> rfl
theorem genE_stop {x : Nat → Int} {M : List (Nat → Int)} {i : Nat} (hG : GOK G) (hi : gw G i ≠ 1) : ∀ d, genE G x M (i + d) = genE G x M i
  | 0 => rfl
  | d + 1 => by
    show (if gw G (i + d) = 1 then _ else genE G x M (i + d)) = _
    have h1 : gw G (i + d) ≠ 1 := by
      intro q
      by_cases hd : i + d < gn G
      · have a1 := hG.2.2.2.1 i (i + d) (by omega) hd
        have a2 := (hG.2.2.1 i (by omega)).1
        omega
      · have := hG.2.2.2.2.1 (i + d) (by omega)
        omega
    rw [if_neg h1]
    exact genE_stop hG hi d
theorem hE_full {x : Nat → Int} {M : List (Nat → Int)} (h : 1000 < M.length) : ∀ g, hE G x M g = M
  | 0 => rfl
  | g + 1 => by
    show (if gw G (g / 2) = 1 then addE G (hE G x M g) _ else hE G x M g) = M
    rw [hE_full h g, addE_full h]
    split <;> rfl
theorem hE_over {x : Nat → Int} {M : List (Nat → Int)} {g : Nat} (h : 1000 < (hE G x M g).length) : ∀ d, hE G x M (g + d) = hE G x M g
  | 0 => rfl
  | d + 1 => by
    show (if gw G ((g + d) / 2) = 1 then addE G (hE G x M (g + d)) _ else hE G x M (g + d)) = _
    rw [hE_over h d, addE_full h]
    split <;> rfl
theorem hE_pre {x : Nat → Int} {M : List (Nat → Int)} : ∀ g, ∃ T, hE G x M g = M ++ T
  | 0 => ⟨[], (List.append_nil _).symm⟩
  | g + 1 => by
    show ∃ T, (if gw G (g / 2) = 1 then addE G (hE G x M g) _ else hE G x M g) = M ++ T
    split
    · exact pre_trans (hE_pre g) addE_pre
    · exact hE_pre g
theorem hE_len {x : Nat → Int} {M : List (Nat → Int)} (h : M.length ≤ 1001) : ∀ g, (hE G x M g).length ≤ 1001
  | 0 => h
  | g + 1 => by
    show (if gw G (g / 2) = 1 then addE G (hE G x M g) _ else hE G x M g).length ≤ 1001
    split
    · exact addE_len (hE_len h g)
    · exact hE_len h g
theorem hE_far {x : Nat → Int} {M : List (Nat → Int)} (h : Far G M) : ∀ g, Far G (hE G x M g)
  | 0 => h
  | g + 1 => by
    show Far G (if gw G (g / 2) = 1 then addE G (hE G x M g) _ else hE G x M g)
    split
    · exact addE_far (hE_far h g)
    · exact hE_far h g
theorem TL_pb (hG : GOK G) {B : Int} {x : Nat → Int} {i : Nat} {y : Int} (hi : i < gn G) (hx : PB G B x) (hy : -1 ≤ y ∧ y ≤ 1) : PB G (B + 1) (TL G x i y) := by
  refine ⟨fun j hj hw => ?_, fun k hk => ?_⟩
  · have := hx.1 j hj hw
    rw [TL_one hG hi (by omega)]
    split <;> omega
  · have h1 : addL G x i y k = 0 := by
      unfold addL
      have t0 : ∀ j l, tI G j l k = 0 := fun j l => Classical.byContradiction (fun q => by have := (tI_ne hG q).2.2.1; omega)
      have d0 : ∀ j l q, DD G k j l q = 0 := fun j l q => DD_0 hG (fun z => by
        have hw := z.2.2.2.2.1
        have := hG.2.2.2.2.1 k hk
        omega)
      simp [t0, d0, sm_zero]
    rw [TL_eq hG hi, h1, hx.2 k hk, if_neg (by omega)]
    rfl
theorem hE_pb (hG : GOK G) {B : Int} {x : Nat → Int} {M : List (Nat → Int)} (hx : PB G B x) (h : ∀ y, y ∈ M → PB G (B + 1) y) : ∀ g, g ≤ 2 * gn G → ∀ y, y ∈ hE G x M g → PB G (B + 1) y
  | 0, _ => h
  | g + 1, hg => by
    show ∀ y, y ∈ (if gw G (g / 2) = 1 then addE G (hE G x M g) _ else hE G x M g) → PB G (B + 1) y
    split
    · refine addE_all (hE_pb hG hx h g (by omega)) (TL_pb hG (by omega) hx ?_)
      split <;> omega
    · exact hE_pb hG hx h g (by omega)
theorem growE_h {M : List (Nat → Int)} {s k : Nat} : growE G M s (k + 1) = hE G (M.getD (s + k) O) (growE G M s k) (2 * gn G) := by
  rw [hE_gen]; rfl
theorem growE_pre {M : List (Nat → Int)} {s : Nat} : ∀ k, ∃ T, growE G M s k = M ++ T
  | 0 => ⟨[], (List.append_nil _).symm⟩
  | k + 1 => by rw [growE_h]; exact pre_trans (growE_pre k) (hE_pre _)
theorem growE_len {M : List (Nat → Int)} {s : Nat} (h : M.length ≤ 1001) : ∀ k, (growE G M s k).length ≤ 1001
  | 0 => h
  | k + 1 => by rw [growE_h]; exact hE_len (growE_len h k) _
theorem growE_far {M : List (Nat → Int)} {s : Nat} (h : Far G M) : ∀ k, Far G (growE G M s k)
  | 0 => h
  | k + 1 => by rw [growE_h]; exact hE_far (growE_far h k) _
theorem growE_over {M : List (Nat → Int)} {s k : Nat} (h : 1000 < (growE G M s k).length) : ∀ d, growE G M s (k + d) = growE G M s k
  | 0 => rfl
  | d + 1 => by
    rw [← Nat.add_assoc, growE_h, growE_over h d, hE_full h]
theorem PB_O {B : Int} (hB : 0 ≤ B) : PB G B O := ⟨fun _ _ _ => ⟨by show -B ≤ 0; omega, hB⟩, fun _ _ => rfl⟩
theorem PB.mono {B C : Int} {x : Nat → Int} (h : PB G B x) (hC : B ≤ C) : PB G C x := ⟨fun j h1 h2 => by have := h.1 j h1 h2; omega, h.2⟩
theorem getD_pb {B : Int} {M : List (Nat → Int)} (hB : 0 ≤ B) (h : ∀ y, y ∈ M → PB G B y) (q : Nat) : PB G B (M.getD q O) := by
  rw [List.getD_eq_getElem?_getD]
  cases hq : M[q]? with
  | none => exact PB_O hB
  | some y => exact h y (List.mem_of_getElem? hq)
theorem growE_pb (hG : GOK G) {B : Int} {M : List (Nat → Int)} {s : Nat} (hB : 0 ≤ B) (h : ∀ y, y ∈ M → PB G B y) : ∀ k y, y ∈ growE G M s k → PB G (B + 1) y
  | 0, y, hy => (h y hy).mono (by omega)
  | k + 1, y, hy => by
    rw [growE_h] at hy
    exact hE_pb hG (getD_pb hB h _) (growE_pb hG hB h k) _ (Nat.le_refl _) y hy
theorem lvl_facts (hG : GOK G) : ∀ l, (lvl G l).1 ≤ (lvl G l).2.length ∧ (lvl G l).2.length ≤ 1001 ∧ 1 ≤ (lvl G l).2.length ∧ Far G (lvl G l).2 ∧ (∀ y, y ∈ (lvl G l).2 → PB G l y)
  | 0 => ⟨Nat.zero_le _, by show [O].length ≤ 1001; decide, by show 1 ≤ [O].length; decide, List.pairwise_singleton _ _, fun y hy => by
      have : y = O := List.mem_singleton.mp hy
      rw [this]; exact PB_O (by omega)⟩
  | l + 1 => by
    obtain ⟨h1, h2, h3, h4, h5⟩ := lvl_facts hG l
    have hp := growE_pre (G := G) (M := (lvl G l).2) (s := (lvl G l).1) ((lvl G l).2.length - (lvl G l).1)
    refine ⟨pre_len hp, growE_len h2 _, Nat.le_trans h3 (pre_len hp), growE_far h4 _, fun y hy => ?_⟩
    have := growE_pb hG (B := l) (by omega) h5 _ y hy
    rw [show ((l + 1 : Nat) : Int) = (l : Int) + 1 by omega]
    exact this
theorem lvl_over {l : Nat} (h : 1000 < (lvl G l).2.length) : ∀ d, (lvl G (l + d)).2 = (lvl G l).2
  | 0 => rfl
  | d + 1 => by
    show growE G (lvl G (l + d)).2 (lvl G (l + d)).1 ((lvl G (l + d)).2.length - (lvl G (l + d)).1) = _
    rw [lvl_over h d]
    have := growE_over (G := G) (M := (lvl G l).2) (s := (lvl G (l + d)).1) (k := 0) h ((lvl G l).2.length - (lvl G (l + d)).1)
    rw [Nat.zero_add] at this
    exact this
theorem lvl_pre : ∀ d l, ∃ T, (lvl G (l + d)).2 = (lvl G l).2 ++ T
  | 0, l => ⟨[], (List.append_nil _).symm⟩
  | d + 1, l => pre_trans (lvl_pre d l) (growE_pre _)
/-- where a row is met -/
def fnd (G : GD) (M : List (Nat → Int)) (x : Nat → Int) : Nat := M.findIdx (fun y => areS G y x)
theorem fnd_any {M : List (Nat → Int)} {x : Nat → Int} : fnd G M x < M.length ↔ M.any (fun y => areS G y x) = true := by
  unfold fnd
  rw [List.findIdx_lt_length, List.any_eq_true]
theorem fnd_le {M : List (Nat → Int)} {x : Nat → Int} : fnd G M x ≤ M.length := List.findIdx_le_length
theorem fnd_hit {M : List (Nat → Int)} {x : Nat → Int} (h : fnd G M x < M.length) : ∃ y, M[fnd G M x]? = some y ∧ areS G y x = true := by
  have h2 : M.findIdx (fun y => areS G y x) < M.length := h
  refine ⟨M[M.findIdx (fun y => areS G y x)], List.getElem?_eq_getElem h2, ?_⟩
  exact List.findIdx_getElem (p := fun y => areS G y x) (w := h2)
theorem areS_trans {A B C : Nat → Int} (h : areS G A B = true) (k : areS G B C = true) : areS G A C = true := by
  rw [areS_iff] at h k ⊢
  exact fun i hi => (h i hi).trans (k i hi)
theorem far_uniq {M : List (Nat → Int)} {x y z : Nat → Int} {p q : Nat} (h : Far G M) (hp : M[p]? = some y) (hq : M[q]? = some z) (hy : areS G y x = true) (hz : areS G z x = true) : p = q := by
  have hyz := areS_trans hy (areS_comm.mp hz)
  have hzy := areS_trans hz (areS_comm.mp hy)
  have hpl := (List.getElem?_eq_some_iff.mp hp)
  have hql := (List.getElem?_eq_some_iff.mp hq)
  obtain ⟨p1, p2⟩ := hpl
  obtain ⟨q1, q2⟩ := hql
  have key := List.pairwise_iff_getElem.mp h
  rcases Nat.lt_trichotomy p q with c | c | c
  · have := key p q p1 q1 c
    rw [p2, q2, hyz] at this
    cases this
  · exact c
  · have := key q p q1 p1 c
    rw [p2, q2, hzy] at this
    cases this
theorem fnd_eq {M : List (Nat → Int)} {x y : Nat → Int} {p : Nat} (h : Far G M) (hp : M[p]? = some y) (hy : areS G y x = true) : fnd G M x = p := by
  have hl : fnd G M x < M.length := fnd_any.mpr (List.any_eq_true.mpr ⟨y, List.mem_of_getElem? hp, hy⟩)
  obtain ⟨z, hz, hzx⟩ := fnd_hit hl
  exact far_uniq h hz hp hzx hy
end BLL
