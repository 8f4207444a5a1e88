section
/-! what short words make: lists -/
section BLL
variable {G : GD}
def Far (G : GD) (M : List (Nat → Int)) : Prop := M.Pairwise (fun a b => areS G a b = false)
def PB (G : GD) (B : Int) (x : Nat → Int) : Prop := SB G B x ∧ ∀ k, gn G ≤ k → x k = 0
theorem addE_full {M : List (Nat → Int)} {x : Nat → Int} (h : 1000 < M.length) : addE G M x = M := by
  unfold addE
  rw [if_neg (show ¬ M.length ≤ 1000 by omega)]
  split <;> rfl
theorem addE_pre {M : List (Nat → Int)} {x : Nat → Int} : ∃ T, addE G M x = M ++ T := by
  unfold addE
  split
  · exact ⟨[], (List.append_nil _).symm⟩
  · split
    · exact ⟨[x], rfl⟩
    · exact ⟨[], (List.append_nil _).symm⟩
theorem addE_len {M : List (Nat → Int)} {x : Nat → Int} (h : M.length ≤ 1001) : (addE G M x).length ≤ 1001 := by
  unfold addE
  split
  · exact h
  · split
    · rw [List.length_append, List.length_singleton]; omega
    · exact h
theorem addE_all {M : List (Nat → Int)} {x : Nat → Int} {P : (Nat → Int) → Prop} (h : ∀ y, y ∈ M → P y) (hx : P x) : ∀ y, y ∈ addE G M x → P y := by
  unfold addE
  split
  · exact h
  · split
    · intro y hy
      rw [List.mem_append, List.mem_singleton] at hy
      rcases hy with hy | hy
      · exact h y hy
      · rw [hy]; exact hx
    · exact h
theorem addE_far {M : List (Nat → Int)} {x : Nat → Int} (h : Far G M) : Far G (addE G M x) := by
  unfold addE
  split
  · exact h
  · rename_i hn
    split
    · unfold Far
      rw [List.pairwise_append]
      refine ⟨h, List.pairwise_singleton _ _, fun a ha b hb => ?_⟩
      rw [List.mem_singleton] at hb
      subst hb
      cases hs : areS G a b with
      | false => rfl
      | true => exact absurd (List.any_eq_true.mpr ⟨a, ha, hs⟩) hn
    · exact h
theorem pre_trans {A B C : List (Nat → Int)} (h : ∃ T, B = A ++ T) (k : ∃ T, C = B ++ T) : ∃ T, C = A ++ T := by
  obtain ⟨T, rfl⟩ := h
  obtain ⟨U, rfl⟩ := k
  exact ⟨T ++ U, List.append_assoc ..⟩
theorem pre_get {A B : List (Nat → Int)} (h : ∃ T, B = A ++ T) {q : Nat} (hq : q < A.length) : B[q]? = A[q]? := by
  obtain ⟨T, rfl⟩ := h
  exact List.getElem?_append_left hq
theorem pre_len {A B : List (Nat → Int)} (h : ∃ T, B = A ++ T) : A.length ≤ B.length := by
  obtain ⟨T, rfl⟩ := h
  rw [List.length_append]; omega
/-- letter by letter, both signs -/
def hE (G : GD) (x : Nat → Int) (M : List (Nat → Int)) : Nat → List (Nat → Int)
  | 0 => M
  | g + 1 => if gw G (g / 2) = 1 then addE G (hE G x M g) (TL G x (g / 2) (if g % 2 = 0 then 1 else -1)) else hE G x M g
theorem hE_gen {x : Nat → Int} {M : List (Nat → Int)} : ∀ i, hE G x M (2 * i) = genE G x M i
  | 0 => rfl
  | i + 1 => by
    rw [show 2 * (i + 1) = 2 * i + 1 + 1 by omega]
    show (if gw G ((2 * i + 1) / 2) = 1 then addE G (if gw G ((2 * i) / 2) = 1 then addE G (hE G x M (2 * i)) (TL G x ((2 * i) / 2) (if (2 * i) % 2 = 0 then 1 else -1)) else hE G x M (2 * i)) (TL G x ((2 * i + 1) / 2) (if (2 * i + 1) % 2 = 0 then 1 else -1)) else (if gw G ((2 * i) / 2) = 1 then addE G (hE G x M (2 * i)) (TL G x ((2 * i) / 2) (if (2 * i) % 2 = 0 then 1 else -1)) else hE G x M (2 * i))) = genE G x M (i + 1)
    rw [hE_gen i, show (2 * i + 1) / 2 = i by omega, show (2 * i) / 2 = i by omega, if_pos (show (2 * i) % 2 = 0 by omega), if_neg (show ¬ (2 * i + 1) % 2 = 0 by omega)]
    show _ = (if gw G i = 1 then addE G (addE G (genE G x M i) (TL G x i 1)) (TL G x i (-1)) else genE G x M i)
    split <;> rfl
theorem genE_stop {x : Nat → Int} {M : List (Nat → Int)} {i : Nat} (hG : GOK G) (hi : gw G i ≠ 1) : ∀ d, genE G x M (i + d) = genE G x M i
  | 0 => rfl
  | d + 1 => by
    show (if gw G (i + d) = 1 then _ else genE G x M (i + d)) = _
    have h1 : gw G (i + d) ≠ 1 := by
      intro q
      by_cases hd : i + d < gn G
      · have a1 := hG.2.2.2.1 i (i + d) (by omega) hd
        have a2 := (hG.2.2.1 i (by omega)).1
        omega
      · have := hG.2.2.2.2.1 (i + d) (by omega)
        omega
    rw [if_neg h1]
    exact genE_stop hG hi d
theorem hE_full {x : Nat → Int} {M : List (Nat → Int)} (h : 1000 < M.length) : ∀ g, hE G x M g = M
  | 0 => rfl
  | g + 1 => by
    show (if gw G (g / 2) = 1 then addE G (hE G x M g) _ else hE G x M g) = M
    rw [hE_full h g, addE_full h]
    split <;> rfl
theorem hE_over {x : Nat → Int} {M : List (Nat → Int)} {g : Nat} (h : 1000 < (hE G x M g).length) : ∀ d, hE G x M (g + d) = hE G x M g
  | 0 => rfl
  | d + 1 => by
    show (if gw G ((g + d) / 2) = 1 then addE G (hE G x M (g + d)) _ else hE G x M (g + d)) = _
    rw [hE_over h d, addE_full h]
    split <;> rfl
theorem hE_pre {x : Nat → Int} {M : List (Nat → Int)} : ∀ g, ∃ T, hE G x M g = M ++ T
  | 0 => ⟨[], (List.append_nil _).symm⟩
  | g + 1 => by
    show ∃ T, (if gw G (g / 2) = 1 then addE G (hE G x M g) _ else hE G x M g) = M ++ T
    split
    · exact pre_trans (hE_pre g) addE_pre
    · exact hE_pre g
theorem hE_len {x : Nat → Int} {M : List (Nat → Int)} (h : M.length ≤ 1001) : ∀ g, (hE G x M g).length ≤ 1001
  | 0 => h
  | g + 1 => by
    show (if gw G (g / 2) = 1 then addE G (hE G x M g) _ else hE G x M g).length ≤ 1001
    split
    · exact addE_len (hE_len h g)
    · exact hE_len h g
theorem hE_far {x : Nat → Int} {M : List (Nat → Int)} (h : Far G M) : ∀ g, Far G (hE G x M g)
  | 0 => h
  | g + 1 => by
    show Far G (if gw G (g / 2) = 1 then addE G (hE G x M g) _ else hE G x M g)
    split
    · exact addE_far (hE_far h g)
    · exact hE_far h g
theorem TL_pb (hG : GOK G) {B : Int} {x : Nat → Int} {i : Nat} {y : Int} (hi : i < gn G) (hx : PB G B x) (hy : -1 ≤ y ∧ y ≤ 1) : PB G (B + 1) (TL G x i y) := by
  refine ⟨fun j hj hw => ?_, fun k hk => ?_⟩
  · have := hx.1 j hj hw
    rw [TL_one hG hi (by omega)]
    split <;> omega
  · have h1 : addL G x i y k = 0 := by
      unfold addL
      have t0 : ∀ j l, tI G j l k = 0 := fun j l => Classical.byContradiction (fun q => by have := (tI_ne hG q).2.2.1; omega)
      have d0 : ∀ j l q, DD G k j l q = 0 := fun j l q => DD_0 hG (fun z => by
        have hw := z.2.2.2.2.1
        have := hG.2.2.2.2.1 k hk
        omega)
      simp [t0, d0, sm_zero]
    rw [TL_eq hG hi, h1, hx.2 k hk, if_neg (by omega)]
    rfl
theorem hE_pb (hG : GOK G) {B : Int} {x : Nat → Int} {M : List (Nat → Int)} (hx : PB G B x) (h : ∀ y, y ∈ M → PB G (B + 1) y) : ∀ g, g ≤ 2 * gn G → ∀ y, y ∈ hE G x M g → PB G (B + 1) y
  | 0, _ => h
  | g + 1, hg => by
    show ∀ y, y ∈ (if gw G (g / 2) = 1 then addE G (hE G x M g) _ else hE G x M g) → PB G (B + 1) y
    split
    · refine addE_all (hE_pb hG hx h g (by omega)) (TL_pb hG (by omega) hx ?_)
      split <;> omega
    · exact hE_pb hG hx h g (by omega)
theorem growE_h {M : List (Nat → Int)} {s k : Nat} : growE G M s (k + 1) = hE G (M.getD (s + k) O) (growE G M s k) (2 * gn G) := by
  rw [hE_gen]; rfl
theorem growE_pre {M : List (Nat → Int)} {s : Nat} : ∀ k, ∃ T, growE G M s k = M ++ T
  | 0 => ⟨[], (List.append_nil _).symm⟩
  | k + 1 => by rw [growE_h]; exact pre_trans (growE_pre k) (hE_pre _)
theorem growE_len {M : List (Nat → Int)} {s : Nat} (h : M.length ≤ 1001) : ∀ k, (growE G M s k).length ≤ 1001
  | 0 => h
  | k + 1 => by rw [growE_h]; exact hE_len (growE_len h k) _
theorem growE_far {M : List (Nat → Int)} {s : Nat} (h : Far G M) : ∀ k, Far G (growE G M s k)
  | 0 => h
  | k + 1 => by rw [growE_h]; exact hE_far (growE_far h k) _
theorem growE_over {M : List (Nat → Int)} {s k : Nat} (h : 1000 < (growE G M s k).length) : ∀ d, growE G M s (k + d) = growE G M s k
  | 0 => rfl
  | d + 1 => by
    rw [← Nat.add_assoc, growE_h, growE_over h d, hE_full h]
theorem PB_O {B : Int} (hB : 0 ≤ B) : PB G B O := ⟨fun _ _ _ => ⟨by show -B ≤ 0; omega, hB⟩, fun _ _ => rfl⟩
theorem PB.mono {B C : Int} {x : Nat → Int} (h : PB G B x) (hC : B ≤ C) : PB G C x := ⟨fun j h1 h2 => by have := h.1 j h1 h2; omega, h.2⟩
theorem getD_pb {B : Int} {M : List (Nat → Int)} (hB : 0 ≤ B) (h : ∀ y, y ∈ M → PB G B y) (q : Nat) : PB G B (M.getD q O) := by
  rw [List.getD_eq_getElem?_getD]
  cases hq : M[q]? with
  | none => exact PB_O hB
  | some y => exact h y (List.mem_of_getElem? hq)
theorem growE_pb (hG : GOK G) {B : Int} {M : List (Nat → Int)} {s : Nat} (hB : 0 ≤ B) (h : ∀ y, y ∈ M → PB G B y) : ∀ k y, y ∈ growE G M s k → PB G (B + 1) y
  | 0, y, hy => (h y hy).mono (by omega)
  | k + 1, y, hy => by
    rw [growE_h] at hy
    exact hE_pb hG (getD_pb hB h _) (growE_pb hG hB h k) _ (Nat.le_refl _) y hy
theorem lvl_facts (hG : GOK G) : ∀ l, (lvl G l).1 ≤ (lvl G l).2.length ∧ (lvl G l).2.length ≤ 1001 ∧ 1 ≤ (lvl G l).2.length ∧ Far G (lvl G l).2 ∧ (∀ y, y ∈ (lvl G l).2 → PB G l y)
  | 0 => ⟨Nat.zero_le _, by show [O].length ≤ 1001; decide, by show 1 ≤ [O].length; decide, List.pairwise_singleton _ _, fun y hy => by
      have : y = O := List.mem_singleton.mp hy
      rw [this]; exact PB_O (by omega)⟩
  | l + 1 => by
    obtain ⟨h1, h2, h3, h4, h5⟩ := lvl_facts hG l
    have hp := growE_pre (G := G) (M := (lvl G l).2) (s := (lvl G l).1) ((lvl G l).2.length - (lvl G l).1)
    refine ⟨pre_len hp, growE_len h2 _, Nat.le_trans h3 (pre_len hp), growE_far h4 _, fun y hy => ?_⟩
    have := growE_pb hG (B := l) (by omega) h5 _ y hy
    rw [show ((l + 1 : Nat) : Int) = (l : Int) + 1 by omega]
    exact this
theorem lvl_over {l : Nat} (h : 1000 < (lvl G l).2.length) : ∀ d, (lvl G (l + d)).2 = (lvl G l).2
  | 0 => rfl
  | d + 1 => by
    show growE G (lvl G (l + d)).2 (lvl G (l + d)).1 ((lvl G (l + d)).2.length - (lvl G (l + d)).1) = _
    rw [lvl_over h d]
    have := growE_over (G := G) (M := (lvl G l).2) (s := (lvl G (l + d)).1) (k := 0) h ((lvl G l).2.length - (lvl G (l + d)).1)
    rw [Nat.zero_add] at this
    exact this
theorem lvl_pre : ∀ d l, ∃ T, (lvl G (l + d)).2 = (lvl G l).2 ++ T
  | 0, l => ⟨[], (List.append_nil _).symm⟩
  | d + 1, l => pre_trans (lvl_pre d l) (growE_pre _)
/-- where a row is met -/
def fnd (G : GD) (M : List (Nat → Int)) (x : Nat → Int) : Nat := M.findIdx (fun y => areS G y x)
theorem fnd_any {M : List (Nat → Int)} {x : Nat → Int} : fnd G M x < M.length ↔ M.any (fun y => areS G y x) = true := by
  unfold fnd
  rw [List.findIdx_lt_length, List.any_eq_true]
theorem fnd_le {M : List (Nat → Int)} {x : Nat → Int} : fnd G M x ≤ M.length := List.findIdx_le_length
theorem fnd_hit {M : List (Nat → Int)} {x : Nat → Int} (h : fnd G M x < M.length) : ∃ y, M[fnd G M x]? = some y ∧ areS G y x = true := by
  have h2 : M.findIdx (fun y => areS G y x) < M.length := h
  refine ⟨M[M.findIdx (fun y => areS G y x)], List.getElem?_eq_getElem h2, ?_⟩
  exact List.findIdx_getElem (p := fun y => areS G y x) (w := h2)
theorem areS_trans {A B C : Nat → Int} (h : areS G A B = true) (k : areS G B C = true) : areS G A C = true := by
  rw [areS_iff] at h k ⊢
  exact fun i hi => (h i hi).trans (k i hi)
theorem far_uniq {M : List (Nat → Int)} {x y z : Nat → Int} {p q : Nat} (h : Far G M) (hp : M[p]? = some y) (hq : M[q]? = some z) (hy : areS G y x = true) (hz : areS G z x = true) : p = q := by
  have hyz := areS_trans hy (areS_comm.mp hz)
  have hzy := areS_trans hz (areS_comm.mp hy)
  have hpl := (List.getElem?_eq_some_iff.mp hp)
  have hql := (List.getElem?_eq_some_iff.mp hq)
  obtain ⟨p1, p2⟩ := hpl
  obtain ⟨q1, q2⟩ := hql
  have key := List.pairwise_iff_getElem.mp h
  rcases Nat.lt_trichotomy p q with c | c | c
  · have := key p q p1 q1 c
    rw [p2, q2, hyz] at this
    cases this
  · exact c
  · have := key q p q1 p1 c
    rw [p2, q2, hzy] at this
    cases this
theorem fnd_eq {M : List (Nat → Int)} {x y : Nat → Int} {p : Nat} (h : Far G M) (hp : M[p]? = some y) (hy : areS G y x = true) : fnd G M x = p := by
  have hl : fnd G M x < M.length := fnd_any.mpr (List.any_eq_true.mpr ⟨y, List.mem_of_getElem? hp, hy⟩)
  obtain ⟨z, hz, hzx⟩ := fnd_hit hl
  exact far_uniq h hz hp hzx hy
end BLL
end
section
/-! the class's balls -/
section CBA
variable {σ : Mem} {G : GD}
def Zb (G : GD) (x : Nat → Int) : Prop := ∀ k, gn G ≤ k → x k = 0
def CBl (σ : Mem) (M : List (Nat → Int)) : Prop := σ.1 128 6 = i32 M.length ∧ (∀ (q : Nat) (x : Nat → Int), M[q]? = some x → ∀ k, k < 6 → σ.2 130 (6 * q + k) = oi (x k)) ∧ HT (σ.1 131) M
theorem same6 {x y : Nat → Int} (hn : gn G ≤ 6) (hx : Zb G x) (hy : Zb G y) : areS G y x = true ↔ ∀ k, k < 6 → oi (y k) = oi (x k) := by
  rw [areS_iff]
  refine ⟨fun h k _ => ?_, fun h k hk => h k (by omega)⟩
  by_cases hk : k < gn G
  · exact h k hk
  · rw [hx k (by omega), hy k (by omega)]
theorem mxE_congr {x y : Nat → Int} : ∀ n, (∀ k, k < n → oi (y k) = oi (x k)) → mxE y n = mxE x n
  | 0, _ => rfl
  | n + 1, h => by
    show mxE y n * 31 + oi (y n) = mxE x n * 31 + oi (x n)
    rw [mxE_congr n (fun k hk => h k (by omega)), h n (by omega)]
theorem hsE_congr {x y : Nat → Int} (h : ∀ k, k < 6 → oi (y k) = oi (x k)) : hsE y = hsE x := by
  unfold hsE
  rw [mxE_congr 6 h]
theorem and4095 (y : Int32) : y &&& 4095 = i32 ((y &&& 4095).toNatClampNeg) ∧ (y &&& 4095).toNatClampNeg < 4096 := by
  have h := i_andmask y.toBitVec.toNat 12
  rw [← i32_ofbv] at h
  have h2 : y &&& 4095 = i32 (y.toBitVec.toNat % 4096) := h
  have h3 : y.toBitVec.toNat % 4096 < 4096 := Nat.mod_lt _ (by omega)
  rw [h2, i32_cl (by omega)]
  exact ⟨rfl, h3⟩
theorem hsE_lt (x : Nat → Int) : hsE x < 4096 := (and4095 _).2
theorem c_mix {a : Nat} {x : Nat → Int} (ha : ln a = 6) (hA : H6 σ a x) : loopO (fun (z10 : (Int64 × Int32)) => l_X1_slotOf_5 σ a z10.1 z10.2) (0, 0) = some (mxE x 6) := by
  refine loop_up (body := fun (z10 : (Int64 × Int32)) => l_X1_slotOf_5 σ a z10.1 z10.2) (fun k => (mxE x k, i32 k)) 0 6 _ (by omega) (fun k _ hk => ?_) ?_
  · show l_X1_slotOf_5 σ a (mxE x k) (i32 k) = _
    unfold l_X1_slotOf_5
    rw [i32_6, if_neg (i_nle hk (by omega)), e_gL ha hk (by omega), e_bd, hA k hk, i32_1, i32_add]
    rfl
  · show l_X1_slotOf_5 σ a (mxE x 6) (i32 6) = _
    unfold l_X1_slotOf_5
    rw [i32_6, if_pos (i_le (Nat.le_refl _) (by omega))]
theorem c_isAt {a q : Nat} {x y : Nat → Int} (hn : gn G ≤ 6) (ha : ln a = 6) (hA : H6 σ a x) (hq : q < 1001) (hy : ∀ k, k < 6 → σ.2 130 (6 * q + k) = oi (y k)) (zx : Zb G x) (zy : Zb G y) : f_X1_isAt σ (i32 q) a = some (areS G y x) := by
  unfold f_X1_isAt
  refine loop_all 6 (fun k => oi (y k) = oi (x k)) (fun k => inferInstance) (fun k hk => ?_) ?_ _ (same6 hn zx zy)
  · show l_X1_isAt_2 _ _ _ _ = _
    unfold l_X1_isAt_2
    rw [show i32 q * 6 = i32 (6 * q) from by rw [i32_6, i32_mul, Nat.mul_comm], i32_6, if_neg (i_nle hk (by omega)), i32_add, e_gL ln_130 (by omega) (by omega), e_gL ha hk (by omega), hA k hk, hy k hk, i32_1, i32_add]
    split <;> rfl
  · show l_X1_isAt_2 _ _ _ _ = _
    unfold l_X1_isAt_2
    rw [i32_6, if_pos (i_le (Nat.le_refl _) (by omega))]
theorem nzS_full {t : Nat → Nat} : ∀ n, (∀ p, p < n → t p ≠ 0) → nzS t n = n
  | 0, _ => rfl
  | n + 1, h => by
    show nzS t n + (if t n = 0 then 0 else 1) = n + 1
    rw [nzS_full n (fun p hp => h p (by omega)), if_neg (h n (by omega))]
theorem nzS_zero {t : Nat → Nat} : ∀ n, (∀ p, p < n → t p = 0) → nzS t n = 0
  | 0, _ => rfl
  | n + 1, h => by
    show nzS t n + (if t n = 0 then 0 else 1) = 0
    rw [nzS_zero n (fun p hp => h p (by omega)), if_pos (h n (by omega))]
theorem nzS_up {t : Nat → Nat} {p v : Nat} (h0 : t p = 0) (hv : v ≠ 0) : ∀ n, nzS (fun k => if k = p then v else t k) n = nzS t n + if p < n then 1 else 0
  | 0 => by rw [if_neg (Nat.not_lt_zero _)]; rfl
  | n + 1 => by
    show nzS _ n + (if (if n = p then v else t n) = 0 then 0 else 1) = nzS t n + (if t n = 0 then 0 else 1) + if p < n + 1 then 1 else 0
    rw [nzS_up h0 hv n]
    by_cases hp : n = p
    · subst hp
      rw [if_pos rfl, if_neg hv, h0, if_pos rfl, if_neg (Nat.lt_irrefl _), if_pos (Nat.lt_succ_self _)]
    · rw [if_neg hp]
      by_cases hpn : p < n
      · rw [if_pos hpn, if_pos (show p < n + 1 by omega)]; omega
      · rw [if_neg hpn, if_neg (show ¬ p < n + 1 by omega)]; omega
theorem around {h p : Nat} (hh : h < 4096) (hp : p < 4096) : ∃ e, e < 4096 ∧ (h + e) % 4096 = p := ⟨(p + 4096 - h) % 4096, by omega, by omega⟩
theorem c_slotOf {a : Nat} {x : Nat → Int} {M : List (Nat → Int)} (hn : gn G ≤ 6) (ha : ln a = 6) (hA : H6 σ a x) (hM : CBl σ M) (hl : M.length ≤ 1001) (hF : Far G M) (zM : ∀ y, y ∈ M → Zb G y) (zx : Zb G x) : ∃ p, p < 4096 ∧ f_X1_slotOf σ a = some (i32 p) ∧ ((∃ q, fnd G M x = q ∧ q < M.length ∧ σ.1 131 p = i32 (q + 1)) ∨ (fnd G M x = M.length ∧ σ.1 131 p = 0 ∧ ∃ d, d < 4096 ∧ p = (hsE x + d) % 4096 ∧ ∀ e, e < d → σ.1 131 ((hsE x + e) % 4096) ≠ 0)) := by
  obtain ⟨hm1, hm2, t, ht1, ht2, ht3⟩ := hM
  have hh := hsE_lt x
  unfold f_X1_slotOf
  rw [c_mix ha hA, e_bs]
  unfold j_X1_slotOf_29
  have h0 : (mxE x 6).toInt32 &&& 4095 = i32 (hsE x) := (and4095 _).1
  rw [e_bd, h0]
  have hl := loop_inv (body := fun (z4 : (Int32 × Int32)) => l_X1_slotOf_40 σ a z4.1 z4.2) (fun n z => ∃ d, d ≤ 4096 ∧ n = 4096 - d ∧ z = (i32 ((hsE x + d) % 4096), i32 d) ∧ ∀ e, e < d → t ((hsE x + e) % 4096) ≠ 0 ∧ ∀ y, M[t ((hsE x + e) % 4096) - 1]? = some y → areS G y x = false) (fun r => ∃ p, p < 4096 ∧ r = i32 p ∧ ((∃ q, fnd G M x = q ∧ q < M.length ∧ σ.1 131 p = i32 (q + 1)) ∨ (fnd G M x = M.length ∧ σ.1 131 p = 0 ∧ ∃ d, d < 4096 ∧ p = (hsE x + d) % 4096 ∧ ∀ e, e < d → σ.1 131 ((hsE x + e) % 4096) ≠ 0))) ?_ 4096 (i32 (hsE x), 0) ⟨0, by omega, rfl, by rw [Nat.add_zero, Nat.mod_eq_of_lt hh]; rfl, fun e he => absurd he (Nat.not_lt_zero _)⟩
  · obtain ⟨r, e, p, hp, rfl, hc⟩ := hl
    exact ⟨p, hp, e, hc⟩
  · rintro n z ⟨d, hd, rfl, rfl, hinv⟩
    have hd4 : d < 4096 := by
      refine Classical.byContradiction (fun q => ?_)
      have : nzS t 4096 = 4096 := nzS_full 4096 (fun p hp => by
        obtain ⟨e, he, rfl⟩ := around hh hp
        exact (hinv e (by omega)).1)
      rw [ht2] at this
      omega
    have hp : (hsE x + d) % 4096 < 4096 := Nat.mod_lt _ (by omega)
    have hs := ht1 _ hp
    have hbody : l_X1_slotOf_40 σ a (i32 ((hsE x + d) % 4096)) (i32 d) = if i32 (t ((hsE x + d) % 4096)) = 0 then some (Sum.inr (i32 ((hsE x + d) % 4096))) else ((f_X1_isAt σ (i32 (t ((hsE x + d) % 4096)) - 1) a).bind (fun (b7 : Bool) => if b7 then some (Sum.inr (i32 ((hsE x + d) % 4096))) else bd ((i32 ((hsE x + d) % 4096) + 1) &&& 4095) (fun (v8 : Int32) => some (Sum.inl (v8, i32 d + 1))))) := by
      unfold l_X1_slotOf_40
      rw [show (4096 : Int32) = i32 4096 from rfl, if_neg (i_nle hd4 (by omega)), e_gI ln_131 hp (by omega), e_gI ln_131 hp (by omega), hs.1]
    by_cases ht0 : t ((hsE x + d) % 4096) = 0
    · right
      refine ⟨i32 ((hsE x + d) % 4096), ?_, _, hp, rfl, Or.inr ⟨?_, by rw [hs.1, ht0]; rfl, d, hd4, rfl, fun e he => ?_⟩⟩
      · show l_X1_slotOf_40 σ a _ _ = _
        rw [hbody, ht0, if_pos (show i32 0 = 0 from rfl)]
      · have hle := fnd_le (G := G) (M := M) (x := x)
        refine Classical.byContradiction (fun q => ?_)
        obtain ⟨y, hy, hyx⟩ := fnd_hit (G := G) (M := M) (x := x) (by omega)
        obtain ⟨d', hd', e1, e2⟩ := ht3 _ y hy
        have hsy : hsE y = hsE x := hsE_congr ((same6 hn zx (zM y (List.mem_of_getElem? hy))).mp hyx)
        rw [hsy] at e1 e2
        rcases Nat.lt_trichotomy d' d with c | c | c
        · have := (hinv d' c).2 y (by rw [e1, Nat.add_sub_cancel]; exact hy)
          rw [hyx] at this
          cases this
        · subst c; omega
        · exact absurd ht0 (e2 d c)
      · have := ht1 ((hsE x + e) % 4096) (Nat.mod_lt _ (by omega))
        rw [this.1]
        exact i_ne0 (hinv e he).1 (by omega)
    · have hq : t ((hsE x + d) % 4096) - 1 < M.length := by omega
      have hget : M[t ((hsE x + d) % 4096) - 1]? = some M[t ((hsE x + d) % 4096) - 1] := List.getElem?_eq_getElem hq
      have hat := c_isAt (σ := σ) (G := G) (a := a) (q := t ((hsE x + d) % 4096) - 1) hn ha hA (by omega) (hm2 _ _ hget) zx (zM _ (List.getElem_mem hq))
      rw [i32_1, i32_sub (by omega), if_neg (i_ne0 ht0 (by omega)), hat, e_bs] at hbody
      cases hb : areS G M[t ((hsE x + d) % 4096) - 1] x with
      | true =>
        right
        refine ⟨i32 ((hsE x + d) % 4096), ?_, _, hp, rfl, Or.inl ⟨_, fnd_eq hF hget hb, hq, ?_⟩⟩
        · show l_X1_slotOf_40 σ a _ _ = _
          rw [hbody, hb, if_pos rfl]
        · rw [hs.1, show t ((hsE x + d) % 4096) - 1 + 1 = t ((hsE x + d) % 4096) by omega]
      | false =>
        left
        refine ⟨(i32 ((hsE x + (d + 1)) % 4096), i32 (d + 1)), 4096 - (d + 1), by omega, ?_, d + 1, by omega, rfl, rfl, fun e he => ?_⟩
        · show l_X1_slotOf_40 σ a _ _ = _
          rw [hbody, hb, if_neg (by decide), e_bd, i32_add, show (4095 : Int32) = i32 (2 ^ 12 - 1) from rfl, i_andmask, i32_add]
          have : ((hsE x + d) % 4096 + 1) % 2 ^ 12 = (hsE x + (d + 1)) % 4096 := by omega
          rw [this]
        · by_cases hed : e = d
          · subst hed
            refine ⟨ht0, fun y hy => ?_⟩
            rw [hget] at hy
            rw [← Option.some.inj hy]
            exact hb
          · exact hinv e (by omega)
/-- what the balls' finding changes -/
def FBa (σ τ : Mem) : Prop := (∀ x, x ≠ 128 → x ≠ 131 → τ.1 x = σ.1 x) ∧ (∀ c, c ≠ 6 → τ.1 128 c = σ.1 128 c) ∧ ∀ x, x ≠ 73 → x ≠ 130 → x ≠ 132 → x ≠ 133 → x ≠ 134 → τ.2 x = σ.2 x
theorem FBa.refl : FBa σ σ := ⟨fun _ _ _ => rfl, fun _ _ => rfl, fun _ _ _ _ _ _ => rfl⟩
theorem FBa.trans {τ υ : Mem} (h : FBa σ τ) (k : FBa τ υ) : FBa σ υ := ⟨fun x h1 h2 => (k.1 x h1 h2).trans (h.1 x h1 h2), fun c hc => (k.2.1 c hc).trans (h.2.1 c hc), fun x h1 h2 h3 h4 h5 => (k.2.2 x h1 h2 h3 h4 h5).trans (h.2.2 x h1 h2 h3 h4 h5)⟩
theorem OL.fba {P : Nat → Prop} {τ : Mem} (h : OL P σ τ) (hP : ∀ x, P x → x = 73 ∨ x = 132 ∨ x = 133 ∨ x = 134) : FBa σ τ := ⟨fun x _ _ => by rw [h.1], fun c _ => by rw [h.1], fun x h1 h2 h3 h4 h5 => h.2 x (fun q => by have := hP x q; omega)⟩
theorem CBl.ol {P : Nat → Prop} {τ : Mem} {M : List (Nat → Int)} (hM : CBl σ M) (h : OL P σ τ) (hP : ¬ P 130) : CBl τ M := by
  unfold CBl
  rw [h.1, h.2 130 hP]
  exact hM
theorem cpL_to {a b sp dp x y : Nat} : (cpL σ a b sp dp 6).2 x y = if x = b ∧ dp ≤ y ∧ y < dp + 6 then σ.2 a (sp + (y - dp)) else σ.2 x y := by
  show (if x = b then va_cpy (σ.2 a) (σ.2 b) sp dp 6 y else σ.2 x y) = _
  by_cases h1 : x = b
  · rw [if_pos h1]
    unfold va_cpy
    by_cases h2 : dp ≤ y ∧ y < dp + 6
    · rw [if_pos h2, if_pos ⟨h1, h2⟩]
    · rw [if_neg h2, if_neg (fun z => h2 z.2), h1]
  · rw [if_neg h1, if_neg (fun z => h1 z.1)]
theorem e_cLto {α : Type} {a b sp dp : Nat} {f : Mem → Option α} (hs : sp + 6 ≤ ln a) (hd : dp + 6 ≤ ln b) (h1 : sp < 2 ^ 31) (h2 : dp < 2 ^ 31) : cL σ a (i32 sp) b (i32 dp) 6 f = f (cpL σ a b sp dp 6) := by
  unfold cL
  have h6 : (6 : Int32).toNatClampNeg = 6 := rfl
  have n0 : ∀ k, k < 2 ^ 31 → ¬ i32 k < 0 := fun k hk => i_nlt (b := 0) (Nat.zero_le _) hk
  rw [h6, i32_cl h1, i32_cl h2, if_pos ⟨⟨n0 sp h1, n0 dp h2, by decide⟩, hs, hd⟩]
theorem c_keepMade {x : Nat → Int} {M : List (Nat → Int)} (hn : gn G ≤ 6) (hA : H6 σ 134 x) (hM : CBl σ M) (hl : M.length ≤ 1001) (hF : Far G M) (zM : ∀ y, y ∈ M → Zb G y) (zx : Zb G x) : ∃ τ, f_X1_keepMade σ = some τ ∧ CBl τ (addE G M x) ∧ FBa σ τ ∧ τ.2 132 = σ.2 132 := by
  obtain ⟨p, hp, e1, hc⟩ := c_slotOf hn ln_134 hA hM hl hF zM zx
  unfold f_X1_keepMade
  rw [e1, e_bs, e_gI ln_131 hp (by omega)]
  rcases hc with ⟨q, hq, hql, hs⟩ | ⟨hq, hs, d, hd, hpd, hbe⟩
  · rw [hs, if_neg (i_ne0 (by omega) (by omega))]
    refine ⟨σ, rfl, ?_, FBa.refl, rfl⟩
    have : M.any (fun y => areS G y x) = true := fnd_any.mp (by omega)
    unfold addE
    rw [if_pos this]
    exact hM
  · have hany : ¬ M.any (fun y => areS G y x) = true := fun z => by
      have := fnd_any.mpr z
      omega
    rw [hs, if_pos rfl, e_gF, hM.1, show (1000 : Int32) = i32 1000 from rfl]
    by_cases hlen : M.length ≤ 1000
    · have h6 : i32 M.length * 6 = i32 (6 * M.length) := by rw [i32_6, i32_mul, Nat.mul_comm]
      rw [if_neg (i_nlt (by omega) (by omega)), e_gF, hM.1, h6, i32_0, e_cLto (by rw [ln_134]; omega) (by rw [ln_130]; omega) (by omega) (by omega), e_gF]
      have g6 : (cpL σ 134 130 0 (6 * M.length) 6).1 128 6 = i32 M.length := hM.1
      rw [g6, i32_1, i32_add, e_pF, e_gF, wI_1, if_pos ⟨rfl, rfl⟩, e_pI ln_131 hp (by omega)]
      refine ⟨_, rfl, ⟨?_, fun q y hq k hk => ?_, ?_⟩, ⟨fun z h1 h2 => ?_, fun c hc => ?_, fun z _ h2 _ _ _ => ?_⟩, ?_⟩
      · unfold addE
        rw [if_neg hany, if_pos hlen, List.length_append, List.length_singleton, wI_1, if_neg (by omega), wI_1, if_pos ⟨rfl, rfl⟩]
      · unfold addE at hq
        rw [if_neg hany, if_pos hlen] at hq
        show (cpL σ 134 130 0 (6 * M.length) 6).2 130 (6 * q + k) = _
        rw [cpL_to]
        by_cases hqm : q < M.length
        · rw [List.getElem?_append_left hqm] at hq
          rw [if_neg (by omega)]
          exact hM.2.1 q y hq k hk
        · rw [List.getElem?_append_right (by omega)] at hq
          have hq2 := (List.getElem?_eq_some_iff.mp hq)
          obtain ⟨hq3, hq4⟩ := hq2
          have hqe : q = M.length := by
            rw [List.length_singleton] at hq3
            omega
          subst hqe
          rw [if_pos ⟨rfl, by omega, by omega⟩, show 0 + (6 * M.length + k - 6 * M.length) = k by omega]
          have hyx : y = x := by
            rw [Nat.sub_self] at hq
            exact (Option.some.inj hq).symm
          rw [hyx]
          exact hA k hk
      · obtain ⟨t, ht1, ht2, ht3⟩ := hM.2.2
        have htp : t p = 0 := by
          have := (ht1 p hp).1
          rw [hs] at this
          have h3 := (ht1 p hp).2
          exact Classical.byContradiction (fun z => i_ne0 z (show t p < 2 ^ 31 by omega) this.symm)
        have hadd : addE G M x = M ++ [x] := by
          unfold addE
          rw [if_neg hany, if_pos hlen]
        rw [hadd]
        refine ⟨fun k => if k = p then M.length + 1 else t k, fun k hk => ?_, ?_, fun q y hq => ?_⟩
        · show (wI (wI (cpL σ 134 130 0 (6 * M.length) 6) 128 6 (i32 (M.length + 1))) 131 p (i32 (M.length + 1))).1 131 k = i32 (if k = p then M.length + 1 else t k) ∧ (if k = p then M.length + 1 else t k) ≤ (M ++ [x]).length
          rw [wI_1, List.length_append, List.length_singleton]
          by_cases hkp : k = p
          · rw [if_pos ⟨rfl, hkp⟩, if_pos hkp]
            exact ⟨rfl, Nat.le_refl _⟩
          · rw [if_neg (fun z => hkp z.2), if_neg hkp, wI_1, if_neg (by omega)]
            have := ht1 k hk
            exact ⟨this.1, by omega⟩
        · rw [nzS_up htp (by omega), ht2, if_pos hp, List.length_append, List.length_singleton]
        · by_cases hqm : q < M.length
          · rw [List.getElem?_append_left hqm] at hq
            obtain ⟨d', hd', e1, e2⟩ := ht3 q y hq
            refine ⟨d', hd', ?_, fun e he => ?_⟩
            · show (if (hsE y + d') % 4096 = p then M.length + 1 else t ((hsE y + d') % 4096)) = q + 1
              rw [if_neg (fun z => by rw [z] at e1; omega)]
              exact e1
            · show (if (hsE y + e) % 4096 = p then M.length + 1 else t ((hsE y + e) % 4096)) ≠ 0
              split
              · omega
              · exact e2 e he
          · rw [List.getElem?_append_right (by omega)] at hq
            obtain ⟨hq3, hq4⟩ := (List.getElem?_eq_some_iff.mp hq)
            rw [List.length_singleton] at hq3
            have hqe : q = M.length := by omega
            subst hqe
            have hyx : y = x := by
              rw [Nat.sub_self] at hq
              exact (Option.some.inj hq).symm
            subst hyx
            refine ⟨d, hd, ?_, fun e he => ?_⟩
            · show (if (hsE y + d) % 4096 = p then M.length + 1 else t ((hsE y + d) % 4096)) = _
              rw [if_pos hpd.symm]
            · show (if (hsE y + e) % 4096 = p then M.length + 1 else t ((hsE y + e) % 4096)) ≠ 0
              split
              · omega
              · intro z
                have := (ht1 ((hsE y + e) % 4096) (Nat.mod_lt _ (by omega))).1
                rw [z] at this
                exact hbe e he this
      · funext y
        rw [wI_1, if_neg (fun q => h2 q.1), wI_1, if_neg (fun q => h1 q.1)]
        rfl
      · rw [wI_1, if_neg (by omega), wI_1, if_neg (fun q => hc q.2)]
        rfl
      · funext y
        show (cpL σ 134 130 0 (6 * M.length) 6).2 z y = _
        rw [cpL_to, if_neg (fun q => h2 q.1)]
      · funext y
        show (cpL σ 134 130 0 (6 * M.length) 6).2 132 y = _
        rw [cpL_to, if_neg (by omega)]
    · rw [if_pos (i_lt (by omega) (by omega)), addE_full (by omega)]
      exact ⟨σ, rfl, hM, FBa.refl, rfl⟩
end CBA
end
section
/-! the class's balls grow -/
section CGR
variable {σ : Mem} {G : GD}
def yE (i : Nat) (y : Int) : Nat → Int := fun m => if m = i then y else 0
theorem mul_yE (hG : GOK G) {v : Nat → Int} {j : Nat} {y : Int} (hj : j < gn G) : mul G v (yE j y) = TL G v j y := by
  have key : ∀ K, K ≤ gn G → mulU G v (yE j y) K = if j < K then TL G v j y else v := by
    intro K
    induction K with
    | zero => intro _; rw [if_neg (Nat.not_lt_zero j)]; rfl
    | succ K ih =>
      intro hK
      show TL G (mulU G v (yE j y) K) K (yE j y K) = _
      rw [ih (by omega)]
      by_cases h1 : K = j
      · subst h1
        rw [if_neg (Nat.lt_irrefl K), if_pos (Nat.lt_succ_self K)]
        unfold yE
        rw [if_pos rfl]
      · have e0 : yE j y K = 0 := by unfold yE; rw [if_neg h1]
        rw [e0, TL_zero hG (by omega)]
        by_cases h2 : j < K
        · rw [if_pos h2, if_pos (by omega)]
        · rw [if_neg h2, if_neg (by omega)]
  unfold mul
  rw [key (gn G) (Nat.le_refl _), if_pos hj]
theorem c_makeGen {a i : Nat} {y : Int} (ha : ln a = 6) (hi : i < 6) : ∃ τ, f_X0_makeGenerator σ a (i32 i) (oi y) = some τ ∧ OL (fun x => x = a) σ τ ∧ H6 τ a (yE i y) := by
  unfold f_X0_makeGenerator
  obtain ⟨τ, e, o, v⟩ := fillL (σ := σ) (v := 0) ha (by omega)
  rw [e, e_bs, if_neg (show ¬ i32 i < 0 from i_nlt (b := 0) (by omega) (by omega)), i32_6, if_neg (i_nle hi (by omega)), e_pL ha hi (by omega)]
  refine ⟨_, rfl, o.trans (OL.wL rfl), fun k hk => ?_⟩
  rw [wL_2]
  unfold yE
  by_cases h : k = i
  · rw [if_pos ⟨rfl, h⟩, if_pos h]
  · rw [if_neg (fun q => h q.2), if_neg h, v k hk]; rfl
theorem PB.zb {B : Int} {x : Nat → Int} (h : PB G B x) : Zb G x := h.2
theorem PB.w1 {B : Int} {x : Nat → Int} (hG : GOK G) (h : PB G B x) (hB : B ≤ 2 ^ 31) : W1 G x := h.1.w1 hG hB
theorem PB.z6 {B : Int} {x : Nat → Int} (h : PB G B x) : Z6 G x := fun k h1 _ => h.2 k h1
theorem W1_yE {i : Nat} {y : Int} (hy : -1 ≤ y ∧ y ≤ 1) : W1 G (yE i y) := fun k _ _ => by
  unfold yE two64ok
  split <;> omega
theorem CPoly.fba {τ : Mem} (h : CPoly G σ) (f : FBa σ τ) : CPoly G τ := fun k hk => (h k hk).of (f.1 _ (by omega) (by omega)) (f.1 _ (by omega) (by omega)) (f.2.2 _ (by omega) (by omega) (by omega) (by omega) (by omega)) (f.1 _ (by omega) (by omega))
theorem CG41.fba {τ : Mem} (h : CG σ 41 G) (f : FBa σ τ) : CG τ 41 G := by
  unfold CG
  rw [f.1 41 (by omega) (by omega), f.1 (41 + 1) (by omega) (by omega), f.1 (41 + 2) (by omega) (by omega)]
  exact h
theorem H6.row {τ : Mem} {a : Nat} {x : Nat → Int} (h : H6 σ a x) (e : τ.2 a = σ.2 a) : H6 τ a x := fun k hk => by rw [e]; exact h k hk
theorem c_growBy {B y : Int} {x : Nat → Int} {M : List (Nat → Int)} {i : Nat} (hG : GOK G) (hP : CPoly G σ) (hX : H6 σ 132 x) (hM : CBl σ M) (hl : M.length ≤ 1001) (hF : Far G M) (hB : 0 ≤ B ∧ B ≤ 100) (pM : ∀ y, y ∈ M → PB G (B + 1) y) (px : PB G B x) (hi : i < gn G) (hy : -1 ≤ y ∧ y ≤ 1) (v : Int32) (hv : v.toInt64 = oi y) : ∃ τ, f_X1_growBy σ (i32 i) v = some τ ∧ CBl τ (addE G M (TL G x i y)) ∧ FBa σ τ ∧ H6 τ 132 x := by
  have hn := hG.2.1
  obtain ⟨σ1, e1, o1, r1⟩ := c_makeGen (σ := σ) (a := 133) (i := i) (y := y) ln_133 (by omega)
  have f1 := o1.fba (fun x hx => by omega)
  have n134 : notSum 134 := fun k hk => by omega
  have hX1 : H6 σ1 132 x := hX.row (o1.2 132 (by omega))
  obtain ⟨σ2, e2, o2, r2⟩ := c_product hG (CPoly.ok hG (hP.fba f1)) (out := 134) (a := 132) (b := 133) ln_134 ln_132 ln_133 hX1 r1 (by omega) n134 (by omega) (by omega) (px.w1 hG (by omega)) (W1_yE hy) px.z6
  have f2 := o2.fba (fun x hx => by omega)
  rw [mul_yE hG hi] at r2
  have pT := TL_pb hG hi px hy
  obtain ⟨τ, e3, c3, f3, k3⟩ := c_keepMade (σ := σ2) hn r2 ((hM.ol o1 (by omega)).ol o2 (by omega)) hl hF (fun z hz => (pM z hz).zb) pT.zb
  refine ⟨τ, ?_, c3, f1.trans (f2.trans f3), (hX1.row (o2.2 132 (by omega))).row k3⟩
  unfold f_X1_growBy
  rw [hv, e1, e_bs, e2, e_bs, e3, e_bs]
theorem genE_h {x : Nat → Int} {M : List (Nat → Int)} {i : Nat} (h : gw G i = 1) : genE G x M (i + 1) = addE G (addE G (genE G x M i) (TL G x i 1)) (TL G x i (-1)) := if_pos h
theorem c_growRow {B : Int} {x : Nat → Int} {M : List (Nat → Int)} (hG : GOK G) (h41 : CG σ 41 G) (hP : CPoly G σ) (hX : H6 σ 132 x) (hM : CBl σ M) (hl : M.length ≤ 1001) (hF : Far G M) (hB : 0 ≤ B ∧ B ≤ 100) (pM : ∀ y, y ∈ M → PB G (B + 1) y) (px : PB G B x) : ∃ τ, loopO (fun (z7 : (Mem × Int32)) => l_X1_grow_38 z7.1 z7.2) (σ, 0) = some τ ∧ CBl τ (genE G x M (gn G)) ∧ FBa σ τ := by
  have hn := hG.2.1
  refine loop_inv (body := fun (z7 : (Mem × Int32)) => l_X1_grow_38 z7.1 z7.2) (fun n z => ∃ i τ, i ≤ gn G ∧ n = gn G - i ∧ z = (τ, i32 i) ∧ CBl τ (genE G x M i) ∧ FBa σ τ ∧ H6 τ 132 x) _ ?_ (gn G) (σ, 0) ⟨0, σ, by omega, rfl, rfl, hM, FBa.refl, hX⟩
  rintro n z ⟨i, τ, hi, rfl, rfl, c, f, r⟩
  have h41' := CG41.fba h41 f
  by_cases hin : i = gn G
  · right
    subst hin
    refine ⟨τ, ?_, c, f⟩
    show l_X1_grow_38 τ (i32 (gn G)) = _
    unfold l_X1_grow_38
    rw [e_gF, h41'.1, if_pos (i_le (Nat.le_refl _) (by omega))]
  · have hbody : l_X1_grow_38 τ (i32 i) = if i32 (gw G i) = 1 then ((f_X1_growBy τ (i32 i) 1).bind (fun (σ10 : Mem) => (f_X1_growBy σ10 (i32 i) (-1)).bind (fun (σ11 : Mem) => some (Sum.inl (σ11, i32 i + 1))))) else (some (Sum.inr τ)) := by
      unfold l_X1_grow_38
      rw [e_gF, h41'.1, if_neg (i_nle (by omega) (by omega)), e_gI ln_42 (by omega) (by omega), h41'.2.1 i (by omega)]
    by_cases hw : gw G i = 1
    · left
      have l1 : (genE G x M i).length ≤ 1001 := by rw [← hE_gen]; exact hE_len hl _
      have q1 : Far G (genE G x M i) := by rw [← hE_gen]; exact hE_far hF _
      have p1 : ∀ y, y ∈ genE G x M i → PB G (B + 1) y := by rw [← hE_gen]; exact hE_pb hG px pM _ (by omega)
      have pT1 : PB G (B + 1) (TL G x i 1) := TL_pb hG (by omega) px (by omega)
      obtain ⟨τ1, e1, c1, f1, r1⟩ := c_growBy (σ := τ) (y := 1) (i := i) hG (hP.fba f) r c l1 q1 hB p1 px (by omega) (by omega) 1 rfl
      obtain ⟨τ2, e2, c2, f2, r2⟩ := c_growBy (σ := τ1) (y := -1) (i := i) hG ((hP.fba f).fba f1) r1 c1 (addE_len l1) (addE_far q1) hB (addE_all p1 pT1) px (by omega) (by omega) (-1) rfl
      refine ⟨(τ2, i32 (i + 1)), gn G - (i + 1), by omega, ?_, i + 1, τ2, by omega, rfl, rfl, ?_, f.trans (f1.trans f2), r2⟩
      · show l_X1_grow_38 τ (i32 i) = _
        rw [hbody, hw, if_pos (show i32 1 = 1 from rfl), e1, e_bs, e2, e_bs, i32_1, i32_add]
      · rw [genE_h hw]; exact c2
    · right
      have hw3 := (hG.2.2.1 i (by omega)).2
      refine ⟨τ, ?_, ?_, f⟩
      · show l_X1_grow_38 τ (i32 i) = _
        rw [hbody, if_neg (i_ne1 hw (by omega))]
      · have := genE_stop (x := x) (M := M) hG hw (gn G - i)
        rw [show i + (gn G - i) = gn G by omega] at this
        rw [this]; exact c
theorem c_grow {B : Int} {M : List (Nat → Int)} {s : Nat} (hG : GOK G) (h41 : CG σ 41 G) (hP : CPoly G σ) (hM : CBl σ M) (hl : M.length ≤ 1001) (hF : Far G M) (hB : 0 ≤ B ∧ B ≤ 100) (pM : ∀ y, y ∈ M → PB G B y) (hs : s ≤ M.length) : ∃ τ, f_X1_grow σ (i32 s) (i32 M.length) = some τ ∧ CBl τ (growE G M s (M.length - s)) ∧ FBa σ τ := by
  have hn := hG.2.1
  unfold f_X1_grow
  refine loop_inv (body := fun (z2 : (Mem × Int32)) => l_X1_grow_2 (i32 M.length) z2.1 z2.2) (fun n z => ∃ k τ, s + k ≤ M.length ∧ n = M.length - (s + k) ∧ z = (τ, i32 (s + k)) ∧ CBl τ (growE G M s k) ∧ FBa σ τ) _ ?_ (M.length - s) (σ, i32 s) ⟨0, σ, by omega, rfl, rfl, hM, FBa.refl⟩
  rintro n z ⟨k, τ, hk, rfl, rfl, c, f⟩
  by_cases hkn : s + k = M.length
  · right
    refine ⟨τ, ?_, ?_, f⟩
    · show l_X1_grow_2 (i32 M.length) τ (i32 (s + k)) = _
      unfold l_X1_grow_2
      rw [hkn, if_pos (i_le (Nat.le_refl _) (by omega))]
    · rw [show M.length - s = k by omega]; exact c
  · have l1 := growE_len (G := G) (s := s) hl k
    by_cases hov : 1000 < (growE G M s k).length
    · right
      refine ⟨τ, ?_, ?_, f⟩
      · show l_X1_grow_2 (i32 M.length) τ (i32 (s + k)) = _
        unfold l_X1_grow_2
        rw [if_neg (i_nle (by omega) (by omega)), e_gF, c.1, show (1000 : Int32) = i32 1000 from rfl, if_pos (i_lt hov (by omega))]
      · have := growE_over hov (M.length - s - k)
        rw [show k + (M.length - s - k) = M.length - s by omega] at this
        rw [this]; exact c
    · left
      have hsk : s + k < M.length := by omega
      have hpre := growE_pre (G := G) (M := M) (s := s) k
      have hget : (growE G M s k)[s + k]? = some (M.getD (s + k) O) := by
        rw [pre_get hpre hsk, List.getD_eq_getElem?_getD, List.getElem?_eq_getElem hsk]
        rfl
      have hrow := c.2.1 _ _ hget
      have f1 : FBa τ (cpL τ 130 132 (6 * (s + k)) 0 6) := ⟨fun _ _ _ => rfl, fun _ _ => rfl, fun z _ _ h3 _ _ => by
        funext y
        rw [cpL_to, if_neg (fun q => h3 q.1)]⟩
      have c1 : CBl (cpL τ 130 132 (6 * (s + k)) 0 6) (growE G M s k) := by
        refine ⟨c.1, fun q x hq j hj => ?_, c.2.2⟩
        rw [cpL_to, if_neg (by omega)]
        exact c.2.1 q x hq j hj
      have r1 : H6 (cpL τ 130 132 (6 * (s + k)) 0 6) 132 (M.getD (s + k) O) := fun j hj => by
        rw [cpL_to, if_pos ⟨rfl, by omega, by omega⟩, show 6 * (s + k) + (j - 0) = 6 * (s + k) + j by omega]
        exact hrow j hj
      have hP1 := hP.fba (f.trans f1)
      have h1 := CG41.fba h41 (f.trans f1)
      obtain ⟨τ2, e2, c2, f2⟩ := c_growRow hG h1 hP1 r1 c1 l1 (growE_far hF k) hB (growE_pb hG hB.1 pM k) (getD_pb hB.1 pM (s + k))
      refine ⟨(τ2, i32 (s + (k + 1))), M.length - (s + (k + 1)), by omega, ?_, k + 1, τ2, by omega, rfl, rfl, c2, f.trans (f1.trans f2)⟩
      show l_X1_grow_2 (i32 M.length) τ (i32 (s + k)) = _
      unfold l_X1_grow_2
      rw [if_neg (i_nle (by omega) (by omega)), e_gF, c.1, show (1000 : Int32) = i32 1000 from rfl, if_neg (i_nlt (by omega) (by omega)), show i32 (s + k) * 6 = i32 (6 * (s + k)) from by rw [i32_6, i32_mul, Nat.mul_comm], i32_0, e_cLto (by rw [ln_130]; omega) (by rw [ln_132]; omega) (by omega) (by omega)]
      have e2' : loopO (fun (z7 : (Mem × Int32)) => l_X1_grow_38 z7.1 z7.2) (cpL τ 130 132 (6 * (s + k)) 0 6, i32 0) = some τ2 := e2
      rw [e2', e_bs]
      unfold j_X1_grow_90
      rw [i32_1, i32_add, Nat.add_assoc]
/-- what finding balls changes -/
def FBf (σ τ : Mem) : Prop := (∀ x, x ≠ 128 → x ≠ 129 → x ≠ 131 → τ.1 x = σ.1 x) ∧ (∀ c, c ≠ 2 → c ≠ 6 → τ.1 128 c = σ.1 128 c) ∧ ∀ x, x ≠ 73 → x ≠ 130 → x ≠ 132 → x ≠ 133 → x ≠ 134 → τ.2 x = σ.2 x
theorem FBf.refl : FBf σ σ := ⟨fun _ _ _ _ => rfl, fun _ _ _ => rfl, fun _ _ _ _ _ _ => rfl⟩
theorem FBf.trans {τ υ : Mem} (h : FBf σ τ) (k : FBf τ υ) : FBf σ υ := ⟨fun x h1 h2 h3 => (k.1 x h1 h2 h3).trans (h.1 x h1 h2 h3), fun c h1 h2 => (k.2.1 c h1 h2).trans (h.2.1 c h1 h2), fun x h1 h2 h3 h4 h5 => (k.2.2 x h1 h2 h3 h4 h5).trans (h.2.2 x h1 h2 h3 h4 h5)⟩
theorem FBa.fbf {τ : Mem} (h : FBa σ τ) : FBf σ τ := ⟨fun x h1 _ h3 => h.1 x h1 h3, fun c _ h2 => h.2.1 c h2, h.2.2⟩
theorem CPoly.fbf {τ : Mem} (h : CPoly G σ) (f : FBf σ τ) : CPoly G τ := fun k hk => (h k hk).of (f.1 _ (by omega) (by omega) (by omega)) (f.1 _ (by omega) (by omega) (by omega)) (f.2.2 _ (by omega) (by omega) (by omega) (by omega) (by omega)) (f.1 _ (by omega) (by omega) (by omega))
theorem CG41.fbf {τ : Mem} (h : CG σ 41 G) (f : FBf σ τ) : CG τ 41 G := by
  unfold CG
  rw [f.1 41 (by omega) (by omega) (by omega), f.1 (41 + 1) (by omega) (by omega) (by omega), f.1 (41 + 2) (by omega) (by omega) (by omega)]
  exact h
theorem c_findLoop {s0 : Mem} (hG : GOK G) (h41 : CG σ 41 G) (hP : CPoly G σ) (hM : CBl σ [O]) (h0 : σ.1 129 0 = 1) (hs : s0 = σ) : ∃ τ, loopO (fun (z13 : (Mem × Int32 × Int32)) => l_X1_find_65 z13.1 z13.2.1 z13.2.2) (σ, 0, 1) = some τ ∧ BallOK τ G ∧ FBf σ τ ∧ τ.1 128 2 = σ.1 128 2 := by
  have hn := hG.2.1
  refine loop_inv (body := fun (z13 : (Mem × Int32 × Int32)) => l_X1_find_65 z13.1 z13.2.1 z13.2.2) (fun n z => ∃ l τ, l ≤ 4 ∧ n = 4 - l ∧ z = (τ, i32 (lvl G l).1, i32 (l + 1)) ∧ CBl τ (lvl G l).2 ∧ (∀ q, q ≤ l → τ.1 129 q = if (lvl G q).2.length ≤ 1000 then i32 (lvl G q).2.length else -1) ∧ FBf σ τ ∧ τ.1 128 2 = σ.1 128 2) _ ?_ 4 (σ, 0, 1) ⟨0, σ, by omega, rfl, rfl, hM, fun q hq => by
    have : q = 0 := by omega
    subst this
    rw [h0]
    exact (if_pos (show [O].length ≤ 1000 by decide)).symm, FBf.refl, rfl⟩
  rintro n z ⟨l, τ, hl, rfl, rfl, c, hs, f, k2⟩
  obtain ⟨a1, a2, a3, a4, a5⟩ := lvl_facts hG l
  by_cases hl4 : l = 4
  · right
    subst hl4
    refine ⟨τ, ?_, ⟨c.1, hs, c.2.1, c.2.2⟩, f, k2⟩
    show l_X1_find_65 τ _ (i32 5) = _
    unfold l_X1_find_65
    rw [if_pos (show (4 : Int32) < i32 5 by decide)]
  · left
    obtain ⟨τ1, e1, c1, f1⟩ := c_grow (σ := τ) (B := l) (s := (lvl G l).1) hG (CG41.fbf h41 f) (hP.fbf f) c a2 a4 ⟨by omega, by omega⟩ a5 a1
    have c1' : CBl τ1 (lvl G (l + 1)).2 := c1
    obtain ⟨b1, b2, b3, b4, b5⟩ := lvl_facts hG (l + 1)
    refine ⟨(wI τ1 129 (l + 1) (if (lvl G (l + 1)).2.length ≤ 1000 then i32 (lvl G (l + 1)).2.length else -1), i32 (lvl G (l + 1)).1, i32 (l + 1 + 1)), 4 - (l + 1), by omega, ?_, l + 1, _, by omega, rfl, rfl, ?_, fun q hq => ?_, f.trans (f1.fbf.trans ⟨fun x _ h2 _ => ?_, fun c _ _ => ?_, fun _ _ _ _ _ _ => rfl⟩), ?_⟩
    · show l_X1_find_65 τ (i32 (lvl G l).1) (i32 (l + 1)) = _
      unfold l_X1_find_65
      rw [show (4 : Int32) = i32 4 from rfl, if_neg (i_nlt (by omega) (by omega)), e_gF, c.1, e1, e_bs, e_gF, c1'.1, show (1000 : Int32) = i32 1000 from rfl]
      by_cases hlen : (lvl G (l + 1)).2.length ≤ 1000
      · rw [if_pos (i_le hlen (by omega)), e_gF, c1'.1, e_bs, if_pos hlen]
        unfold j_X1_find_104
        rw [e_pI ln_129 (by omega) (by omega), i32_1, i32_add]
        rfl
      · rw [if_neg (i_nle (by omega) (by omega)), e_bs, if_neg hlen]
        unfold j_X1_find_104
        rw [e_pI ln_129 (by omega) (by omega), i32_1, i32_add]
        rfl
    · refine ⟨?_, c1'.2.1, ?_⟩
      · rw [wI_1, if_neg (by omega)]; exact c1'.1
      · have : (wI τ1 129 (l + 1) (if (lvl G (l + 1)).2.length ≤ 1000 then i32 (lvl G (l + 1)).2.length else -1)).1 131 = τ1.1 131 := by
          funext y; rw [wI_1, if_neg (by omega)]
        rw [this]; exact c1'.2.2
    · rw [wI_1]
      by_cases hql : q = l + 1
      · rw [if_pos ⟨rfl, hql⟩, hql]
      · rw [if_neg (fun z => hql z.2), f1.1 129 (by omega) (by omega)]
        exact hs q (by omega)
    · funext y; rw [wI_1, if_neg (fun z => h2 z.1)]
    · rw [wI_1, if_neg (by omega)]
    · rw [wI_1, if_neg (by omega), f1.2.1 2 (by omega)]
      exact k2
theorem c_find (hG : GOK G) {c : Nat} (hc : c < 520) (hl : CLaw c σ G) (hcons : Cons G) : ∃ τ, f_X1_find σ = some τ ∧ BallOK τ G ∧ FBf σ τ ∧ τ.1 128 2 = τ.1 40 4 := by
  have hn := hG.2.1
  obtain ⟨h41, hL, ed, bd, e1, e2, e3, e4, e5⟩ := hl
  have hP : CPoly G σ := by
    obtain ⟨c', a1, a2, a3, a4⟩ := hL
    exact a3 (a2.mpr hcons)
  unfold f_X1_find
  rw [e_gF, e_gF, e1, e2]
  by_cases hb : bd = ed
  · subst hb
    rw [if_pos rfl]
    exact ⟨σ, rfl, e5 rfl, FBf.refl, by rw [e1, e2]⟩
  · rw [if_neg (i_ne hb (by omega) (by omega)), e_gF, e1, e_pF]
    have f1 : FBf σ (wI σ 128 2 (i32 ed)) := ⟨fun x h1 _ _ => by funext y; rw [wI_1, if_neg (fun z => h1 z.1)], fun c h1 _ => by rw [wI_1, if_neg (fun z => h1 z.2)], fun _ _ _ _ _ _ => rfl⟩
    obtain ⟨σ2, k2, o2, z2⟩ := fillI (σ := wI σ 128 2 (i32 ed)) (a := 131) (v := 0) ln_131 (by omega)
    have f2 : FBf (wI σ 128 2 (i32 ed)) σ2 := ⟨fun x _ _ h3 => o2.2 x h3, fun c _ _ => by rw [o2.2 128 (by omega)], fun x _ _ _ _ _ => by rw [o2.1]⟩
    have f3 : FBf σ2 (wI σ2 128 6 0) := ⟨fun x h1 _ _ => by funext y; rw [wI_1, if_neg (fun z => h1 z.1)], fun c _ h2 => by rw [wI_1, if_neg (fun z => h2 z.2)], fun _ _ _ _ _ _ => rfl⟩
    obtain ⟨σ4, k4, o4, z4⟩ := fillL (σ := wI σ2 128 6 0) (a := 134) (v := 0) ln_134 (by omega)
    have f4 : FBf (wI σ2 128 6 0) σ4 := (o4.fba (fun x hx => by omega)).fbf
    have hO : H6 σ4 134 O := fun k hk => z4 k hk
    have c0 : CBl σ4 [] := by
      refine ⟨?_, fun q x hq => by simp at hq, fun _ => 0, fun p hp => ⟨?_, Nat.zero_le _⟩, ?_, fun q x hq => by simp at hq⟩
      · rw [o4.1, wI_1, if_pos ⟨rfl, rfl⟩]; rfl
      · rw [o4.1, wI_1, if_neg (by omega)]; exact z2 p hp
      · exact nzS_zero 4096 (fun _ _ => rfl)
    obtain ⟨σ5, k5, c5, f5, _⟩ := c_keepMade (σ := σ4) (G := G) hn hO c0 (Nat.zero_le _) List.Pairwise.nil (fun y hy => by cases hy) (fun _ _ => rfl)
    have c5' : CBl σ5 [O] := c5
    have F5 : FBf σ σ5 := f1.trans (f2.trans (f3.trans (f4.trans f5.fbf)))
    have f6 : FBf σ5 (wI σ5 129 0 (i32 1)) := ⟨fun x _ h2 _ => by funext y; rw [wI_1, if_neg (fun z => h2 z.1)], fun c _ _ => by rw [wI_1, if_neg (by omega)], fun _ _ _ _ _ _ => rfl⟩
    have c6 : CBl (wI σ5 129 0 (i32 1)) [O] := by
      refine ⟨by rw [wI_1, if_neg (by omega)]; exact c5'.1, c5'.2.1, ?_⟩
      have : (wI σ5 129 0 (i32 1)).1 131 = σ5.1 131 := by funext y; rw [wI_1, if_neg (by omega)]
      rw [this]; exact c5'.2.2
    have F6 := F5.trans f6
    obtain ⟨τ, k7, b7, f7, t7⟩ := c_findLoop (σ := wI σ5 129 0 (i32 1)) hG (CG41.fbf h41 F6) (hP.fbf F6) c6 (by rw [wI_1, if_pos ⟨rfl, rfl⟩]; rfl) rfl
    have p129 : ∀ g : Mem → Option Mem, pI σ5 129 0 (i32 1) g = g (wI σ5 129 0 (i32 1)) := fun g => e_pI (k := 0) ln_129 (by omega) (by omega)
    have l5 : σ5.1 128 6 = i32 1 := c5'.1
    rw [k2, e_bs, e_pF, k4, e_bs, k5, e_bs, e_gF, l5, p129, k7]
    refine ⟨τ, rfl, b7, F6.trans f7, ?_⟩
    rw [t7, (F6.trans f7).1 40 (by omega) (by omega) (by omega), e1, wI_1, if_neg (by omega), f5.2.1 2 (by omega), o4.1, wI_1, if_neg (by omega), o2.2 128 (by omega), wI_1, if_pos ⟨rfl, rfl⟩]
theorem ICls.fbf {c : Nat} {S : AS} {τ : Mem} (h : ICls c S σ) (f : FBf σ τ) (hb : BallOK τ (aG S)) (he : τ.1 128 2 = τ.1 40 4) : ICls c S τ := by
  obtain ⟨h1, h2, h3, h4, h5, h6, m, l, ed, bd, e1, e2, e3, e4, e5⟩ := h
  have g1 : ∀ x, x < 128 ∨ 131 < x → τ.1 x = σ.1 x := fun x hx => f.1 x (by omega) (by omega) (by omega)
  have g2 : ∀ x, x ≠ 73 → x < 130 ∨ 134 < x → τ.2 x = σ.2 x := fun x h0 hx => f.2.2 x h0 (by omega) (by omega) (by omega) (by omega)
  refine ⟨h1.eqs (fun x a b => g1 x (by omega)) (fun x a b => g2 x (by omega) (by omega)), h2.eqs (g1 16 (by omega)), h3.eqs (g1 0 (by omega)) (fun x a _ => g1 x (by omega)) (fun x a _ => g2 x (by omega) (by omega)), ⟨by rw [g1 0 (by omega)]; exact h4.1, fun y hy => ⟨(h4.2 y hy).1.eqs (fun x a b => g1 x (by omega)) (fun x a b => g2 x (by omega) (by omega)), (h4.2 y hy).2.eqs (g1 32 (by omega))⟩⟩, ⟨by rw [g1 0 (by omega)]; exact h5.1, fun p x hp => by rw [g1 34 (by omega)]; exact h5.2 p x hp⟩, ⟨by rw [g1 144 (by omega)]; exact h6.1, by rw [g1 144 (by omega)]; exact h6.2⟩, CG41.fbf m f, l.eqs (by rw [g1 40 (by omega)]) (fun x a b => ⟨g1 x (by omega), ?_⟩), ed, ed, by rw [g1 40 (by omega)]; exact e1, by rw [he, g1 40 (by omega)]; exact e1, Nat.le_refl _, e4, fun _ => hb⟩
  exact g2 x (by omega) (by omega)
theorem FBf.hi {τ : Mem} (f : FBf σ τ) : HI σ τ := fun x hx => ⟨f.1 x (by omega) (by omega) (by omega), f.2.2 x (by omega) (by omega) (by omega) (by omega) (by omega)⟩
def szE (G : GD) (l : Nat) : Int32 := if (lvl G l).2.length ≤ 1000 then i32 (lvl G l).2.length else -1
theorem c_sizeOf {c l : Nat} {S : AS} (ok : OKS S) (hc : c < 520) (h : ICls c S σ) (hcons : Cons (aG S)) (hl : l ≤ 4) : ∃ τ, f_X1_sizeOf σ (i32 l) = some (szE (aG S) l, τ) ∧ ICls c S τ ∧ HI σ τ := by
  obtain ⟨τ, e, hb, f, he⟩ := c_find ok.1.1 hc h.law hcons
  refine ⟨τ, ?_, h.fbf f hb he, f.hi⟩
  unfold f_X1_sizeOf
  rw [e, e_bs, if_neg (show ¬ i32 l < 0 from i_nlt (b := 0) (by omega) (by omega)), if_neg (show ¬ 4 < i32 l from i_nlt (a := 4) (by omega) (by omega)), e_gI ln_129 (by omega) (by omega), e_bs, hb.2.1 l hl]
  rfl
end CGR
end
section
/-! the reference's balls -/
section RBA
variable {σ : Mem} {G : GD}
def RMet (σ : Mem) (M : List (Nat → Int)) : Prop := σ.1 306 29 = i32 M.length ∧ ∀ (q : Nat) (x : Nat → Int), M[q]? = some x → ∀ k, k < 6 → σ.2 319 (6 * q + k) = oi (x k)
def FRm (σ τ : Mem) : Prop := (∀ x, x ≠ 306 → τ.1 x = σ.1 x) ∧ (∀ c, c ≠ 29 → τ.1 306 c = σ.1 306 c) ∧ ∀ x, x ≠ 319 → τ.2 x = σ.2 x
theorem FRm.refl : FRm σ σ := ⟨fun _ _ => rfl, fun _ _ => rfl, fun _ _ => rfl⟩
theorem FRm.trans {τ υ : Mem} (h : FRm σ τ) (k : FRm τ υ) : FRm σ υ := ⟨fun x h1 => (k.1 x h1).trans (h.1 x h1), fun c hc => (k.2.1 c hc).trans (h.2.1 c hc), fun x h1 => (k.2.2 x h1).trans (h.2.2 x h1)⟩
theorem MG.frm {τ : Mem} (h : MG σ G) (f : FRm σ τ) : MG τ G := by
  unfold MG
  rw [f.1 307 (by omega)]
  exact h
theorem M0.frm {τ : Mem} (h : M0 σ) (f : FRm σ τ) : M0 τ := fun m hm => by rw [f.2.2 314 (by omega)]; exact h m hm
theorem FRm.sr {τ : Mem} (f : FRm σ τ) : SR σ τ := ⟨fun x hx => ⟨f.1 x (by omega), f.2.2 x (by omega)⟩, fun x hx => f.1 x (by omega), fun c hc => f.2.1 c (by omega), f.2.2 312 (by omega), fun m _ => by rw [f.2.2 314 (by omega)]⟩
theorem PS_wL {f : SF} {k : Nat} {v : Int64} : wL (PS σ f) 319 k v = PS (wL σ 319 k v) f := by
  refine Prod.ext rfl ?_
  funext x y
  show (if x = 319 ∧ y = k then v else if x = 313 ∧ y < 600 then oi (f (y / 6) (y % 6)) else σ.2 x y) = (if x = 313 ∧ y < 600 then oi (f (y / 6) (y % 6)) else if x = 319 ∧ y = k then v else σ.2 x y)
  by_cases h : x = 319 ∧ y = k
  · rw [if_pos h, if_neg (by omega), if_pos h]
  · rw [if_neg h, if_neg h]
theorem PS_wI {f : SF} {a k : Nat} {v : Int32} : wI (PS σ f) a k v = PS (wI σ a k v) f := rfl
theorem PS_get {f : SF} {k : Nat} : (PS σ f).2 319 k = σ.2 319 k := by rw [PS_2 (by omega)]
theorem r_place1 {f : SF} {s q : Nat} {y : Nat → Int} (hG : GOK G) (hM : MG σ G) (hs : s < 100) (hq : q ≤ 1000) (hy : ∀ k, k < 6 → σ.2 319 (6 * q + k) = oi (y k)) : loopO (fun (z6 : (Int32 × Int32)) => l_X11_place_15 (PS σ f) (i32 s) (i32 q) z6.1 z6.2) (1, 0) = some (b2i (areS G y (f s))) := by
  have hn := hG.2.1
  have hl := loop_inv (body := fun (z6 : (Int32 × Int32)) => l_X11_place_15 (PS σ f) (i32 s) (i32 q) z6.1 z6.2) (fun n z => ∃ i b, i ≤ gn G ∧ n = 2 * (gn G - i) + (if b = true then 1 else 0) ∧ z = (b2i b, i32 i) ∧ (b = true → ∀ p, p < i → oi (y p) = oi (f s p)) ∧ (b = false → ¬ ∀ p, p < gn G → oi (y p) = oi (f s p))) (fun r => r = b2i (areS G y (f s))) ?_ (2 * gn G + 1) (1, 0) ⟨0, true, by omega, rfl, rfl, fun _ p hp => absurd hp (Nat.not_lt_zero _), fun q => absurd q (by decide)⟩
  · obtain ⟨r, e, rfl⟩ := hl
    exact e
  · rintro n z ⟨i, b, hi, rfl, rfl, h1, h2⟩
    cases hb : b with
    | false =>
      have hneg := h2 hb
      have hF : areS G y (f s) = false := nb (fun z => hneg (areS_iff.mp z))
      right
      refine ⟨b2i false, ?_, by rw [hF]⟩
      show l_X11_place_15 (PS σ f) (i32 s) (i32 q) (b2i false) (i32 i) = _
      unfold l_X11_place_15
      rw [e_n (PS_MG hM), e_bs]
      split
      · rfl
      · rw [if_pos (show b2i false = 0 from rfl)]
    | true =>
      have hall := h1 hb
      by_cases hin : i = gn G
      · right
        subst hin
        have hT : areS G y (f s) = true := areS_iff.mpr hall
        refine ⟨b2i true, ?_, by rw [hT]⟩
        show l_X11_place_15 (PS σ f) (i32 s) (i32 q) (b2i true) (i32 (gn G)) = _
        unfold l_X11_place_15
        rw [e_n (PS_MG hM), e_bs, if_pos (i_le (Nat.le_refl _) (by omega))]
      · left
        have hbody : l_X11_place_15 (PS σ f) (i32 s) (i32 q) (b2i true) (i32 i) = (if oi (y i) = oi (f s i) then some true else some false : Option Bool).bind (fun (z10 : Bool) => j_X11_place_56 (i32 i) z10) := by
          unfold l_X11_place_15
          rw [e_n (PS_MG hM), e_bs, if_neg (i_nle (by omega) (by omega)), if_neg (show ¬ b2i true = 0 by decide), i32_6, i32_mul, i32_add, e_gL ln_319 (by omega) (by omega), PS_get, hy i (by omega), p_of hs (by omega), e_bs]
        by_cases he : oi (y i) = oi (f s i)
        · refine ⟨(b2i true, i32 (i + 1)), 2 * (gn G - (i + 1)) + 1, by rw [if_pos rfl]; omega, ?_, i + 1, true, by omega, rfl, rfl, fun _ p hp => ?_, fun z => absurd z (by decide)⟩
          · show l_X11_place_15 (PS σ f) (i32 s) (i32 q) (b2i true) (i32 i) = _
            rw [hbody, if_pos he, e_bs]
            unfold j_X11_place_56
            rw [i32_1, i32_add]
          · by_cases hpi : p = i
            · rw [hpi]; exact he
            · exact hall p (by omega)
        · refine ⟨(b2i false, i32 (i + 1)), 2 * (gn G - (i + 1)) + 0, by rw [if_pos rfl]; omega, ?_, i + 1, false, by omega, rfl, rfl, fun z => absurd z (by decide), fun _ z => he (z i (by omega))⟩
          show l_X11_place_15 (PS σ f) (i32 s) (i32 q) (b2i true) (i32 i) = _
          rw [hbody, if_neg he, e_bs]
          unfold j_X11_place_56
          rw [i32_1, i32_add]
theorem r_place {f : SF} {s : Nat} {M : List (Nat → Int)} (hG : GOK G) (hM : MG σ G) (hs : s < 100) (hR : RMet σ M) (hl : M.length ≤ 1001) (hF : Far G M) : f_X11_place (PS σ f) (i32 s) = some (i32 (fnd G M (f s))) := by
  unfold f_X11_place
  have hloop := loop_inv (body := fun (z2 : Int32) => l_X11_place_2 (PS σ f) (i32 s) z2) (fun n z => ∃ k, k ≤ M.length ∧ n = M.length - k ∧ z = i32 k ∧ ∀ (p : Nat) (y : Nat → Int), p < k → M[p]? = some y → areS G y (f s) = false) (fun r => (fnd G M (f s) = M.length ∧ r = Sum.inl ()) ∨ (fnd G M (f s) < M.length ∧ r = Sum.inr (i32 (fnd G M (f s))))) ?_ M.length 0 ⟨0, by omega, rfl, rfl, fun p y hp => absurd hp (Nat.not_lt_zero _)⟩
  · obtain ⟨r, e, hc⟩ := hloop
    rw [e, e_bs]
    rcases hc with ⟨h1, rfl⟩ | ⟨h1, rfl⟩
    · show j_X11_place_75 (PS σ f) = _
      unfold j_X11_place_75
      rw [e_gF, PS_1, hR.1, h1]
    · rfl
  · rintro n z ⟨k, hk, rfl, rfl, hd⟩
    by_cases hkl : k = M.length
    · right
      subst hkl
      refine ⟨Sum.inl (), ?_, Or.inl ⟨?_, rfl⟩⟩
      · unfold l_X11_place_2
        rw [e_gF, PS_1, hR.1, if_pos (i_le (Nat.le_refl _) (by omega))]
      · have h1 := fnd_le (G := G) (M := M) (x := f s)
        refine Classical.byContradiction (fun q => ?_)
        obtain ⟨y, hy, hyx⟩ := fnd_hit (G := G) (M := M) (x := f s) (by omega)
        have := hd _ y (by omega) hy
        rw [hyx] at this
        cases this
    · have hk1 : k < M.length := by omega
      have hget : M[k]? = some M[k] := List.getElem?_eq_getElem hk1
      have e1 := r_place1 (σ := σ) (f := f) (s := s) (q := k) hG hM hs (by omega) (hR.2 k _ hget)
      have hbody : l_X11_place_2 (PS σ f) (i32 s) (i32 k) = j_X11_place_63 (i32 k) (b2i (areS G M[k] (f s))) := by
        unfold l_X11_place_2
        rw [e_gF, PS_1, hR.1, if_neg (i_nle hk1 (by omega)), e1, e_bs]
      cases hb : areS G M[k] (f s) with
      | true =>
        right
        have hq := fnd_eq hF hget hb
        refine ⟨Sum.inr (i32 k), ?_, Or.inr ⟨by omega, by rw [hq]⟩⟩
        rw [hbody, hb]
        unfold j_X11_place_63
        rw [if_neg (by decide)]
      | false =>
        left
        refine ⟨i32 (k + 1), M.length - (k + 1), by omega, ?_, k + 1, by omega, rfl, rfl, fun p y hp hy => ?_⟩
        · rw [hbody, hb]
          unfold j_X11_place_63
          rw [if_pos (by decide), i32_1, i32_add]
        · by_cases hpk : p = k
          · subst hpk
            rw [hget] at hy
            rw [← Option.some.inj hy]
            exact hb
          · exact hd p y (by omega) hy
theorem r_meets {f : SF} {s : Nat} {M : List (Nat → Int)} (hG : GOK G) (hM : MG σ G) (hs : s < 100) (hR : RMet σ M) (hl : M.length ≤ 1000) (hF : Far G M) : ∃ τ, f_X11_meets (PS σ f) (i32 s) = some (PS τ f) ∧ RMet τ (addE G M (f s)) ∧ FRm σ τ := by
  have hle := fnd_le (G := G) (M := M) (x := f s)
  unfold f_X11_meets
  rw [r_place hG hM hs hR (by omega) hF, e_bs, e_gF, PS_1, hR.1]
  by_cases hfn : fnd G M (f s) < M.length
  · rw [if_neg (i_nle hfn (by omega))]
    refine ⟨σ, rfl, ?_, FRm.refl⟩
    unfold addE
    rw [if_pos (fnd_any.mp hfn)]
    exact hR
  · have hfe : fnd G M (f s) = M.length := by omega
    have hany : ¬ M.any (fun y => areS G y (f s)) = true := fun z => hfn (fnd_any.mpr z)
    have hadd : addE G M (f s) = M ++ [f s] := by
      unfold addE
      rw [if_neg hany, if_pos hl]
    rw [hfe, if_pos (i_le (Nat.le_refl _) (by omega)), hadd]
    have hloop := loop_inv (body := fun (z7 : (Mem × Int32)) => l_X11_meets_17 (i32 s) (i32 M.length) z7.1 z7.2) (fun n z => ∃ k τ, k ≤ 6 ∧ n = 6 - k ∧ z = (PS τ f, i32 k) ∧ τ.1 = σ.1 ∧ (∀ x, x ≠ 319 → τ.2 x = σ.2 x) ∧ (∀ y, y < 6 * M.length → τ.2 319 y = σ.2 319 y) ∧ ∀ p, p < k → τ.2 319 (6 * M.length + p) = oi (f s p)) (fun r => ∃ τ, r = PS τ f ∧ τ.1 = σ.1 ∧ (∀ x, x ≠ 319 → τ.2 x = σ.2 x) ∧ (∀ y, y < 6 * M.length → τ.2 319 y = σ.2 319 y) ∧ ∀ p, p < 6 → τ.2 319 (6 * M.length + p) = oi (f s p)) ?_ 6 (PS σ f, 0) ⟨0, σ, by omega, rfl, rfl, rfl, fun _ _ => rfl, fun _ _ => rfl, fun p hp => absurd hp (Nat.not_lt_zero _)⟩
    · obtain ⟨r, e, τ, rfl, t1, t2, t3, t4⟩ := hloop
      rw [e, e_bs]
      unfold j_X11_meets_46
      rw [e_gF, PS_1, t1, hR.1, e_pF, i32_1, i32_add, PS_wI]
      refine ⟨_, rfl, ⟨?_, fun q x hq k hk => ?_⟩, fun x hx => ?_, fun c hc => ?_, t2⟩
      · rw [wI_1, if_pos ⟨rfl, rfl⟩, List.length_append, List.length_singleton]
      · show τ.2 319 (6 * q + k) = _
        by_cases hqm : q < M.length
        · rw [List.getElem?_append_left hqm] at hq
          rw [t3 _ (by omega)]
          exact hR.2 q x hq k hk
        · rw [List.getElem?_append_right (by omega)] at hq
          obtain ⟨hq3, _⟩ := (List.getElem?_eq_some_iff.mp hq)
          rw [List.length_singleton] at hq3
          have hqe : q = M.length := by omega
          subst hqe
          have hyx : x = f s := by
            rw [Nat.sub_self] at hq
            exact (Option.some.inj hq).symm
          rw [hyx]
          exact t4 k hk
      · funext y; rw [wI_1, if_neg (fun q => hx q.1), t1]
      · rw [wI_1, if_neg (fun q => hc q.2), t1]
    · rintro n z ⟨k, τ, hk, rfl, rfl, t1, t2, t3, t4⟩
      by_cases hk6 : k = 6
      · right
        subst hk6
        refine ⟨PS τ f, ?_, τ, rfl, t1, t2, t3, t4⟩
        show l_X11_meets_17 (i32 s) (i32 M.length) (PS τ f) (i32 6) = _
        unfold l_X11_meets_17
        rw [i32_6, if_pos (i_le (Nat.le_refl _) (by omega))]
      · left
        refine ⟨(PS (wL τ 319 (6 * M.length + k) (oi (f s k))) f, i32 (k + 1)), 6 - (k + 1), by omega, ?_, k + 1, _, by omega, rfl, rfl, t1, fun x hx => ?_, fun y hy => ?_, fun p hp => ?_⟩
        · show l_X11_meets_17 (i32 s) (i32 M.length) (PS τ f) (i32 k) = _
          unfold l_X11_meets_17
          rw [i32_6, if_neg (i_nle (by omega) (by omega)), p_of hs (by omega), e_bs, i32_mul, i32_add, e_pL ln_319 (by omega) (by omega), PS_wL, i32_1, i32_add]
        · funext y; rw [wL_2, if_neg (fun q => hx q.1), t2 x hx]
        · rw [wL_2, if_neg (by omega)]; exact t3 y hy
        · rw [wL_2]
          by_cases hpk : p = k
          · rw [if_pos ⟨rfl, by omega⟩, hpk]
          · rw [if_neg (by omega)]; exact t4 p (by omega)
theorem p_timesLetter {f : SF} {s i : Nat} {y : Int} (hM : MG σ G) (hG : GOK G) (h0 : M0 σ) (hs : s < 100) (hi : i < gn G) (hy1 : gw G i = 1 → two64ok y) (ha : ∀ j, j < gn G → gw G j = 1 → two64ok (f s j)) : f_X11_timesLetter (PS σ f) (i32 s) (i32 i) (oi y) = some (PS σ (uS f s (TL G (f s) i y))) := by
  rw [e_timesLetter (PS_MG hM) hG hs hi (a := f s) (fun i hi => PS_vec hs hi) (PS_M0 h0) hy1 ha, PS_setI hs]
theorem r_takes {f : SF} {q : Nat} {x : Nat → Int} (hq : q ≤ 1000) (hx : ∀ k, k < 6 → σ.2 319 (6 * q + k) = oi (x k)) : loopO (fun (z27 : (Mem × Int32)) => l_X11_laysBall_74 (i32 q) z27.1 z27.2) (PS σ f, 0) = some (PS σ (uS f 20 x)) := by
  have hl := loop_inv (body := fun (z27 : (Mem × Int32)) => l_X11_laysBall_74 (i32 q) z27.1 z27.2) (fun n z => ∃ k a, k ≤ 6 ∧ n = 6 - k ∧ z = (PS σ (uS f 20 a), i32 k) ∧ ∀ p, p < k → a p = x p) (fun r => r = PS σ (uS f 20 x)) ?_ 6 (PS σ f, 0) ⟨0, f 20, by omega, rfl, by
      have : uS f 20 (f 20) = f := by
        funext r
        by_cases h : r = 20
        · rw [h, uS_self]
        · rw [uS_ne h]
      rw [this]; rfl, fun p hp => absurd hp (Nat.not_lt_zero _)⟩
  · obtain ⟨r, e, rfl⟩ := hl
    exact e
  · rintro n z ⟨k, a, hk, rfl, rfl, ha⟩
    by_cases hk6 : k = 6
    · right
      subst hk6
      refine ⟨PS σ (uS f 20 a), ?_, PS_congr (fun r i hr hi => ?_)⟩
      · show l_X11_laysBall_74 (i32 q) (PS σ (uS f 20 a)) (i32 6) = _
        unfold l_X11_laysBall_74
        rw [i32_6, if_pos (i_le (Nat.le_refl _) (by omega))]
      · by_cases h : r = 20
        · rw [h, uS_self, uS_self, ha i hi]
        · rw [uS_ne h, uS_ne h]
    · left
      refine ⟨(PS σ (uS f 20 (uV a k (x k))), i32 (k + 1)), 6 - (k + 1), by omega, ?_, k + 1, _, by omega, rfl, rfl, fun p hp => ?_⟩
      · show l_X11_laysBall_74 (i32 q) (PS σ (uS f 20 a)) (i32 k) = _
        unfold l_X11_laysBall_74
        have hp := p_puts (σ := σ) (f := uS f 20 a) (s := 20) (i := k) (x := x k) (by omega) (by omega)
        rw [uS_self] at hp
        have h2 : uS (uS f 20 a) 20 (uV a k (x k)) = uS f 20 (uV a k (x k)) := by
          funext r
          by_cases h : r = 20
          · rw [h, uS_self, uS_self]
          · rw [uS_ne h, uS_ne h, uS_ne h]
        rw [h2] at hp
        have hp' : f_X11_puts (PS σ (uS f 20 a)) 20 (i32 k) (oi (x k)) = some (PS σ (uS f 20 (uV a k (x k)))) := hp
        rw [i32_6, if_neg (i_nle (by omega) (by omega)), i32_mul, i32_add, e_gL ln_319 (by omega) (by omega), PS_get, hx k (by omega), hp', e_bs, i32_1, i32_add]
      · unfold uV
        by_cases h : p = k
        · rw [if_pos h, h]
        · rw [if_neg h]; exact ha p (by omega)
theorem i_half {g : Nat} (h : g < 12) : i32 g / 2 = i32 (g / 2) ∧ i32 g - i32 g / 2 * 2 = i32 (g % 2) := by
  have key : (List.range 12).all (fun g => decide (i32 g / 2 = i32 (g / 2) ∧ i32 g - i32 g / 2 * 2 = i32 (g % 2))) = true := by decide +kernel
  exact of_decide_eq_true (List.all_eq_true.mp key g (List.mem_range.mpr h))
theorem r_ballRow {f : SF} {B : Int} {x : Nat → Int} {M : List (Nat → Int)} {q : Nat} (hG : GOK G) (hM : MG σ G) (h0 : M0 σ) (hR : RMet σ M) (hl : M.length ≤ 1000) (hF : Far G M) (hq : M[q]? = some x) (hB : 0 ≤ B ∧ B ≤ 100) (px : PB G B x) : ∃ r, loopO (fun (z17 : (Mem × Int32)) => l_X11_laysBall_45 (i32 q) z17.1 z17.2) (PS σ f, 0) = some r ∧ ∃ τ g, RMet τ (hE G x M (2 * gn G)) ∧ FRm σ τ ∧ (∀ s, s ≠ 20 → g s = f s) ∧ ((r = Sum.inl (PS τ g) ∧ (hE G x M (2 * gn G)).length ≤ 1000) ∨ (r = Sum.inr (Sum.inr (Sum.inr (Sum.inr (Sum.inl (PS τ g))))) ∧ 1000 < (hE G x M (2 * gn G)).length)) := by
  have hn := hG.2.1
  have hql : q < M.length := (List.getElem?_eq_some_iff.mp hq).1
  refine loop_inv (body := fun (z17 : (Mem × Int32)) => l_X11_laysBall_45 (i32 q) z17.1 z17.2) (fun n z => ∃ t τ g, t ≤ 2 * gn G ∧ n = 2 * gn G - t ∧ z = (PS τ g, i32 t) ∧ RMet τ (hE G x M t) ∧ (hE G x M t).length ≤ 1000 ∧ FRm σ τ ∧ ∀ s, s ≠ 20 → g s = f s) _ ?_ (2 * gn G) (PS σ f, 0) ⟨0, σ, f, by omega, rfl, rfl, hR, hl, FRm.refl, fun _ _ => rfl⟩
  rintro n z ⟨t, τ, g, ht, rfl, rfl, c, hlt, fr, hg⟩
  have hMt := hM.frm fr
  have h0t := h0.frm fr
  by_cases htn : t = 2 * gn G
  · right
    subst htn
    refine ⟨Sum.inl (PS τ g), ?_, τ, g, c, fr, hg, Or.inl ⟨rfl, hlt⟩⟩
    show l_X11_laysBall_45 (i32 q) (PS τ g) (i32 (2 * gn G)) = _
    unfold l_X11_laysBall_45
    rw [e_n (PS_MG hMt), e_bs, i32_2, i32_mul, if_pos (i_le (Nat.le_refl _) (by omega))]
  · have hh := i_half (g := t) (by omega)
    have hw1 := (hG.2.2.1 (t / 2) (by omega)).1
    have hw3 := (hG.2.2.1 (t / 2) (by omega)).2
    have hstep : hE G x M (t + 1) = if gw G (t / 2) = 1 then addE G (hE G x M t) (TL G x (t / 2) (if t % 2 = 0 then 1 else -1)) else hE G x M t := rfl
    by_cases hw : gw G (t / 2) = 1
    · rw [if_pos hw] at hstep
      have hrow := c.2 q x (by rw [pre_get (hE_pre t) hql]; exact hq)
      have a1 := r_takes (σ := τ) (f := g) (q := q) (x := x) (by omega) hrow
      have a2 := p_timesLetter (σ := τ) (f := uS g 20 x) (s := 20) (i := t / 2) (y := if t % 2 = 0 then 1 else -1) hMt hG h0t (by omega) (by omega) (fun _ => by unfold two64ok; split <;> omega) (fun j hj hw => by
        rw [uS_self]
        have := px.1 j hj hw
        unfold two64ok
        omega)
      rw [uS_self] at a2
      have v2 : (uS (uS g 20 x) 20 (TL G x (t / 2) (if t % 2 = 0 then 1 else -1))) 20 = TL G x (t / 2) (if t % 2 = 0 then 1 else -1) := uS_self
      have k2 : ∀ s, s ≠ 20 → (uS (uS g 20 x) 20 (TL G x (t / 2) (if t % 2 = 0 then 1 else -1))) s = f s := fun s hs => by rw [uS_ne hs, uS_ne hs]; exact hg s hs
      generalize uS (uS g 20 x) 20 (TL G x (t / 2) (if t % 2 = 0 then 1 else -1)) = g2 at a2 v2 k2
      obtain ⟨τ2, a3, c3, f3⟩ := r_meets (σ := τ) (f := g2) (s := 20) hG hMt (by omega) c hlt (hE_far hF t)
      rw [v2, ← hstep] at c3
      have a2' : f_X11_timesLetter (PS τ (uS g 20 x)) 20 (i32 (t / 2)) (oi (if t % 2 = 0 then 1 else -1)) = some (PS τ g2) := a2
      have a3' : f_X11_meets (PS τ g2) 20 = some (PS τ2 g2) := a3
      have esgn : (if i32 (t % 2) = 0 then some 1 else some (-1) : Option Int64) = some (oi (if t % 2 = 0 then 1 else -1)) := by
        by_cases hz : t % 2 = 0
        · rw [hz, if_pos (show i32 0 = 0 from rfl), if_pos rfl]; rfl
        · rw [if_neg (i_ne0 hz (by omega)), if_neg hz]; rfl
      have hbody : l_X11_laysBall_45 (i32 q) (PS τ g) (i32 t) = if i32 (hE G x M (t + 1)).length ≤ 1000 then j_X11_laysBall_153 (i32 t) (PS τ2 g2) else some (Sum.inr (Sum.inr (Sum.inr (Sum.inr (Sum.inr (Sum.inl (PS τ2 g2))))))) := by
        unfold l_X11_laysBall_45
        rw [e_n (PS_MG hMt), e_bs, i32_2, i32_mul, if_neg (i_nle (by omega) (by omega)), e_nzI (by decide), show (i32 t / i32 2) = i32 (t / 2) from hh.1, e_weight (PS_MG hMt) (by omega), e_bs, hw, if_pos (show i32 1 ≤ 1 by decide), a1, e_bs]
        unfold j_X11_laysBall_108
        rw [e_nzI (by decide), e_nzI (by decide), hh.2, esgn, e_bs]
        unfold j_X11_laysBall_129
        rw [hh.1, a2', e_bs, a3', e_bs, e_gF, PS_1, c3.1]
        split <;> rfl
      by_cases hov : (hE G x M (t + 1)).length ≤ 1000
      · left
        refine ⟨(PS τ2 g2, i32 (t + 1)), 2 * gn G - (t + 1), by omega, ?_, t + 1, τ2, g2, by omega, rfl, rfl, c3, hov, fr.trans f3, k2⟩
        show l_X11_laysBall_45 (i32 q) (PS τ g) (i32 t) = _
        rw [hbody, show (1000 : Int32) = i32 1000 from rfl, if_pos (i_le hov (by omega))]
        unfold j_X11_laysBall_153
        rw [i32_1, i32_add]
      · right
        have h1001 := hE_len (G := G) (x := x) (M := M) (by omega) (t + 1)
        have hall := hE_over (G := G) (x := x) (M := M) (g := t + 1) (by omega) (2 * gn G - (t + 1))
        rw [show t + 1 + (2 * gn G - (t + 1)) = 2 * gn G by omega] at hall
        refine ⟨_, ?_, τ2, g2, by rw [hall]; exact c3, fr.trans f3, k2, Or.inr ⟨rfl, by rw [hall]; omega⟩⟩
        show l_X11_laysBall_45 (i32 q) (PS τ g) (i32 t) = _
        rw [hbody, show (1000 : Int32) = i32 1000 from rfl, if_neg (i_nle (by omega) (by omega))]
    · left
      rw [if_neg hw] at hstep
      refine ⟨(PS τ g, i32 (t + 1)), 2 * gn G - (t + 1), by omega, ?_, t + 1, τ, g, by omega, rfl, rfl, by rw [hstep]; exact c, by rw [hstep]; exact hlt, fr, hg⟩
      show l_X11_laysBall_45 (i32 q) (PS τ g) (i32 t) = _
      unfold l_X11_laysBall_45
      rw [e_n (PS_MG hMt), e_bs, i32_2, i32_mul, if_neg (i_nle (by omega) (by omega)), e_nzI (by decide), show (i32 t / i32 2) = i32 (t / 2) from hh.1, e_weight (PS_MG hMt) (by omega), e_bs, if_neg (show ¬ i32 (gw G (t / 2)) ≤ 1 from i_nle (b := 1) (by omega) (by omega)), e_bs]
      show j_X11_laysBall_153 (i32 t) (PS τ g) = _
      unfold j_X11_laysBall_153
      rw [i32_1, i32_add]
theorem r_ballGrow {f : SF} {B : Int} {M : List (Nat → Int)} {s : Nat} (hG : GOK G) (hM : MG σ G) (h0 : M0 σ) (hR : RMet σ M) (hl : M.length ≤ 1000) (hF : Far G M) (hB : 0 ≤ B ∧ B ≤ 100) (pM : ∀ y, y ∈ M → PB G B y) (hs : s ≤ M.length) : ∃ r, loopO (fun (z14 : (Mem × Int32)) => l_X11_laysBall_35 (i32 M.length) z14.1 z14.2) (PS σ f, i32 s) = some r ∧ ∃ τ g, RMet τ (growE G M s (M.length - s)) ∧ FRm σ τ ∧ (∀ s, s ≠ 20 → g s = f s) ∧ ((r = Sum.inl (PS τ g) ∧ (growE G M s (M.length - s)).length ≤ 1000) ∨ (r = Sum.inr (Sum.inr (Sum.inl (PS τ g))) ∧ 1000 < (growE G M s (M.length - s)).length)) := by
  refine loop_inv (body := fun (z14 : (Mem × Int32)) => l_X11_laysBall_35 (i32 M.length) z14.1 z14.2) (fun n z => ∃ k τ g, s + k ≤ M.length ∧ n = M.length - (s + k) ∧ z = (PS τ g, i32 (s + k)) ∧ RMet τ (growE G M s k) ∧ (growE G M s k).length ≤ 1000 ∧ FRm σ τ ∧ ∀ s, s ≠ 20 → g s = f s) _ ?_ (M.length - s) (PS σ f, i32 s) ⟨0, σ, f, by omega, rfl, rfl, hR, hl, FRm.refl, fun _ _ => rfl⟩
  rintro n z ⟨k, τ, g, hk, rfl, rfl, c, hlt, fr, hg⟩
  by_cases hkn : s + k = M.length
  · right
    have : M.length - s = k := by omega
    refine ⟨Sum.inl (PS τ g), ?_, τ, g, by rw [this]; exact c, fr, hg, Or.inl ⟨rfl, by rw [this]; exact hlt⟩⟩
    show l_X11_laysBall_35 (i32 M.length) (PS τ g) (i32 (s + k)) = _
    unfold l_X11_laysBall_35
    rw [hkn, if_pos (i_le (Nat.le_refl _) (by omega))]
  · have hsk : s + k < M.length := by omega
    have hget : (growE G M s k)[s + k]? = some (M.getD (s + k) O) := by
      rw [pre_get (growE_pre k) hsk, List.getD_eq_getElem?_getD, List.getElem?_eq_getElem hsk]
      rfl
    obtain ⟨r, e1, τ2, g2, c2, f2, k2, hc⟩ := r_ballRow (σ := τ) (f := g) hG (hM.frm fr) (h0.frm fr) c hlt (growE_far hF k) hget hB (getD_pb hB.1 pM (s + k))
    rw [← growE_h] at c2 hc
    have hbody : l_X11_laysBall_35 (i32 M.length) (PS τ g) (i32 (s + k)) = (some r).bind (Sum.elim (fun (z15 : Mem) => j_X11_laysBall_159 (i32 (s + k)) z15) some) := by
      unfold l_X11_laysBall_35
      rw [if_neg (i_nle hsk (by omega)), e1]
    rcases hc with ⟨rfl, hlen⟩ | ⟨rfl, hlen⟩
    · left
      refine ⟨(PS τ2 g2, i32 (s + (k + 1))), M.length - (s + (k + 1)), by omega, ?_, k + 1, τ2, g2, by omega, rfl, rfl, c2, hlen, fr.trans f2, fun q hq => (k2 q hq).trans (hg q hq)⟩
      show l_X11_laysBall_35 (i32 M.length) (PS τ g) (i32 (s + k)) = _
      rw [hbody, e_bs]
      show j_X11_laysBall_159 (i32 (s + k)) (PS τ2 g2) = _
      unfold j_X11_laysBall_159
      rw [i32_1, i32_add, Nat.add_assoc]
    · right
      have hall := growE_over (G := G) (M := M) (s := s) (k := k + 1) hlen (M.length - s - (k + 1))
      rw [show k + 1 + (M.length - s - (k + 1)) = M.length - s by omega] at hall
      refine ⟨_, ?_, τ2, g2, by rw [hall]; exact c2, fr.trans f2, fun q hq => (k2 q hq).trans (hg q hq), Or.inr ⟨rfl, by rw [hall]; exact hlen⟩⟩
      show l_X11_laysBall_35 (i32 M.length) (PS τ g) (i32 (s + k)) = _
      rw [hbody, e_bs]
      rfl
theorem r_laysBall {f : SF} {l : Nat} (hG : GOK G) (hM : MG σ G) (h0 : M0 σ) (hl : l ≤ 4) : ∃ τ g, f_X11_laysBall (PS σ f) (i32 l) = some (i32 (lvl G l).2.length, PS τ g) ∧ RMet τ (lvl G l).2 ∧ FRm σ τ ∧ ∀ s, s ≠ 20 → g s = f s := by
  have fr1 : FRm σ (wI σ 306 29 0) := ⟨fun x hx => by funext y; rw [wI_1, if_neg (fun q => hx q.1)], fun c hc => by rw [wI_1, if_neg (fun q => hc q.2)], fun _ _ => rfl⟩
  have c1 : RMet (wI σ 306 29 0) [] := ⟨by rw [wI_1, if_pos ⟨rfl, rfl⟩]; rfl, fun q x hq => by simp at hq⟩
  have a1 : f_X11_ones (PS (wI σ 306 29 0) f) 20 = some (PS (wI σ 306 29 0) (uS f 20 (fun _ => 0))) := p_ones (s := 20) (by omega)
  obtain ⟨σ2, a2, c2, f2⟩ := r_meets (σ := wI σ 306 29 0) (f := uS f 20 (fun _ => 0)) (s := 20) hG (hM.frm fr1) (by omega) c1 (Nat.zero_le _) List.Pairwise.nil
  rw [uS_self] at c2
  have c2' : RMet σ2 (lvl G 0).2 := c2
  have a2' : f_X11_meets (PS (wI σ 306 29 0) (uS f 20 (fun _ => 0))) 20 = some (PS σ2 (uS f 20 (fun _ => 0))) := a2
  have F2 := fr1.trans f2
  have hloop := loop_inv (body := fun (z10 : (Mem × Int32 × Int32)) => l_X11_laysBall_21 (i32 l) z10.1 z10.2.1 z10.2.2) (fun n z => ∃ r τ g, r ≤ l ∧ n = l - r ∧ z = (PS τ g, i32 (lvl G r).1, i32 r) ∧ RMet τ (lvl G r).2 ∧ (lvl G r).2.length ≤ 1000 ∧ FRm σ τ ∧ ∀ s, s ≠ 20 → g s = f s) (fun x => ∃ τ g, RMet τ (lvl G l).2 ∧ FRm σ τ ∧ (∀ s, s ≠ 20 → g s = f s) ∧ (x = Sum.inl (PS τ g) ∨ x = Sum.inr (Sum.inl (PS τ g)))) ?_ l (PS σ2 (uS f 20 (fun _ => 0)), 0, 0) ⟨0, σ2, _, by omega, rfl, rfl, c2', by show [O].length ≤ 1000; decide, F2, fun s hs => uS_ne hs⟩
  · obtain ⟨x, e, τ, g, c, fr, hg, hx⟩ := hloop
    refine ⟨τ, g, ?_, c, fr, hg⟩
    unfold f_X11_laysBall
    rw [e_pF, PS_wI, a1, e_bs, a2', e_bs, e, e_bs]
    rcases hx with rfl | rfl
    · show (j_X11_laysBall_148 (PS τ g)).bind (Sum.elim (fun (z4 : Mem) => j_X11_laysBall_174 z4) some) = _
      unfold j_X11_laysBall_148
      rw [e_gF, e_bs, PS_1, c.1]
      rfl
    · show (some (Sum.inl (PS τ g)) : Option (Mem ⊕ (Int32 × Mem))).bind (Sum.elim (fun (z4 : Mem) => j_X11_laysBall_174 z4) some) = _
      rw [e_bs]
      show j_X11_laysBall_174 (PS τ g) = _
      unfold j_X11_laysBall_174
      rw [e_gF, PS_1, c.1]
  · rintro n z ⟨r, τ, g, hr, rfl, rfl, c, hlt, fr, hg⟩
    by_cases hrl : r = l
    · right
      subst hrl
      refine ⟨Sum.inr (Sum.inl (PS τ g)), ?_, τ, g, c, fr, hg, Or.inr rfl⟩
      show l_X11_laysBall_21 (i32 r) (PS τ g) _ (i32 r) = _
      unfold l_X11_laysBall_21
      rw [if_pos (i_le (Nat.le_refl _) (by omega))]
    · obtain ⟨b1, b2, b3, b4, b5⟩ := lvl_facts hG r
      obtain ⟨x, e1, τ2, g2, c3, f3, k3, hc⟩ := r_ballGrow (σ := τ) (f := g) (B := r) (s := (lvl G r).1) hG (hM.frm fr) (h0.frm fr) c hlt b4 ⟨by omega, by omega⟩ b5 b1
      have c3' : RMet τ2 (lvl G (r + 1)).2 := c3
      have hbody : l_X11_laysBall_21 (i32 l) (PS τ g) (i32 (lvl G r).1) (i32 r) = (some x).bind (Sum.elim (fun (z12 : Mem) => j_X11_laysBall_165 (i32 r) (i32 (lvl G r).2.length) z12) some) := by
        unfold l_X11_laysBall_21
        rw [if_neg (i_nle (by omega) (by omega)), e_gF, PS_1, c.1, e1]
      rcases hc with ⟨rfl, hlen⟩ | ⟨rfl, hlen⟩
      · left
        refine ⟨(PS τ2 g2, i32 (lvl G (r + 1)).1, i32 (r + 1)), l - (r + 1), by omega, ?_, r + 1, τ2, g2, by omega, rfl, rfl, c3', hlen, fr.trans f3, fun q hq => (k3 q hq).trans (hg q hq)⟩
        show l_X11_laysBall_21 (i32 l) (PS τ g) (i32 (lvl G r).1) (i32 r) = _
        rw [hbody, e_bs]
        show j_X11_laysBall_165 (i32 r) (i32 (lvl G r).2.length) (PS τ2 g2) = _
        unfold j_X11_laysBall_165
        rw [i32_1, i32_add]
        rfl
      · right
        have hlen' : 1000 < (lvl G (r + 1)).2.length := hlen
        have hall := lvl_over hlen' (l - (r + 1))
        rw [show r + 1 + (l - (r + 1)) = l by omega] at hall
        refine ⟨_, ?_, τ2, g2, by rw [hall]; exact c3', fr.trans f3, fun q hq => (k3 q hq).trans (hg q hq), Or.inl rfl⟩
        show l_X11_laysBall_21 (i32 l) (PS τ g) (i32 (lvl G r).1) (i32 r) = _
        rw [hbody, e_bs]
        rfl
theorem ok_29 : Ok_29 II := by
  intro c σ x hc ⟨S, ok, h, hr⟩
  have hG : GOK (aG S) := ok.1.1
  obtain ⟨b, hb, hB⟩ := c_cons h
  have e := fun τ : Mem => r_in (σ := τ) (x := x) (l := 0) (u := 4) ⟨by omega, by omega⟩ ⟨by omega, by omega⟩
  have f0 : LO σ (wI σ 306 0 0) := LO.row (by omega)
  unfold f_X10_ball
  by_cases hx : 0 ≤ x.toInt ∧ x.toInt ≤ 4
  · have hxi := i32_of hx.1
    have hx4 : x.toInt.toNat ≤ 4 := by omega
    rw [if_neg (fun q => by have := (lt32 (k := 0) (by omega)).mp q; omega), if_neg (fun q => by have := (gt32 (k := 4) (by omega)).mp q; omega), e_gZ hb]
    cases hbt : b with
    | false =>
      obtain ⟨b3, τ, e3, q3, l3, _, _, hc3⟩ := r_cons hr.told ok
      have : b3 = b := bool_iff hc3 hB
      subst this
      refine ⟨-1, σ, τ, rfl, ?_, fin_q ok h q3 (f0.trans l3)⟩
      unfold f_X11_ball
      rw [e_pF, show (0 : Int64) = oi 0 from rfl, show (4 : Int64) = oi 4 from rfl, e, e_bs, decide_eq_true hx, if_pos rfl, e3, e_bq, hbt, if_neg (by decide)]
    | true =>
      have hcons := hB.mp hbt
      obtain ⟨σ1, e1, h1, hi1⟩ := c_sizeOf ok hc h hcons hx4
      rw [← hxi] at e1
      obtain ⟨b3, τ, e3, q3, l3, _, _, hc3⟩ := r_cons (hr.hi hi1).told ok
      have : b3 = true := hc3.mpr hcons
      subst this
      obtain ⟨⟨f, hf⟩, hI, hL, hM, h0, hRB⟩ := at_slots q3
      obtain ⟨τ2, g, e4, c4, fr, _⟩ := r_laysBall (σ := τ) (f := f) hG hM h0 hx4
      rw [← hxi, hf] at e4
      have f1 : LO σ1 (wI σ1 306 0 0) := LO.row (by omega)
      have qI : IRef S (PS τ2 g) := (q3.sr fr.sr).sr PS.sr
      have hlen := (lvl_facts hG x.toInt.toNat).2.1
      refine ⟨szE (aG S) x.toInt.toNat, σ1, PS τ2 g, ?_, ?_, fin_q ok h1 qI (f1.trans (l3.trans (fr.sr.lo.trans PS.sr.lo)))⟩
      · rw [if_pos rfl, e1, e_bq]
      · unfold f_X11_ball
        rw [e_pF, show (0 : Int64) = oi 0 from rfl, show (4 : Int64) = oi 4 from rfl, e, e_bs, decide_eq_true hx, if_pos rfl, e3, e_bq, if_pos rfl, e4, e_bq]
        unfold szE
        by_cases hle : (lvl (aG S) x.toInt.toNat).2.length ≤ 1000
        · rw [if_pos hle, show (1000 : Int32) = i32 1000 from rfl, if_pos (i_le hle (by omega))]
        · rw [if_neg hle, show (1000 : Int32) = i32 1000 from rfl, if_neg (i_nle (by omega) (by omega))]
  · have hrf : f_X11_ball σ x = some (-1, wI σ 306 0 0) := by
      unfold f_X11_ball
      rw [e_pF, show (0 : Int64) = oi 0 from rfl, show (4 : Int64) = oi 4 from rfl, e, e_bs, decide_eq_false hx, if_neg (by decide)]
    refine ⟨-1, σ, _, ?_, hrf, fin_q ok h hr.told f0⟩
    by_cases h1 : x < 0
    · rw [if_pos h1]
    · have h1' : ¬ x.toInt < 0 := fun q => h1 ((lt32 (k := 0) (by omega)).mpr q)
      rw [if_neg h1, if_pos (show 4 < x from (gt32 (k := 4) (by omega)).mpr (by omega))]
end RBA
end
section
/-! gaps: keys of halves, and sums kept by keys -/
section GK
variable {σ : Mem} {G : GD}
def dk (κ v : Nat) : Nat := κ / 4 ^ (11 - v) % 4
def pr (d : Nat → Nat) (x : Nat → Int) : Int := fo (· * ·) 1 (fun v => bn (d v) (x v)) 12
def Dok (G : GD) (d : Nat → Nat) : Prop := (∀ v, v < 12 → d v ≤ 2 ∧ (d v = 2 → gw G (v % 6) = 1)) ∧ nzc d 12 ≤ 3
def dsum (d : Nat → Nat) (n : Nat) : Nat := fo (· + ·) 0 d n
theorem ky_congr {d e : Nat → Nat} : ∀ n, (∀ v, v < n → d v = e v) → ky d n = ky e n
  | 0, _ => rfl
  | n + 1, h => by
    show 4 * ky d n + d n = 4 * ky e n + e n
    rw [ky_congr n (fun v hv => h v (by omega)), h n (by omega)]
theorem nzc_congr {d e : Nat → Nat} (n : Nat) (h : ∀ v, v < n → d v = e v) : nzc d n = nzc e n := fo_congr n (fun v hv => by rw [h v hv])
theorem pr_congr {d e : Nat → Nat} {x y : Nat → Int} (h : ∀ v, v < 12 → bn (d v) (x v) = bn (e v) (y v)) : pr d x = pr e y := fo_congr 12 h
theorem Dok.congr {d e : Nat → Nat} (hd : Dok G d) (h : ∀ v, v < 12 → d v = e v) : Dok G e := ⟨fun v hv => by rw [← h v hv]; exact hd.1 v hv, by rw [← nzc_congr 12 h]; exact hd.2⟩
theorem dk_ky {d : Nat → Nat} (hd : ∀ v, v < 12 → d v ≤ 3) {v : Nat} (hv : v < 12) : dk (ky d 12) v = d v := ky_get hd hv
/-- halves of a term: the left, the right where it is, the right on the left -/
def hL (d : Nat → Nat) (v : Nat) : Nat := if v < 6 then d v else 0
def hR (d : Nat → Nat) (v : Nat) : Nat := if v < 6 then 0 else d v
def hS (d : Nat → Nat) (v : Nat) : Nat := if v < 6 then d (v + 6) else 0
theorem fo_mulI {f g : Nat → Int} : ∀ n, fo (· * ·) 1 (fun v => f v * g v) n = fo (· * ·) 1 f n * fo (· * ·) 1 g n
  | 0 => rfl
  | n + 1 => by
    show fo (· * ·) 1 (fun v => f v * g v) n * (f n * g n) = fo (· * ·) 1 f n * f n * (fo (· * ·) 1 g n * g n)
    rw [fo_mulI n, Int.mul_assoc, Int.mul_assoc, Int.mul_left_comm (f n)]
theorem bn_0 (x : Int) : bn 0 x = 1 := rfl
theorem pr_halves (d : Nat → Nat) (x : Nat → Int) : pr (hL d) x * pr (hR d) x = pr d x := by
  unfold pr
  rw [← fo_mulI]
  refine fo_congr 12 (fun v _ => ?_)
  unfold hL hR
  by_cases h : v < 6
  · rw [if_pos h, if_pos h, bn_0, Int.mul_one]
  · rw [if_neg h, if_neg h, bn_0, Int.one_mul]
theorem one_fo {f : Nat → Int} : ∀ n, (∀ v, v < n → f v = 1) → fo (· * ·) 1 f n = 1
  | 0, _ => rfl
  | n + 1, h => by
    show fo (· * ·) 1 f n * f n = 1
    rw [one_fo n (fun v hv => h v (by omega)), h n (by omega)]; rfl
theorem pr_shift (d : Nat → Nat) (u w x y : Nat → Int) (hx : ∀ v, v < 6 → x v = w v) (hy : ∀ v, v < 6 → y (6 + v) = w v) : pr (hS d) x = pr (hR d) y := by
  unfold pr
  have e1 := fo_app (op := (· * ·)) (z := (1 : Int)) (fun a b c => Int.mul_assoc a b c) Int.mul_one (f := fun v => bn (hS d v) (x v)) 6 6
  have e2 := fo_app (op := (· * ·)) (z := (1 : Int)) (fun a b c => Int.mul_assoc a b c) Int.mul_one (f := fun v => bn (hR d v) (y v)) 6 6
  show fo _ _ _ (6 + 6) = fo _ _ _ (6 + 6)
  rw [e1, e2, one_fo 6 (f := fun i => bn (hS d (6 + i)) (x (6 + i))) (fun v hv => by show bn (hS d (6 + v)) _ = 1; unfold hS; rw [if_neg (by omega)]; rfl), one_fo 6 (f := fun v => bn (hR d v) (y v)) (fun v hv => by show bn (hR d v) _ = 1; unfold hR; rw [if_pos hv]; rfl)]
  show fo _ _ _ 6 * 1 = 1 * fo _ _ _ 6
  rw [Int.mul_one, Int.one_mul]
  refine fo_congr 6 (fun v hv => ?_)
  show bn (hS d v) (x v) = bn (hR d (6 + v)) (y (6 + v))
  unfold hS hR
  rw [if_pos hv, if_neg (by omega), hx v hv, hy v hv, Nat.add_comm v 6]
theorem fo_le {f g : Nat → Nat} : ∀ n, (∀ v, v < n → f v ≤ g v) → fo (· + ·) 0 f n ≤ fo (· + ·) 0 g n
  | 0, _ => Nat.le_refl _
  | n + 1, h => by
    show fo (· + ·) 0 f n + f n ≤ fo (· + ·) 0 g n + g n
    have := fo_le n (fun v hv => h v (by omega))
    have := h n (by omega)
    omega
theorem fo_nil {f : Nat → Nat} : ∀ n, (∀ v, v < n → f v = 0) → fo (· + ·) 0 f n = 0
  | 0, _ => rfl
  | n + 1, h => by
    show fo (· + ·) 0 f n + f n = 0
    rw [fo_nil n (fun v hv => h v (by omega)), h n (by omega)]
theorem nz_hL (d : Nat → Nat) : nzc (hL d) 12 ≤ nzc d 12 := fo_le 12 (fun v _ => by
  show (if hL d v = 0 then 0 else 1) ≤ (if d v = 0 then 0 else 1)
  unfold hL
  by_cases h : v < 6
  · rw [if_pos h]; exact Nat.le_refl _
  · rw [if_neg h, if_pos rfl]; exact Nat.zero_le _)
theorem nz_hR (d : Nat → Nat) : nzc (hR d) 12 ≤ nzc d 12 := fo_le 12 (fun v _ => by
  show (if hR d v = 0 then 0 else 1) ≤ (if d v = 0 then 0 else 1)
  unfold hR
  by_cases h : v < 6
  · rw [if_pos h, if_pos rfl]; exact Nat.zero_le _
  · rw [if_neg h]; exact Nat.le_refl _)
theorem hS_sum (f : Nat → Nat) (d : Nat → Nat) (h0 : f 0 = 0) : fo (· + ·) 0 (fun v => f (hS d v)) 12 ≤ fo (· + ·) 0 (fun v => f (d v)) 12 := by
  have e1 := fo_app (op := (· + ·)) (z := (0 : Nat)) (fun a b c => Nat.add_assoc a b c) Nat.add_zero (f := fun v => f (hS d v)) 6 6
  have e2 := fo_app (op := (· + ·)) (z := (0 : Nat)) (fun a b c => Nat.add_assoc a b c) Nat.add_zero (f := fun v => f (d v)) 6 6
  show fo _ _ _ (6 + 6) ≤ fo _ _ _ (6 + 6)
  rw [e1, e2, fo_nil 6 (f := fun i => f (hS d (6 + i))) (fun v _ => by show f (hS d (6 + v)) = 0; unfold hS; rw [if_neg (by omega), h0])]
  have e3 : fo (· + ·) 0 (fun v => f (hS d v)) 6 = fo (· + ·) 0 (fun i => f (d (6 + i))) 6 := fo_congr 6 (fun v hv => by unfold hS; rw [if_pos hv, Nat.add_comm v 6])
  show fo _ _ _ 6 + 0 ≤ fo _ _ _ 6 + fo _ _ _ 6
  rw [e3]; omega
theorem nz_hS (d : Nat → Nat) : nzc (hS d) 12 ≤ nzc d 12 := hS_sum (fun x => if x = 0 then 0 else 1) d rfl
theorem Dok.L {d : Nat → Nat} (h : Dok G d) : Dok G (hL d) := ⟨fun v hv => by
  unfold hL
  split
  · exact h.1 v hv
  · exact ⟨by omega, fun q => by omega⟩, Nat.le_trans (nz_hL d) h.2⟩
theorem Dok.R {d : Nat → Nat} (h : Dok G d) : Dok G (hR d) := ⟨fun v hv => by
  unfold hR
  split
  · exact ⟨by omega, fun q => by omega⟩
  · exact h.1 v hv, Nat.le_trans (nz_hR d) h.2⟩
theorem Dok.S {d : Nat → Nat} (h : Dok G d) : Dok G (hS d) := ⟨fun v hv => by
  unfold hS
  split
  · have := h.1 (v + 6) (by omega)
    rw [Nat.add_mod_right] at this
    exact this
  · exact ⟨by omega, fun q => by omega⟩, Nat.le_trans (nz_hS d) h.2⟩
/-- the keys that gaps can have -/
def KL : List Nat := ((List.range 4096).filter (fun m => decide (m / 1024 % 4 + m / 256 % 4 + m / 64 % 4 + m / 16 % 4 + m / 4 % 4 + m % 4 ≤ 3))).map (fun m => m * 4096)
theorem KL_len : KL.length = 84 := by decide +kernel
theorem ky6 {d : Nat → Nat} : ky d 6 = 1024 * d 0 + 256 * d 1 + 64 * d 2 + 16 * d 3 + 4 * d 4 + d 5 := by
  show 4 * (4 * (4 * (4 * (4 * (4 * 0 + d 0) + d 1) + d 2) + d 3) + d 4) + d 5 = _
  omega
theorem ky12 {d : Nat → Nat} : ky d 12 = 4096 * ky d 6 + (1024 * d 6 + 256 * d 7 + 64 * d 8 + 16 * d 9 + 4 * d 10 + d 11) := by
  show 4 * (4 * (4 * (4 * (4 * (4 * ky d 6 + d 6) + d 7) + d 8) + d 9) + d 10) + d 11 = _
  omega
theorem KL_mem {d : Nat → Nat} (h0 : ∀ v, 6 ≤ v → d v = 0) (h3 : dsum d 12 ≤ 3) : ky d 12 ∈ KL := by
  have hs : d 0 + d 1 + d 2 + d 3 + d 4 + d 5 ≤ 3 := by
    have e : dsum d 12 = 0 + d 0 + d 1 + d 2 + d 3 + d 4 + d 5 + d 6 + d 7 + d 8 + d 9 + d 10 + d 11 := rfl
    omega
  have e12 := ky12 (d := d)
  rw [h0 6 (by omega), h0 7 (by omega), h0 8 (by omega), h0 9 (by omega), h0 10 (by omega), h0 11 (by omega)] at e12
  have e6 := ky6 (d := d)
  unfold KL
  rw [List.mem_map]
  refine ⟨ky d 6, List.mem_filter.mpr ⟨List.mem_range.mpr (by omega), decide_eq_true ?_⟩, by omega⟩
  have hk : ∀ v, v < 6 → d v ≤ 3 := fun v hv => by
    rcases (show v = 0 ∨ v = 1 ∨ v = 2 ∨ v = 3 ∨ v = 4 ∨ v = 5 by omega) with z | z | z | z | z | z <;> subst z <;> omega
  have dig : ∀ j v, v + 1 + j = 6 → ky d 6 / 4 ^ j % 4 = d v := fun j v hv => by
    have h1 := ky_div (d := d) j (v + 1) (fun u hu => hk u (by omega))
    rw [hv] at h1
    have := hk v (by omega)
    rw [h1]
    show (4 * ky d v + d v) % 4 = d v
    omega
  have b0 : ky d 6 / 1024 % 4 = d 0 := dig 5 0 rfl
  have b1 : ky d 6 / 256 % 4 = d 1 := dig 4 1 rfl
  have b2 : ky d 6 / 64 % 4 = d 2 := dig 3 2 rfl
  have b3 : ky d 6 / 16 % 4 = d 3 := dig 2 3 rfl
  have b4 : ky d 6 / 4 % 4 = d 4 := dig 1 4 rfl
  have b5 : ky d 6 % 4 = d 5 := by
    have := dig 0 5 rfl
    rw [Nat.pow_zero, Nat.div_one] at this
    exact this
  rw [b0, b1, b2, b3, b4, b5]
  exact hs
theorem sub_len {A : List Nat} : ∀ {B : List Nat}, A.Nodup → (∀ x, x ∈ A → x ∈ B) → A.length ≤ B.length := by
  induction A with
  | nil => intro B _ _; exact Nat.zero_le _
  | cons a A ih =>
    intro B hn hs
    have ha : a ∈ B := hs a (List.mem_cons_self ..)
    have h2 := List.nodup_cons.mp hn
    have h3 := ih (B := B.erase a) h2.2 (fun x hx => by
      refine (List.mem_erase_of_ne (fun q => h2.1 (by rw [← q]; exact hx))).mpr (hs x (List.mem_cons_of_mem _ hx)))
    rw [List.length_erase_of_mem ha] at h3
    have : 0 < B.length := List.length_pos_of_mem ha
    rw [List.length_cons]
    omega
/-- a sum kept in rows from a on -/
def GS (σ : Mem) (a : Nat) (N : List (Nat × Int)) : Prop := σ.1 a 0 = i32 N.length ∧ ∀ (t : Nat) (p : Nat × Int), N[t]? = some p → σ.1 (a + 1) t = i32 p.1 ∧ σ.2 (a + 2) t = oi p.2 ∧ σ.1 (a + 3) t = i32 (pl (dk p.1) 12)
def nsm (g : Nat → Int) : List (Nat × Int) → Int
  | [] => 0
  | p :: N => p.2 * g p.1 + nsm g N
theorem nsm_app {g : Nat → Int} : ∀ A B : List (Nat × Int), nsm g (A ++ B) = nsm g A + nsm g B
  | [], B => by show nsm g B = 0 + nsm g B; omega
  | p :: A, B => by
    show p.2 * g p.1 + nsm g (A ++ B) = p.2 * g p.1 + nsm g A + nsm g B
    rw [nsm_app A B]; omega
theorem nsm_set {g : Nat → Int} : ∀ (N : List (Nat × Int)) (t κ : Nat) (z w : Int), N[t]? = some (κ, z) → nsm g (N.set t (κ, z + w)) = nsm g N + w * g κ
  | [], t, κ, z, w, h => by simp at h
  | p :: N, 0, κ, z, w, h => by
    have : p = (κ, z) := Option.some.inj h
    subst this
    show (z + w) * g κ + nsm g N = z * g κ + nsm g N + w * g κ
    rw [Int.add_mul]; omega
  | p :: N, t + 1, κ, z, w, h => by
    show p.2 * g p.1 + nsm g (N.set t (κ, z + w)) = p.2 * g p.1 + nsm g N + w * g κ
    rw [nsm_set N t κ z w h]; omega
def KOK (G : GD) (κ : Nat) : Prop := Dok G (dk κ) ∧ ky (dk κ) 12 = κ ∧ κ ∈ KL ∧ κ < 4 ^ 12
theorem KOK_of {d : Nat → Nat} (hd : Dok G d) (h0 : ∀ v, 6 ≤ v → d v = 0) (h3 : dsum d 12 ≤ 3) : KOK G (ky d 12) := by
  have hk : ∀ v, v < 12 → d v ≤ 3 := fun v hv => by have := (hd.1 v hv).1; omega
  exact ⟨hd.congr (fun v hv => (dk_ky hk hv).symm), ky_congr 12 (fun v hv => dk_ky hk hv), KL_mem h0 h3, ky_lt 12 hk⟩
/-- a place for a sum: a, its rows of 455 -/
def SP (a : Nat) : Prop := rf a 1 = a + 1 ∧ rf a 2 = a + 2 ∧ rf a 3 = a + 3 ∧ ln (a + 1) = 455 ∧ ln (a + 2) = 455 ∧ ln (a + 3) = 455
theorem SP_gap {k : Nat} (h : k < 6) : SP (104 + 4 * k) ∧ rf 99 k = 104 + 4 * k := by
  have h1 : (List.range 6).all (fun k => rf (104 + 4 * k) 1 == 104 + 4 * k + 1 && (rf (104 + 4 * k) 2 == 104 + 4 * k + 2 && (rf (104 + 4 * k) 3 == 104 + 4 * k + 3 && (ln (104 + 4 * k + 1) == 455 && (ln (104 + 4 * k + 2) == 455 && (ln (104 + 4 * k + 3) == 455 && rf 99 k == 104 + 4 * k)))))) = true := by decide +kernel
  have h2 := List.all_eq_true.mp h1 k (List.mem_range.mpr h)
  simp only [Bool.and_eq_true, beq_iff_eq] at h2
  exact ⟨⟨h2.1, h2.2.1, h2.2.2.1, h2.2.2.2.1, h2.2.2.2.2.1, h2.2.2.2.2.2.1⟩, h2.2.2.2.2.2.2⟩
def FSa (a : Nat) (σ τ : Mem) : Prop := (∀ x, x ≠ a → x ≠ a + 1 → x ≠ a + 3 → τ.1 x = σ.1 x) ∧ ∀ x, x ≠ a + 2 → τ.2 x = σ.2 x
theorem FSa.refl {a : Nat} : FSa a σ σ := ⟨fun _ _ _ _ => rfl, fun _ _ => rfl⟩
theorem FSa.trans {a : Nat} {τ υ : Mem} (h : FSa a σ τ) (k : FSa a τ υ) : FSa a σ υ := ⟨fun x h1 h2 h3 => (k.1 x h1 h2 h3).trans (h.1 x h1 h2 h3), fun x h1 => (k.2 x h1).trans (h.2 x h1)⟩
def NOK (G : GD) (N : List (Nat × Int)) : Prop := (∀ p, p ∈ N → KOK G p.1) ∧ (N.map (fun p => p.1)).Nodup
theorem NOK.len {N : List (Nat × Int)} (h : NOK G N) : N.length ≤ 84 := by
  have := sub_len (B := KL) h.2 (fun x hx => by
    obtain ⟨p, hp, rfl⟩ := List.mem_map.mp hx
    exact (h.1 p hp).2.2.1)
  rw [List.length_map, KL_len] at this
  exact this
theorem c_appendN {a κ : Nat} {z : Int} {N : List (Nat × Int)} (sp : SP a) (hS : GS σ a N) (hN : NOK G N) (hκ : KOK G κ) (hnew : ∀ p, p ∈ N → p.1 ≠ κ) : ∃ τ, f_X9_append σ a (i32 κ) (oi z) = some τ ∧ FSa a σ τ ∧ GS τ a (N ++ [(κ, z)]) ∧ NOK G (N ++ [(κ, z)]) := by
  have hl := hN.len
  obtain ⟨r1, r2, r3, l1, l2, l3⟩ := sp
  have hpl : ∀ τ : Mem, f_X9_placesOf τ (i32 κ) = some (i32 (pl (dk κ) 12)) := fun τ => by
    have := c_placesOf (σ := τ) (d := dk κ) (fun u hu => by have := (hκ.1.1 u hu).1; omega) hκ.1.2
    rw [hκ.2.1] at this
    exact this
  have n1 : ¬ (455 : Int32) ≤ i32 N.length := by rw [show (455 : Int32) = i32 455 from rfl]; exact i_nle (by omega) (by omega)
  unfold f_X9_append
  rw [e_gF, hS.1, if_neg n1, e_gF, hS.1, r1, e_pI l1 (by omega) (by omega), e_gF, wI_1, if_neg (by omega), hS.1, r2, e_pL l2 (by omega) (by omega), e_gF, wL_1, wI_1, if_neg (by omega), hS.1, hpl, e_bs, r3, e_pI l3 (by omega) (by omega), e_gF, wI_1, if_neg (by omega), wL_1, wI_1, if_neg (by omega), hS.1, i32_1, i32_add, e_pF]
  refine ⟨_, rfl, ⟨fun x h1 h2 h3 => ?_, fun x hx => ?_⟩, ⟨?_, fun t p hp => ?_⟩, ⟨fun p hp => ?_, ?_⟩⟩
  · funext y
    rw [wI_1, if_neg (fun z => h1 z.1), wI_1, if_neg (fun z => h3 z.1), wL_1, wI_1, if_neg (fun z => h2 z.1)]
  · funext y
    rw [wI_2, wI_2, wL_2, if_neg (fun z => hx z.1), wI_2]
  · rw [wI_1, if_pos ⟨rfl, rfl⟩, List.length_append, List.length_singleton]
  · by_cases h5 : t < N.length
    · rw [List.getElem?_append_left h5] at hp
      have := hS.2 t p hp
      refine ⟨?_, ?_, ?_⟩
      · rw [wI_1, if_neg (by omega), wI_1, if_neg (by omega), wL_1, wI_1, if_neg (by omega)]; exact this.1
      · rw [wI_2, wI_2, wL_2, if_neg (by omega), wI_2]; exact this.2.1
      · rw [wI_1, if_neg (by omega), wI_1, if_neg (by omega), wL_1, wI_1, if_neg (by omega)]; exact this.2.2
    · rw [List.getElem?_append_right (by omega)] at hp
      obtain ⟨hq3, _⟩ := (List.getElem?_eq_some_iff.mp hp)
      rw [List.length_singleton] at hq3
      have hte : t = N.length := by omega
      subst hte
      have hpe : p = (κ, z) := by
        rw [Nat.sub_self] at hp
        exact (Option.some.inj hp).symm
      subst hpe
      refine ⟨?_, ?_, ?_⟩
      · rw [wI_1, if_neg (by omega), wI_1, if_neg (by omega), wL_1, wI_1, if_pos ⟨rfl, rfl⟩]
      · rw [wI_2, wI_2, wL_2, if_pos ⟨rfl, rfl⟩]
      · rw [wI_1, if_neg (by omega), wI_1, if_pos ⟨rfl, rfl⟩]
  · rw [List.mem_append, List.mem_singleton] at hp
    rcases hp with hp | hp
    · exact hN.1 p hp
    · rw [hp]; exact hκ
  · rw [List.map_append, List.nodup_append]
    refine ⟨hN.2, by simp, fun x hx y hy => ?_⟩
    obtain ⟨p, hp, rfl⟩ := List.mem_map.mp hx
    have : y = κ := by simpa using hy
    rw [this]
    exact hnew p hp
theorem c_merge {a κ : Nat} {z : Int} {N : List (Nat × Int)} (sp : SP a) (hS : GS σ a N) (hN : NOK G N) (hκ : KOK G κ) : ∃ τ N', f_X9_merge σ a (i32 κ) (oi z) = some τ ∧ FSa a σ τ ∧ GS τ a N' ∧ NOK G N' ∧ ∀ g, oi (nsm g N') = oi (nsm g N + z * g κ) := by
  have hl := hN.len
  have sp' := sp
  obtain ⟨r1, r2, r3, l1, l2, l3⟩ := sp
  unfold f_X9_merge
  by_cases hz : oi z = 0
  · rw [if_pos hz]
    exact ⟨σ, N, rfl, FSa.refl, hS, hN, fun g => by rw [← oi_add, ← oi_mul, hz, Int64.zero_mul, Int64.add_zero]⟩
  rw [if_neg hz]
  have hloop := loop_inv (body := fun (z5 : Int32) => l_X9_merge_10 σ a (i32 κ) z5) (fun n s => ∃ t, t ≤ N.length ∧ n = N.length - t ∧ s = i32 t ∧ ∀ (q : Nat) (p : Nat × Int), q < t → N[q]? = some p → p.1 ≠ κ) (fun r => (r = Sum.inr (Sum.inl ()) ∧ ∀ p, p ∈ N → p.1 ≠ κ) ∨ ∃ (t : Nat) (w : Int), N[t]? = some (κ, w) ∧ r = Sum.inl (i32 t)) ?_ N.length 0 ⟨0, by omega, rfl, rfl, fun q p hq => absurd hq (Nat.not_lt_zero _)⟩
  · obtain ⟨r, e, hc⟩ := hloop
    rw [e, e_bs]
    rcases hc with ⟨rfl, hnew⟩ | ⟨t, w, ht, rfl⟩
    · obtain ⟨τ, e2, f2, g2, n2⟩ := c_appendN (z := z) sp' hS hN hκ hnew
      refine ⟨τ, _, ?_, f2, g2, n2, fun g => ?_⟩
      · show (some (Sum.inl ()) : Option (Unit ⊕ Mem)).bind (Sum.elim (fun (z0 : Unit) => j_X9_merge_48 σ a (i32 κ) (oi z)) some) = _
        rw [e_bs]
        show j_X9_merge_48 σ a (i32 κ) (oi z) = _
        unfold j_X9_merge_48
        rw [e2, e_bs]
      · rw [nsm_app]
        show oi (nsm g N + (z * g κ + 0)) = _
        rw [Int.add_zero]
    · have htl : t < N.length := (List.getElem?_eq_some_iff.mp ht).1
      have hrow := hS.2 t _ ht
      refine ⟨wL σ (a + 2) t (oi w + oi z), N.set t (κ, w + z), ?_, ⟨fun x _ _ _ => rfl, fun x hx => by funext y; rw [wL_2, if_neg (fun q => hx q.1)]⟩, ⟨?_, fun q p hq => ?_⟩, ⟨fun p hp => ?_, ?_⟩, fun g => congrArg oi (nsm_set N t κ w z ht)⟩
      · show ((j_X9_merge_30 σ a (oi z) (i32 t)) : Option (Unit ⊕ Mem)).bind (Sum.elim (fun (z0 : Unit) => j_X9_merge_48 σ a (i32 κ) (oi z)) some) = _
        unfold j_X9_merge_30
        rw [r2, e_gL l2 (by omega) (by omega), hrow.2.1, e_pL l2 (by omega) (by omega), e_bs]
        rfl
      · rw [List.length_set]; exact hS.1
      · rw [List.getElem?_set] at hq
        by_cases hqt : t = q
        · subst hqt
          rw [if_pos rfl, if_pos htl] at hq
          have : p = (κ, w + z) := (Option.some.inj hq).symm
          subst this
          refine ⟨hrow.1, ?_, hrow.2.2⟩
          rw [wL_2, if_pos ⟨rfl, rfl⟩, oi_add]
        · rw [if_neg hqt] at hq
          have := hS.2 q p hq
          refine ⟨this.1, ?_, this.2.2⟩
          rw [wL_2, if_neg (fun q => hqt q.2.symm)]
          exact this.2.1
      · rcases List.mem_or_eq_of_mem_set hp with h | h
        · exact hN.1 p h
        · rw [h]; exact hκ
      · have : (N.set t (κ, w + z)).map (fun p => p.1) = N.map (fun p => p.1) := by
          rw [List.map_set]
          refine List.ext_getElem? (fun i => ?_)
          rw [List.getElem?_set, List.getElem?_map]
          by_cases hti : t = i
          · subst hti
            rw [if_pos rfl, if_pos (by rw [List.length_map]; exact htl), ht]
            rfl
          · rw [if_neg hti]
        rw [this]
        exact hN.2
  · rintro n s ⟨t, ht, rfl, rfl, hd⟩
    by_cases htn : t = N.length
    · right
      subst htn
      refine ⟨_, ?_, Or.inl ⟨rfl, fun p hp => ?_⟩⟩
      · unfold l_X9_merge_10
        rw [e_gF, hS.1, if_pos (i_le (Nat.le_refl _) (by omega))]
      · obtain ⟨q, hq, rfl⟩ := List.mem_iff_getElem.mp hp
        exact hd q _ hq (List.getElem?_eq_getElem hq)
    · have ht1 : t < N.length := by omega
      have hget : N[t]? = some N[t] := List.getElem?_eq_getElem ht1
      have hrow := hS.2 t _ hget
      have hk1 := (hN.1 N[t] (List.getElem_mem ht1)).2.2.2
      have hbody : l_X9_merge_10 σ a (i32 κ) (i32 t) = if i32 N[t].1 = i32 κ then some (Sum.inr (Sum.inl (i32 t))) else some (Sum.inl (i32 t + 1)) := by
        unfold l_X9_merge_10
        rw [e_gF, hS.1, if_neg (i_nle ht1 (by omega)), r1, e_gI l1 (by omega) (by omega), hrow.1]
      have hk2 := hκ.2.2.2
      by_cases he : N[t].1 = κ
      · right
        refine ⟨Sum.inl (i32 t), ?_, Or.inr ⟨t, N[t].2, ?_, rfl⟩⟩
        · rw [hbody, he, if_pos rfl]
        · rw [hget, ← he]
      · left
        refine ⟨i32 (t + 1), N.length - (t + 1), by omega, ?_, t + 1, by omega, rfl, rfl, fun q p hq hp => ?_⟩
        · rw [hbody, if_neg (i_ne he (by omega) (by omega)), i32_1, i32_add]
        · by_cases hqt : q = t
          · subst hqt
            rw [hget] at hp
            rw [← Option.some.inj hp]
            exact he
          · exact hd q p (by omega) hp
end GK
end
section
/-! gaps: found, and what they are at a row -/
section GP
variable {σ : Mem} {G : GD}
def tabD (tab : Nat → Int64) (d : Nat → Nat) (x : Nat → Int) : Prop := tab 0 = oi 1 ∧ ∀ v, v < 12 → d v ≠ 0 → tab (4 * v + d v) = oi (bn (d v) (x v))
theorem TbU.tabD {τ : Mem} {t : Nat} {x : Nat → Int} {P : Nat → Prop} {d : Nat → Nat} (h : TbU G τ t x P) (hd : Dok G d) (h0 : P 0) (hP : ∀ v, v < 12 → d v ≠ 0 → P v) : tabD (τ.2 t) d x := by
  refine ⟨(h 0 (by omega) h0).1, fun v hv hne => ?_⟩
  have h1 := h v hv (hP v hv hne)
  have h2 := hd.1 v hv
  rcases (show d v = 1 ∨ d v = 2 by omega) with z | z
  · rw [z]; exact h1.2.1
  · have h3 := h1.2.2 (h2.2 z)
    rw [z]; exact h3
theorem c_factors {t : Nat} {d : Nat → Nat} {x : Nat → Int} (ht : ln t = 64) (hd : Dok G d) (hT : tabD (σ.2 t) d x) : f_X9_factors σ (i32 (pl d 12)) t = some (oi (pr d x)) := by
  have h3 : ∀ u, u < 12 → d u ≤ 3 := fun u hu => by have := (hd.1 u hu).1; omega
  have hpl := pl_lt (d := d) 12 (Nat.le_refl _) h3
  have hpl2 : pl d 12 < 64 ^ 3 := Nat.lt_of_lt_of_le hpl (Nat.pow_le_pow_right (by omega) hd.2)
  have hT3 := T3_pl (tab := σ.2 t) (d := d) (x := x) hT.1 h3 hT.2 12 (Nat.le_refl _) hd.2
  unfold f_X9_factors
  rw [i_f0, e_gL ht (by omega) (by omega), i_f1 (by omega), e_gL ht (by omega) (by omega), i_f2 (by omega), e_gL ht (by omega) (by omega)]
  unfold T3 at hT3
  rw [hT3]
  rfl
theorem c_valueN {a t : Nat} {N : List (Nat × Int)} {x : Nat → Int} (sp : SP a) (ht : ln t = 64) (hS : GS σ a N) (hN : NOK G N) (hT : ∀ p, p ∈ N → tabD (σ.2 t) (dk p.1) x) : f_X9_value σ a t = some (oi (nsm (fun κ => pr (dk κ) x) N)) := by
  have hl := hN.len
  obtain ⟨r1, r2, r3, l1, l2, l3⟩ := sp
  unfold f_X9_value
  refine loop_at (fun q => (oi (nsm (fun κ => pr (dk κ) x) (N.take q)), i32 q)) 0 N.length (by rw [List.take_zero]; rfl) (Nat.zero_le _) (fun q _ hq => ?_) ?_
  · show l_X9_value_5 σ a t _ (i32 q) = _
    unfold l_X9_value_5
    have hg := List.getElem?_eq_getElem hq
    have hmem := List.getElem_mem hq
    rw [List.take_succ_eq_append_getElem hq, nsm_app]
    generalize N[q] = p at hg hmem
    have he := hS.2 q p hg
    have hd := (hN.1 p hmem).1
    have h3 : ∀ u, u < 12 → dk p.1 u ≤ 3 := fun u hu => by have := (hd.1 u hu).1; omega
    have hpl := pl_lt (d := dk p.1) 12 (Nat.le_refl _) h3
    have hpl2 : pl (dk p.1) 12 < 64 ^ 3 := Nat.lt_of_lt_of_le hpl (Nat.pow_le_pow_right (by omega) hd.2)
    have hT3 := T3_pl (tab := σ.2 t) (d := dk p.1) (x := x) (hT p hmem).1 h3 (hT p hmem).2 12 (Nat.le_refl _) hd.2
    rw [e_gF, hS.1, if_neg (i_nle hq (by omega)), r3, e_gI l3 (by omega) (by omega), he.2.2, r2, e_gL l2 (by omega) (by omega), he.2.1, i_f0, e_gL ht (by omega) (by omega), i_f1 (by omega), e_gL ht (by omega) (by omega), i_f2 (by omega), e_gL ht (by omega) (by omega), e_bd, i32_1, i32_add]
    have e9 : oi p.2 * σ.2 t (pl (dk p.1) 12 % 64) * σ.2 t (pl (dk p.1) 12 / 64 % 64) * σ.2 t (pl (dk p.1) 12 / 4096 % 64) = oi (p.2 * pr (dk p.1) x) := by
      unfold pr
      rw [← oi_mul, ← hT3]
      unfold T3
      simp only [Int64.mul_assoc]
    rw [e9, oi_add]
    congr 4
    show _ = _ + (p.2 * pr (dk p.1) x + 0)
    rw [Int.add_zero]
  · show l_X9_value_5 σ a t _ (i32 N.length) = _
    unfold l_X9_value_5
    rw [e_gF, hS.1, if_pos (i_le (Nat.le_refl _) (by omega)), List.take_length]
theorem and_hi {x : Nat} (hx : x < 4 ^ 12) : i32 x &&& 16773120 = i32 (x / 4096 * 4096) := by
  have h : i32 x &&& i32 (4095 * 2 ^ 12) = i32 (x &&& 4095 * 2 ^ 12) := i_and x (4095 * 2 ^ 12)
  have h2 : x &&& 4095 * 2 ^ 12 = x / 2 ^ 12 * 2 ^ 12 := by
    apply Nat.eq_of_testBit_eq
    intro i
    rw [Nat.testBit_and, Nat.testBit_mul_two_pow, Nat.testBit_mul_two_pow, show 4095 = 2 ^ 12 - 1 from rfl, Nat.testBit_two_pow_sub_one, Nat.testBit_div_two_pow]
    by_cases h1 : 12 ≤ i
    · rw [decide_eq_true h1, Bool.true_and, Bool.true_and, Nat.sub_add_cancel h1]
      by_cases h3 : i - 12 < 12
      · rw [decide_eq_true h3, Bool.and_true]
      · rw [decide_eq_false h3, Bool.and_false]
        refine (Nat.testBit_lt_two_pow (Nat.lt_of_lt_of_le hx ?_)).symm
        rw [show 4 ^ 12 = 2 ^ 24 from by decide]
        exact Nat.pow_le_pow_right (by omega) (by omega)
    · rw [decide_eq_false h1, Bool.false_and, Bool.and_false, Bool.false_and]
  rw [h2] at h
  exact h
theorem ky_hL {d : Nat → Nat} (hd : ∀ v, v < 12 → d v ≤ 3) : ky (hL d) 12 = ky d 12 / 4096 * 4096 := by
  have e1 := ky12 (d := d)
  have e2 := ky12 (d := hL d)
  have e3 : ky (hL d) 6 = ky d 6 := ky_congr 6 (fun v hv => if_pos hv)
  have z : ∀ v, 6 ≤ v → hL d v = 0 := fun v hv => if_neg (by omega)
  rw [z 6 (by omega), z 7 (by omega), z 8 (by omega), z 9 (by omega), z 10 (by omega), z 11 (by omega), e3] at e2
  have a1 := hd 6 (by omega)
  have a2 := hd 7 (by omega)
  have a3 := hd 8 (by omega)
  have a4 := hd 9 (by omega)
  have a5 := hd 10 (by omega)
  have a6 := hd 11 (by omega)
  omega
theorem ky_hR {d : Nat → Nat} (hd : ∀ v, v < 12 → d v ≤ 3) : ky (hR d) 12 = ky d 12 % 4096 ∧ ky (hS d) 12 = ky (hR d) 12 * 4096 := by
  have e1 := ky12 (d := d)
  have e2 := ky12 (d := hR d)
  have e3 := ky12 (d := hS d)
  have e4 := ky6 (d := hR d)
  have e5 := ky6 (d := hS d)
  have z : ∀ v, v < 6 → hR d v = 0 := fun v hv => if_pos hv
  have z2 : ∀ v, 6 ≤ v → hR d v = d v := fun v hv => if_neg (by omega)
  have s : ∀ v, v < 6 → hS d v = d (v + 6) := fun v hv => if_pos hv
  have s2 : ∀ v, 6 ≤ v → hS d v = 0 := fun v hv => if_neg (by omega)
  rw [z 0 (by omega), z 1 (by omega), z 2 (by omega), z 3 (by omega), z 4 (by omega), z 5 (by omega)] at e4
  rw [z2 6 (by omega), z2 7 (by omega), z2 8 (by omega), z2 9 (by omega), z2 10 (by omega), z2 11 (by omega)] at e2
  rw [s2 6 (by omega), s2 7 (by omega), s2 8 (by omega), s2 9 (by omega), s2 10 (by omega), s2 11 (by omega)] at e3
  rw [s 0 (by omega), s 1 (by omega), s 2 (by omega), s 3 (by omega), s 4 (by omega), s 5 (by omega)] at e5
  have e5' : ky (hS d) 6 = 1024 * d 6 + 256 * d 7 + 64 * d 8 + 16 * d 9 + 4 * d 10 + d 11 := e5
  clear e5
  have a1 := hd 6 (by omega)
  have a2 := hd 7 (by omega)
  have a3 := hd 8 (by omega)
  have a4 := hd 9 (by omega)
  have a5 := hd 10 (by omega)
  have a6 := hd 11 (by omega)
  constructor
  · omega
  · show ky (hS d) 12 = ky (hR d) 12 * 4096
    omega
theorem sum_wt : ∀ (W e : List Nat), (∀ w, w ∈ W → 1 ≤ w) → e.length = W.length → fo (· + ·) 0 (fun p => e.getD p 0) e.length ≤ pwt W e := by
  intro W
  induction W with
  | nil =>
    intro e _ hl
    have : e = [] := List.length_eq_zero_iff.mp hl
    subst this; exact Nat.le_refl 0
  | cons w W ih =>
    intro e hw hl
    cases e with
    | nil => simp at hl
    | cons d e =>
      have h1 := ih e (fun x hx => hw x (List.mem_cons_of_mem _ hx)) (by simpa using hl)
      have h2 := hw w (List.mem_cons_self ..)
      rw [List.length_cons, fo_front (fun a b c => Nat.add_assoc a b c) Nat.add_zero Nat.zero_add]
      show d + fo (· + ·) 0 (fun i => (d :: e).getD (i + 1) 0) e.length ≤ d * w + pwt W e
      have h3 : (fun i => (d :: e).getD (i + 1) 0) = fun i => e.getD i 0 := funext (fun i => by rw [List.getD_cons_succ])
      have h4 : d ≤ d * w := Nat.le_mul_of_pos_right d h2
      rw [h3]
      omega
theorem Tk_dok (hG : GOK G) {k : Nat} (hk : k < gn G) {e : List Nat} (he : e ∈ Tk G k) : Dok G (dg G e) ∧ dsum (dg G e) 12 ≤ 3 ∧ e.length = 2 * gn G := by
  have hw := (hG.2.2.1 k hk).2
  obtain ⟨hp, hok⟩ := List.mem_filter.mp he
  have hne : cf G k e ≠ 0 := fun z => by
    unfold okT at hok
    rw [z] at hok
    exact absurd hok (by decide)
  have hg := (cf_ok hG hk).1 e hne
  have h1 := (pts_mem _ _ _ (wl_pos hG)).mp hp
  refine ⟨⟨fun v hv => ⟨dg_le (G := G) hg.2.1 v, fun h2 => ?_⟩, Nat.le_trans (nzc_le hG hp) hw⟩, ?_, by rw [h1.1, wl_len]⟩
  · have h3 := dg_good hg hv (by omega)
    have h5 := dg_wt hG hp hv
    rw [h2] at h5
    have h6 := (hG.2.2.1 _ h3.2).1
    omega
  · have h2 := sum_wt (wl G) e (wl_pos hG) h1.1
    unfold dsum
    rw [fo12 hG (fun a b c => Nat.add_assoc a b c) Nat.add_zero (fun v hv h => dg_out hv h)]
    rw [h1.1, wl_len] at h2
    have e1 : fo (· + ·) 0 (fun p => dg G e (vp G p)) (2 * gn G) = fo (· + ·) 0 (fun p => e.getD p 0) (2 * gn G) := fo_congr _ (fun p hp => dg_vp hG hp)
    rw [e1]
    exact Nat.le_trans h2 (Nat.le_trans h1.2 hw)
theorem dsum_hL {d : Nat → Nat} : dsum (hL d) 12 ≤ dsum d 12 := fo_le 12 (fun v _ => by unfold hL; split <;> omega)
theorem dsum_hS {d : Nat → Nat} : dsum (hS d) 12 ≤ dsum d 12 := hS_sum (fun x => x) d rfl
/-- what a term adds to a gap -/
noncomputable def ctr (G : GD) (k : Nat) (x : Nat → Int) (g : Nat → Int) (e : List Nat) : Int := cf G k e * pr (hL (dg G e)) x * g (ky (hS (dg G e)) 12) + -(cf G k e) * pr (hR (dg G e)) x * g (ky (hL (dg G e)) 12)
theorem c_findGap (hG : GOK G) {k : Nat} (hk : k < 6) {T : List (List Nat)} {x : Nat → Int} (hT : CT G σ k T) (hTl : T.length ≤ 455) (hTm : ∀ e, e ∈ T → Dok G (dg G e) ∧ dsum (dg G e) 12 ≤ 3) (hB : Tb G σ 100 x) (h0 : σ.1 (104 + 4 * k) 0 = 0) : ∃ τ N, f_X7_findGap σ (48 + 4 * k) (104 + 4 * k) = some τ ∧ FSa (104 + 4 * k) σ τ ∧ GS τ (104 + 4 * k) N ∧ NOK G N ∧ ∀ g, oi (nsm g N) = oi (lsm (ctr G k x g) T) := by
  obtain ⟨r1, r2, r3, l1, l2, l3⟩ := rfk hk
  have sp := (SP_gap hk).1
  unfold f_X7_findGap
  have hloop := loop_inv (body := fun (z2 : (Mem × Int32)) => l_X7_findGap_2 (48 + 4 * k) (104 + 4 * k) z2.1 z2.2) (fun n z => ∃ q τ N, q ≤ T.length ∧ n = T.length - q ∧ z = (τ, i32 q) ∧ FSa (104 + 4 * k) σ τ ∧ GS τ (104 + 4 * k) N ∧ NOK G N ∧ ∀ g, oi (nsm g N) = oi (lsm (ctr G k x g) (T.take q))) (fun τ => ∃ N, FSa (104 + 4 * k) σ τ ∧ GS τ (104 + 4 * k) N ∧ NOK G N ∧ ∀ g, oi (nsm g N) = oi (lsm (ctr G k x g) T)) ?_ T.length (σ, 0) ⟨0, σ, [], by omega, rfl, rfl, FSa.refl, ⟨h0, fun t p hp => by simp at hp⟩, ⟨fun p hp => (by cases hp), List.nodup_nil⟩, fun g => by rw [List.take_zero]; rfl⟩
  · obtain ⟨τ, e, N, h1, h2, h3, h4⟩ := hloop
    exact ⟨τ, N, e, h1, h2, h3, h4⟩
  · rintro n z ⟨q, τ, N, hq, rfl, rfl, f, s, nk, hg⟩
    have hTt : CT G τ k T := hT.of (f.1 _ (by omega) (by omega) (by omega)) (f.1 _ (by omega) (by omega) (by omega)) (f.2 _ (by omega)) (f.1 _ (by omega) (by omega) (by omega))
    by_cases hqn : q = T.length
    · right
      subst hqn
      rw [List.take_length] at hg
      refine ⟨τ, ?_, N, f, s, nk, hg⟩
      show l_X7_findGap_2 (48 + 4 * k) (104 + 4 * k) τ (i32 T.length) = _
      unfold l_X7_findGap_2
      rw [e_gF, hTt.1, if_pos (i_le (Nat.le_refl _) (by omega))]
    · left
      have hq1 : q < T.length := by omega
      have hget := List.getElem?_eq_getElem hq1
      have hmem := List.getElem_mem hq1
      have htake : T.take (q + 1) = T.take q ++ [T[q]] := List.take_succ_eq_append_getElem hq1
      generalize T[q] = e at hget hmem htake
      obtain ⟨hd, hs3⟩ := hTm e hmem
      have he := hTt.2 q e hget
      have h3 : ∀ v, v < 12 → dg G e v ≤ 3 := fun v hv => by have := (hd.1 v hv).1; omega
      have hky := ky_lt (d := dg G e) 12 h3
      have kL : i32 (ky (dg G e) 12) &&& 16773120 = i32 (ky (hL (dg G e)) 12) := by rw [and_hi hky, ky_hL h3]
      have kR : i32 (ky (dg G e) 12) &&& 4095 = i32 (ky (hR (dg G e)) 12) := by
        rw [(ky_hR h3).1]; exact i_andmask _ 12
      have kS : i32 (ky (hR (dg G e)) 12) <<< ((12 : Int32) &&& 31) = i32 (ky (hS (dg G e)) 12) := by
        rw [(ky_hR h3).2]
        exact pk_shlN (n := ky (hR (dg G e)) 12) (12 &&& 31) 12 (by decide) (by rw [(ky_hR h3).1]; omega)
      have pL : ∀ υ : Mem, f_X9_placesOf υ (i32 (ky (hL (dg G e)) 12)) = some (i32 (pl (hL (dg G e)) 12)) := fun υ => c_placesOf (fun u hu => by have := (hd.L.1 u hu).1; omega) hd.L.2
      have pR : ∀ υ : Mem, f_X9_placesOf υ (i32 (ky (hR (dg G e)) 12)) = some (i32 (pl (hR (dg G e)) 12)) := fun υ => c_placesOf (fun u hu => by have := (hd.R.1 u hu).1; omega) hd.R.2
      have hB1 : Tb G τ 100 x := fun v hv => by rw [f.2 100 (by omega)]; exact hB v hv
      have fL := c_factors (σ := τ) (t := 100) (x := x) ln_100 hd.L (TbU.tabD (G := G) (P := fun _ => True) (fun v hv _ => hB1 v hv) hd.L trivial (fun _ _ _ => trivial))
      have okS : KOK G (ky (hS (dg G e)) 12) := KOK_of hd.S (fun v hv => if_neg (by omega)) (Nat.le_trans dsum_hS hs3)
      have okL : KOK G (ky (hL (dg G e)) 12) := KOK_of hd.L (fun v hv => if_neg (by omega)) (Nat.le_trans dsum_hL hs3)
      obtain ⟨τ1, N1, e1, f1, s1, n1, g1⟩ := c_merge (σ := τ) (z := cf G k e * pr (hL (dg G e)) x) sp s nk okS
      have hB2 : Tb G τ1 100 x := fun v hv => by rw [f1.2 100 (by omega)]; exact hB1 v hv
      have fR := c_factors (σ := τ1) (t := 100) (x := x) ln_100 hd.R (TbU.tabD (G := G) (P := fun _ => True) (fun v hv _ => hB2 v hv) hd.R trivial (fun _ _ _ => trivial))
      obtain ⟨τ2, N2, e2, f2, s2, n2, g2⟩ := c_merge (σ := τ1) (z := -(cf G k e) * pr (hR (dg G e)) x) sp s1 n1 okL
      refine ⟨(τ2, i32 (q + 1)), T.length - (q + 1), by omega, ?_, q + 1, τ2, N2, by omega, rfl, rfl, f.trans (f1.trans f2), s2, n2, fun g => ?_⟩
      · show l_X7_findGap_2 (48 + 4 * k) (104 + 4 * k) τ (i32 q) = _
        unfold l_X7_findGap_2
        have num1 : τ1.2 (50 + 4 * k) q = oi (cf G k e) := by rw [f1.2 _ (by omega)]; exact he.2.1
        rw [e_gF, hTt.1, if_neg (i_nle hq1 (by omega)), r1, e_gI l1 (by omega) (by omega), he.1, e_bd, kL, e_gI l1 (by omega) (by omega), he.1, e_bd, kR, r2, e_gL l2 (by omega) (by omega), he.2.1, pL, e_bs, fL, e_bs, kS, oi_mul, e1, e_bs, e_gL l2 (by omega) (by omega), num1, pR, e_bs, fR, e_bs, oi_neg, oi_mul, e2, e_bs, i32_1, i32_add]
      · rw [htake, lsm_app, g2, ← oi_add, g1, ← oi_add, hg]
        show _ = oi (lsm (ctr G k x g) (T.take q) + (ctr G k x g e + 0))
        rw [oi_add, oi_add]
        congr 1
        unfold ctr
        omega
theorem tk_mul (hG : GOK G) {k : Nat} (hk : k < gn G) (x : Nat → Int) : oi (lsm (fun e => cf G k e * Bn e (xl G x)) (Tk G k)) = oi (mul G x (fun i => x (6 + i)) k) := by
  have hn := hG.2.1
  unfold Tk
  rw [lsm_filter, ← psum_lsm, ← (cf_ok hG hk).2 (xl G x) (by rw [xl_len, wl_len])]
  unfold Fk
  congr 1
  refine mul_congr (fun i hi => ?_) (fun i hi => ?_) hk
  · rw [xl_get (by omega)]; unfold vp; rw [if_pos hi]
  · rw [xl_get (by omega)]; unfold vp; rw [if_neg (by omega), show gn G + i - gn G = i by omega]
theorem tw6l {a b : Nat → Int} {v : Nat} (h : v < 6) : two6 a b v = a v := if_pos h
theorem tw6r {a b : Nat → Int} {v : Nat} : two6 a b (6 + v) = b v := by
  unfold two6
  rw [if_neg (by omega), show 6 + v - 6 = v by omega]
theorem pr_hL {d : Nat → Nat} {x y : Nat → Int} (h : ∀ v, v < 6 → x v = y v) : pr (hL d) x = pr (hL d) y := pr_congr (fun v hv => by
  unfold hL
  by_cases h6 : v < 6
  · rw [if_pos h6, h v h6]
  · rw [if_neg h6]; rfl)
theorem pr_hR {d : Nat → Nat} {x y : Nat → Int} (h : ∀ v, v < 6 → x (6 + v) = y (6 + v)) : pr (hR d) x = pr (hR d) y := pr_congr (fun v hv => by
  unfold hR
  by_cases h6 : v < 6
  · rw [if_pos h6]; rfl
  · rw [if_neg h6, show v = 6 + (v - 6) by omega, h (v - 6) (by omega)])
/-- a gap, at a row -/
theorem gap_mul (hG : GOK G) {k : Nat} (hk : k < gn G) {A Y u : Nat → Int} : oi (lsm (ctr G k (two6 A Y) (fun κ => pr (dk κ) (two6 u O))) (Tk G k)) = oi (mul G A u k - mul G u Y k) := by
  have e1 : lsm (ctr G k (two6 A Y) (fun κ => pr (dk κ) (two6 u O))) (Tk G k) = lsm (fun e => cf G k e * Bn e (xl G (two6 A u)) + -(cf G k e) * Bn e (xl G (two6 u Y))) (Tk G k) := by
    refine lsm_congr _ (fun e he => ?_)
    obtain ⟨hd, hs3, hlen⟩ := Tk_dok hG hk he
    unfold ctr
    have p1 : pr (dk (ky (hS (dg G e)) 12)) (two6 u O) = pr (hR (dg G e)) (two6 A u) := by
      have a1 : pr (dk (ky (hS (dg G e)) 12)) (two6 u O) = pr (hS (dg G e)) (two6 u O) := pr_congr (fun v hv => by rw [dk_ky (fun w hw => by have := (hd.S.1 w hw).1; omega) hv])
      rw [a1]
      exact pr_shift (dg G e) u u (two6 u O) (two6 A u) (fun v hv => tw6l hv) (fun v _ => tw6r)
    have p2 : pr (dk (ky (hL (dg G e)) 12)) (two6 u O) = pr (hL (dg G e)) (two6 u Y) := by
      have a1 : pr (dk (ky (hL (dg G e)) 12)) (two6 u O) = pr (hL (dg G e)) (two6 u O) := pr_congr (fun v hv => by rw [dk_ky (fun w hw => by have := (hd.L.1 w hw).1; omega) hv])
      rw [a1]
      exact pr_hL (fun v hv => by rw [tw6l hv, tw6l hv])
    have p3 : pr (hL (dg G e)) (two6 A Y) = pr (hL (dg G e)) (two6 A u) := pr_hL (fun v hv => by rw [tw6l hv, tw6l hv])
    have p4 : pr (hR (dg G e)) (two6 A Y) = pr (hR (dg G e)) (two6 u Y) := pr_hR (fun v _ => by rw [tw6r, tw6r])
    show cf G k e * pr (hL (dg G e)) (two6 A Y) * pr (dk (ky (hS (dg G e)) 12)) (two6 u O) + -(cf G k e) * pr (hR (dg G e)) (two6 A Y) * pr (dk (ky (hL (dg G e)) 12)) (two6 u O) = _
    rw [p1, p2, p3, p4, ← val12 hG hlen, ← val12 hG hlen]
    have q1 := pr_halves (dg G e) (two6 A u)
    have q2 := pr_halves (dg G e) (two6 u Y)
    unfold pr at q1 q2
    rw [← q1, ← q2, Int.mul_assoc, Int.mul_assoc]
    congr 2
    exact Int.mul_comm _ _
  rw [e1]
  have e2 : ∀ L : List (List Nat), lsm (fun e => cf G k e * Bn e (xl G (two6 A u)) + -(cf G k e) * Bn e (xl G (two6 u Y))) L = lsm (fun e => cf G k e * Bn e (xl G (two6 A u))) L - lsm (fun e => cf G k e * Bn e (xl G (two6 u Y))) L := by
    intro L
    induction L with
    | nil => rfl
    | cons e L ih =>
      show cf G k e * Bn e (xl G (two6 A u)) + -(cf G k e) * Bn e (xl G (two6 u Y)) + lsm _ L = cf G k e * Bn e (xl G (two6 A u)) + lsm _ L - (cf G k e * Bn e (xl G (two6 u Y)) + lsm _ L)
      rw [ih, Int.neg_mul]
      omega
  rw [e2, ← oi_sub, tk_mul hG hk, tk_mul hG hk, oi_sub]
  have f1 : EqG G (two6 A u) A := fun i hi => tw6l (by have := hG.2.1; omega)
  have f2 : EqG G (fun i => two6 A u (6 + i)) u := fun i _ => tw6r
  have f3 : EqG G (two6 u Y) u := fun i hi => tw6l (by have := hG.2.1; omega)
  have f4 : EqG G (fun i => two6 u Y (6 + i)) Y := fun i _ => tw6r
  rw [(f1.times f2) k hk, (f3.times f4) k hk]
def GapOK (G : GD) (σ : Mem) (A Y : Nat → Int) : Prop := ∀ k, k < 6 → ∃ N, GS σ (104 + 4 * k) N ∧ NOK G N ∧ ∀ u, oi (nsm (fun κ => pr (dk κ) (two6 u O)) N) = oi (if k < gn G then mul G A u k - mul G u Y k else 0)
theorem GapOK.eqs {τ : Mem} {A Y : Nat → Int} (h : GapOK G σ A Y) (h1 : ∀ x, 104 ≤ x → x < 128 → τ.1 x = σ.1 x ∧ τ.2 x = σ.2 x) : GapOK G τ A Y := fun k hk => by
  obtain ⟨N, hS, hN, hu⟩ := h k hk
  refine ⟨N, ?_, hN, hu⟩
  unfold GS
  rw [(h1 (104 + 4 * k) (by omega) (by omega)).1, (h1 (104 + 4 * k + 1) (by omega) (by omega)).1, (h1 (104 + 4 * k + 2) (by omega) (by omega)).2, (h1 (104 + 4 * k + 3) (by omega) (by omega)).1]
  exact hS
theorem KL_left {κ v : Nat} (h : κ ∈ KL) (hv : v < 12) (h6 : 6 ≤ v) : dk κ v = 0 := by
  have key : KL.all (fun κ => (List.range 6).all (fun i => dk κ (6 + i) == 0)) = true := by decide +kernel
  have h1 := List.all_eq_true.mp (List.all_eq_true.mp key κ h) (v - 6) (List.mem_range.mpr (by omega))
  rw [show 6 + (v - 6) = v by omega] at h1
  exact eq_of_beq h1
theorem c_gapVal {k : Nat} {A Y u x : Nat → Int} (hk : k < 6) (h : GapOK G σ A Y) (hT : TbU G σ 100 x (fun v => v < 6)) (hx : ∀ v, v < 6 → x v = u v) : f_X9_value σ (104 + 4 * k) 100 = some (oi (if k < gn G then mul G A u k - mul G u Y k else 0)) := by
  obtain ⟨N, hS, hN, hu⟩ := h k hk
  rw [c_valueN (SP_gap hk).1 ln_100 hS hN (fun p hp => TbU.tabD hT (hN.1 p hp).1 (by show 0 < 6; omega) (fun v hv hne => by
    show v < 6
    refine Classical.byContradiction (fun q => hne (KL_left (hN.1 p hp).2.2.1 hv (by omega))))), ← hu u]
  have e : ∀ M : List (Nat × Int), (∀ p, p ∈ M → KOK G p.1) → nsm (fun κ => pr (dk κ) x) M = nsm (fun κ => pr (dk κ) (two6 u O)) M := by
    intro M
    induction M with
    | nil => intro _; rfl
    | cons p M ih =>
      intro hM
      have hp := hM p (List.mem_cons_self ..)
      show p.2 * pr (dk p.1) x + nsm _ M = p.2 * pr (dk p.1) (two6 u O) + nsm _ M
      rw [ih (fun q hq => hM q (List.mem_cons_of_mem _ hq))]
      congr 2
      refine pr_congr (fun v hv => ?_)
      by_cases h6 : v < 6
      · rw [hx v h6, tw6l h6]
      · rw [KL_left hp.2.2.1 hv (by omega)]; rfl
  rw [e N hN.1]
/-- what finding gaps changes -/
def FGp (σ τ : Mem) : Prop := (∀ x, x < 104 ∨ 127 < x → τ.1 x = σ.1 x) ∧ ∀ x, x ≠ 100 → x < 104 ∨ 127 < x → τ.2 x = σ.2 x
theorem FGp.trans {τ υ : Mem} (h : FGp σ τ) (k : FGp τ υ) : FGp σ υ := ⟨fun x h1 => (k.1 x h1).trans (h.1 x h1), fun x h1 h2 => (k.2 x h1 h2).trans (h.2 x h1 h2)⟩
theorem FGp.sc {τ : Mem} (h : FGp σ τ) : SC σ τ := ⟨fun x hx => h.1 x (by omega), fun c _ => by rw [h.1 40 (by omega)], fun c _ => by rw [h.1 144 (by omega)], fun x hx => h.2 x (by omega) (by omega)⟩
theorem c_gapTab {a b : Nat} {A B : Nat → Int} (ha : ln a = 6) (hb : ln b = 6) (hA : H6 σ a A) (hB : H6 σ b B) (ha3 : a ≠ 100) (hb3 : b ≠ 100) (wA : W1 G A) (wB : W1 G B) :
    ∃ τ, loopO (fun (z8 : Mem × Int32) => l_X7_findGaps_2 a b z8.1 z8.2) (σ, 0) = some τ ∧ OL (fun x => x = 100) σ τ ∧ Tb G τ 100 (two6 A B) := by
  have hl := loop_inv (body := fun (z8 : Mem × Int32) => l_X7_findGaps_2 a b z8.1 z8.2) (fun n z => ∃ k τ, k ≤ 6 ∧ n = 6 - k ∧ z = (τ, i32 k) ∧ OL (fun x => x = 100) σ τ ∧ TbU G τ 100 (two6 A B) (fun v => v % 6 < k)) (fun τ => OL (fun x => x = 100) σ τ ∧ Tb G τ 100 (two6 A B)) ?_ 6 (σ, 0) ⟨0, σ, by omega, rfl, rfl, OL.refl, fun v _ hv => absurd hv (Nat.not_lt_zero _)⟩
  · exact hl
  · rintro n z ⟨k, τ, hk, hn, rfl, ho, hT⟩
    by_cases hk6 : k = 6
    · right
      refine ⟨τ, ?_, ho, fun v hv => hT v hv (by show v % 6 < k; omega)⟩
      show l_X7_findGaps_2 _ _ _ _ = _
      unfold l_X7_findGaps_2
      rw [hk6, i32_6, if_pos (i_le (Nat.le_refl 6) (by omega))]
    · left
      obtain ⟨τ1, p1, o1, s1, r1⟩ := c_put (G := G) (σ := τ) (t := 100) (v := k) (y := A k) ln_100 (by omega) (fun h => wA k (by omega) (by rwa [Nat.mod_eq_of_lt (by omega)] at h))
      obtain ⟨τ2, p2, o2, s2, r2⟩ := c_put (G := G) (σ := τ1) (t := 100) (v := 6 + k) (y := B k) ln_100 (by omega) (fun h => wB k (by omega) (by rwa [show (6 + k) % 6 = k by omega] at h))
      have oo : OL (fun x => x = 100) σ τ1 := ho.trans o1
      refine ⟨(τ2, i32 (k + 1)), 6 - (k + 1), by omega, ?_, k + 1, τ2, by omega, rfl, rfl, oo.trans o2, fun v hv hvk => ?_⟩
      · show l_X7_findGaps_2 _ _ _ _ = _
        unfold l_X7_findGaps_2
        rw [i32_6, if_neg (i_nle (by omega) (by omega)), e_gL ha (by omega) (by omega), hA.keep ho ha3 k (by omega), p1, e_bs, e_gL hb (by omega) (by omega), hB.keep oo hb3 k (by omega), i32_add, p2, e_bs, i32_1, i32_add]
      · by_cases h1 : v = 6 + k
        · subst h1
          rw [tw6r]; exact s2
        · obtain ⟨q1, q2, q3⟩ := r2 v h1
          rw [q1, q2, q3]
          by_cases h2 : v = k
          · subst h2
            rw [tw6l (by omega)]; exact s1
          · obtain ⟨u1, u2, u3⟩ := r1 v h2
            rw [u1, u2, u3]
            exact hT v hv (by show v % 6 < k; have hvk' : v % 6 < k + 1 := hvk; omega)
theorem c_findGaps {a b : Nat} {A Y : Nat → Int} (hG : GOK G) (hP : CPoly G σ) (ha : ln a = 6) (hb : ln b = 6) (hA : H6 σ a A) (hB : H6 σ b Y) (ha3 : a ≠ 100) (hb3 : b ≠ 100) (wA : W1 G A) (wB : W1 G Y) : ∃ τ, f_X7_findGaps σ a b = some τ ∧ FGp σ τ ∧ GapOK G τ A Y ∧ Tb G τ 100 (two6 A Y) := by
  have hn := hG.2.1
  obtain ⟨σ1, e1, o1, t1⟩ := c_gapTab (G := G) ha hb hA hB ha3 hb3 wA wB
  have f1 : FGp σ σ1 := ⟨fun x _ => by rw [o1.1], fun x hx _ => o1.2 x hx⟩
  have hP1 : CPoly G σ1 := fun k hk => (hP k hk).of (f1.1 _ (by omega)) (f1.1 _ (by omega)) (f1.2 _ (by omega) (by omega)) (f1.1 _ (by omega))
  unfold f_X7_findGaps
  rw [e1, e_bs]
  unfold j_X7_findGaps_39
  have hloop := loop_inv (body := fun (z3 : (Mem × Int32)) => l_X7_findGaps_41 z3.1 z3.2) (fun n z => ∃ k τ, k ≤ 6 ∧ n = 6 - k ∧ z = (τ, i32 k) ∧ FGp σ1 τ ∧ τ.2 100 = σ1.2 100 ∧ ∀ p, p < k → ∃ N, GS τ (104 + 4 * p) N ∧ NOK G N ∧ ∀ u, oi (nsm (fun κ => pr (dk κ) (two6 u O)) N) = oi (if p < gn G then mul G A u p - mul G u Y p else 0)) (fun τ => FGp σ1 τ ∧ GapOK G τ A Y ∧ τ.2 100 = σ1.2 100) ?_ 6 (σ1, 0) ⟨0, σ1, by omega, rfl, rfl, ⟨fun _ _ => rfl, fun _ _ _ => rfl⟩, rfl, fun p hp => absurd hp (Nat.not_lt_zero _)⟩
  · obtain ⟨τ, e2, f2, g2, t2⟩ := hloop
    exact ⟨τ, e2, f1.trans f2, g2, fun v hv => by rw [t2]; exact t1 v hv⟩
  · rintro n z ⟨k, τ, hk, rfl, rfl, f, ht, hd⟩
    by_cases hk6 : k = 6
    · right
      subst hk6
      refine ⟨τ, ?_, f, hd, ht⟩
      show l_X7_findGaps_41 τ (i32 6) = _
      unfold l_X7_findGaps_41
      rw [i32_6, if_pos (i_le (Nat.le_refl _) (by omega))]
    · left
      have hk' : k < 6 := by omega
      obtain ⟨sp, r99⟩ := SP_gap hk'
      have f0 : FSa (104 + 4 * k) τ (wI τ (104 + 4 * k) 0 0) := ⟨fun x h1 _ _ => by funext y; rw [wI_1, if_neg (fun q => h1 q.1)], fun x _ => rfl⟩
      have hTb : Tb G (wI τ (104 + 4 * k) 0 0) 100 (two6 A Y) := fun v hv => by
        show τ.2 100 _ = _ ∧ τ.2 100 _ = _ ∧ (_ → τ.2 100 _ = _)
        rw [ht]; exact t1 v hv
      have hct : CT G (wI τ (104 + 4 * k) 0 0) k (if k < gn G then Tk G k else []) := by
        refine (hP1 k hk').of ?_ ?_ ?_ ?_
        · rw [f0.1 _ (by omega) (by omega) (by omega), f.1 _ (by omega)]
        · rw [f0.1 _ (by omega) (by omega) (by omega), f.1 _ (by omega)]
        · rw [f0.2 _ (by omega), f.2 _ (by omega) (by omega)]
        · rw [f0.1 _ (by omega) (by omega) (by omega), f.1 _ (by omega)]
      have hlen : (if k < gn G then Tk G k else []).length ≤ 455 := by
        by_cases hkn : k < gn G
        · rw [if_pos hkn]; exact Tk_len hG hkn
        · rw [if_neg hkn]; exact Nat.zero_le _
      have hmem : ∀ e, e ∈ (if k < gn G then Tk G k else []) → Dok G (dg G e) ∧ dsum (dg G e) 12 ≤ 3 := by
        intro e he
        by_cases hkn : k < gn G
        · rw [if_pos hkn] at he
          have := Tk_dok hG hkn he
          exact ⟨this.1, this.2.1⟩
        · rw [if_neg hkn] at he; cases he
      obtain ⟨τ2, N, e2, f2, s2, n2, g2⟩ := c_findGap hG hk' hct hlen hmem hTb (by rw [wI_1, if_pos ⟨rfl, rfl⟩])
      have ff := f0.trans f2
      refine ⟨(τ2, i32 (k + 1)), 6 - (k + 1), by omega, ?_, k + 1, τ2, by omega, rfl, rfl, ⟨fun x hx => by rw [ff.1 x (by omega) (by omega) (by omega)]; exact f.1 x hx, fun x h1 hx => by rw [ff.2 x (by omega)]; exact f.2 x h1 hx⟩, by rw [ff.2 100 (by omega)]; exact ht, fun p hp => ?_⟩
      · show l_X7_findGaps_41 τ (i32 k) = _
        unfold l_X7_findGaps_41
        rw [i32_6, if_neg (i_nle hk' (by omega)), e_gR ln_99 hk' (by omega), r99, e_pF, e_gR ln_44 hk' (by omega), rf_44 hk', e_gR ln_99 hk' (by omega), r99, e2, e_bs, i32_1, i32_add]
      · by_cases hpk : p = k
        · subst hpk
          refine ⟨N, s2, n2, fun u => ?_⟩
          rw [g2]
          by_cases hkn : p < gn G
          · rw [if_pos hkn, if_pos hkn]; exact gap_mul hG hkn
          · rw [if_neg hkn, if_neg hkn]; rfl
        · obtain ⟨M, hM1, hM2, hM3⟩ := hd p (by omega)
          refine ⟨M, ?_, hM2, hM3⟩
          unfold GS
          rw [ff.1 (104 + 4 * p) (by omega) (by omega) (by omega), ff.1 (104 + 4 * p + 1) (by omega) (by omega) (by omega), ff.2 (104 + 4 * p + 2) (by omega), ff.1 (104 + 4 * p + 3) (by omega) (by omega) (by omega)]
          exact hM1
end GP
end
section
/-! the class's search for a conjugator -/
section SRC
variable {σ : Mem} {G : GD}
theorem mul_left_below (hG : GOK G) {a a' b : Nat → Int} {m : Nat} (hm : m < gn G) (h : ∀ i, i < m → a i = a' i) : mul G a b m - a m = mul G a' b m - a' m := by
  rw [mul_eq hG hm, mul_eq hG hm]
  have e1 : pT G m a b = pT G m a' b := sm_congr (fun i _ => sm_congr (fun j _ => by
    by_cases hj : j < m
    · rw [h j hj]
    · rw [tI_low hG (by omega)]; simp))
  have e2 : pU G m a b = pU G m a' b := sm_congr (fun i _ => sm_congr (fun j _ => by
    by_cases hj : j < m
    · rw [h j hj]
    · rw [DD_low hG (by omega)]; simp))
  have e3 : pV G m a b = pV G m a' b := sm_congr (fun i _ => sm_congr (fun j _ => by
    by_cases hj : j < m
    · rw [h j hj]
    · rw [DD_low hG (by omega)]; simp))
  have e4 : pW G m a b = pW G m a' b := sm_congr (fun i _ => sm_congr (fun j _ => sm_congr (fun q _ => by
    by_cases hj : j < m
    · by_cases hq : q < m
      · rw [h j hj, h q hq]
      · rw [DD_low hG (by omega)]; simp
    · rw [DD_low hG (by omega)]; simp)))
  have e5 : pX G m a b = pX G m a' b := sm_congr (fun i _ => sm_congr (fun p _ => by
    by_cases hi : p < i
    · rw [if_pos hi, if_pos hi]
      refine sm_congr (fun j _ => ?_)
      by_cases hj : j < m
      · rw [h j hj]
      · rw [DD_low hG (by omega)]; simp
    · rw [if_neg hi, if_neg hi]))
  omega
def gapv (G : GD) (A Y : Nat → Int) (k : Nat) (u : Nat → Int) : Int := if k < gn G then mul G A u k - mul G u Y k else 0
theorem gap_local (hG : GOK G) {A Y u w : Nat → Int} {k : Nat} (h : ∀ i, i < k → u i = w i) : gapv G A Y k u = gapv G A Y k w := by
  unfold gapv
  by_cases hk : k < gn G
  · rw [if_pos hk, if_pos hk]
    have h1 := mul_below hG (a := A) hk h
    have h2 := mul_left_below hG (b := Y) hk h
    omega
  · rw [if_neg hk, if_neg hk]
def Kx (G : GD) (A Y u : Nat → Int) : Prop := ∀ k, k < 6 → oi (gapv G A Y k u) = 0
def Lxl (f : Nat) (w u : Nat → Int) : Prop := ∃ j, j < f ∧ (∀ p, p < j → w p = u p) ∧ w j < u j
def Bx (b : Int) (f : Nat) (w : Nat → Int) : Prop := (∀ i, i < f → -b ≤ w i ∧ w i ≤ b) ∧ ∀ i, f ≤ i → w i = 0
def Fst (G : GD) (A Y : Nat → Int) (b : Int) (f : Nat) (u : Nat → Int) : Prop := Bx b f u ∧ Kx G A Y u ∧ ∀ w, Bx b f w → Kx G A Y w → ¬ Lxl f w u
theorem lex_total (u w : Nat → Int) : ∀ f, (∀ i, i < f → u i = w i) ∨ Lxl f u w ∨ Lxl f w u
  | 0 => Or.inl (fun i hi => absurd hi (Nat.not_lt_zero i))
  | f + 1 => by
    rcases lex_total u w f with h | ⟨j, hj, h1, h2⟩ | ⟨j, hj, h1, h2⟩
    · rcases Int.lt_trichotomy (u f) (w f) with c | c | c
      · exact Or.inr (Or.inl ⟨f, by omega, h, c⟩)
      · refine Or.inl (fun i hi => ?_)
        by_cases hif : i = f
        · rw [hif]; exact c
        · exact h i (by omega)
      · exact Or.inr (Or.inr ⟨f, by omega, fun p hp => (h p hp).symm, c⟩)
    · exact Or.inr (Or.inl ⟨j, by omega, h1, h2⟩)
    · exact Or.inr (Or.inr ⟨j, by omega, h1, h2⟩)
theorem Fst.uniq {A Y u w : Nat → Int} {b : Int} {f : Nat} (h : Fst G A Y b f u) (k : Fst G A Y b f w) : u = w := by
  funext i
  by_cases hi : i < f
  · rcases lex_total u w f with c | c | c
    · exact c i hi
    · exact absurd c (k.2.2 u h.1 h.2.1)
    · exact absurd c (h.2.2 w k.1 k.2.1)
  · rw [h.1.2 i (by omega), k.1.2 i (by omega)]
/-- how many letters are lighter than the heaviest -/
def frc (G : GD) : Nat → Nat
  | 0 => 0
  | i + 1 => frc G i + if gw G i < topG G then 1 else 0
theorem frc_ok (hG : GOK G) : ∀ m, m ≤ gn G → frc G m ≤ m ∧ ∀ i, i < m → (gw G i < topG G ↔ i < frc G m)
  | 0, _ => ⟨Nat.le_refl _, fun i hi => absurd hi (Nat.not_lt_zero i)⟩
  | m + 1, hm => by
    obtain ⟨h1, h2⟩ := frc_ok hG m (by omega)
    show frc G m + (if gw G m < topG G then 1 else 0) ≤ m + 1 ∧ ∀ i, i < m + 1 → (gw G i < topG G ↔ i < frc G m + if gw G m < topG G then 1 else 0)
    by_cases hw : gw G m < topG G
    · rw [if_pos hw]
      have hfm : frc G m = m := by
        by_cases hm0 : m = 0
        · omega
        · have a1 := hG.2.2.2.1 (m - 1) m (by omega) (by omega)
          have := (h2 (m - 1) (by omega)).mp (by omega)
          omega
      refine ⟨by omega, fun i hi => ?_⟩
      have a1 := hG.2.2.2.1 i m (by omega) (by omega)
      exact ⟨fun _ => by omega, fun _ => by omega⟩
    · rw [if_neg hw]
      refine ⟨by omega, fun i hi => ?_⟩
      by_cases him : i = m
      · subst him
        exact ⟨fun q => absurd q hw, fun q => by omega⟩
      · exact h2 i (by omega)
def fre (G : GD) : Nat := frc G (gn G)
theorem fre_lt (hG : GOK G) : fre G < gn G := by
  have h := frc_ok hG (gn G) (Nat.le_refl _)
  have h1 := hG.1
  have h2 := (h.2 (gn G - 1) (by omega))
  have h3 : ¬ gw G (gn G - 1) < topG G := by unfold topG; omega
  have : ¬ gn G - 1 < frc G (gn G) := fun q => h3 (h2.mpr q)
  unfold fre
  omega
theorem fre_iff (hG : GOK G) {i : Nat} (hi : i < gn G) : gw G i < topG G ↔ i < fre G := (frc_ok hG (gn G) (Nat.le_refl _)).2 i hi
theorem c_free (hG : GOK G) (h : CG σ 41 G) : loopO (fun (z10 : (Int32 × Int32)) => l_X7_conjugator_17 σ z10.1 z10.2) (0, 0) = some (i32 (fre G)) := by
  have hn := hG.2.1
  refine loop_up (body := fun (z10 : (Int32 × Int32)) => l_X7_conjugator_17 σ z10.1 z10.2) (fun k => (i32 (frc G k), i32 k)) 0 (gn G) _ (by omega) (fun k _ hk => ?_) ?_
  · show l_X7_conjugator_17 σ (i32 (frc G k)) (i32 k) = _
    unfold l_X7_conjugator_17
    have ht := topG_le hG
    have hw := hG.2.2.1 k hk
    rw [e_gF, h.1, if_neg (i_nle hk (by omega)), e_gI ln_42 (by omega) (by omega), h.2.1 k (by omega), c_top hG h (by decide +kernel) ln_42, e_bs]
    by_cases hc : gw G k < topG G
    · rw [if_neg (i_nle hc (by omega)), e_bs]
      unfold j_X7_conjugator_65
      rw [e_bd, show i32 k + 1 = i32 (k + 1) from by rw [i32_1, i32_add], show i32 (frc G k) + b2i true = i32 (frc G (k + 1)) from by
        show i32 (frc G k) + i32 1 = i32 (frc G k + if gw G k < topG G then 1 else 0)
        rw [i32_add, if_pos hc]]
    · rw [if_pos (i_le (by omega) (by omega)), e_bs]
      unfold j_X7_conjugator_65
      rw [e_bd, show i32 k + 1 = i32 (k + 1) from by rw [i32_1, i32_add], show i32 (frc G k) + b2i false = i32 (frc G (k + 1)) from by
        show i32 (frc G k) + i32 0 = i32 (frc G k + if gw G k < topG G then 1 else 0)
        rw [i32_add, if_neg hc]]
  · show l_X7_conjugator_17 σ (i32 (frc G (gn G))) (i32 (gn G)) = _
    unfold l_X7_conjugator_17
    rw [e_gF, h.1, if_pos (i_le (Nat.le_refl _) (by omega))]
    rfl
/-- the class's u: its row and its table -/
def CU (G : GD) (σ : Mem) (u : Nat → Int) (p : Nat → Prop) : Prop := (∀ i, i < 6 → p i → σ.2 103 i = oi (u i)) ∧ ∃ x : Nat → Int, (∀ v, v < 6 → x v = u v) ∧ TbU G σ 100 x (fun v => v < 6 ∧ p v)
theorem c_setU {i : Nat} {y : Int} {u : Nat → Int} {p : Nat → Prop} (hi : i < 6) (hy : gw G i = 1 → two64ok y) (h : CU G σ u p) : ∃ τ, f_X7_setU σ (i32 i) (oi y) = some τ ∧ OL (fun x => x = 100 ∨ x = 103) σ τ ∧ CU G τ (uV u i y) (fun v => p v ∨ v = i) := by
  obtain ⟨h1, x, hx, hT⟩ := h
  have o1 : OL (fun z => z = 103) σ (wL σ 103 i (oi y)) := OL.wL rfl
  have hT1 : TbU G (wL σ 103 i (oi y)) 100 x (fun v => v < 6 ∧ p v) := TbU.keep hT o1 (by omega)
  obtain ⟨τ, e, o2, t2⟩ := c_putT (G := G) (σ := wL σ 103 i (oi y)) (t := 100) (v := i) (y := y) (x := x) ln_100 (by omega) (fun q => hy (by rwa [Nat.mod_eq_of_lt hi] at q)) hT1
  unfold f_X7_setU
  rw [if_neg (show ¬ i32 i < 0 from i_nlt (b := 0) (by omega) (by omega)), i32_6, if_neg (i_nle hi (by omega)), e_pL ln_103 hi (by omega), e, e_bs]
  refine ⟨τ, rfl, (o1.mono (fun x hx => Or.inr hx)).trans (o2.mono (fun x hx => Or.inl hx)), fun j hj hp => ?_, upx x i y, fun v hv => ?_, fun v hv hp => ?_⟩
  · rw [o2.2 103 (by omega), wL_2]
    unfold uV
    by_cases hji : j = i
    · rw [if_pos ⟨rfl, hji⟩, if_pos hji]
    · rw [if_neg (fun q => hji q.2), if_neg hji]
      rcases hp with hp | hp
      · exact h1 j hj hp
      · exact absurd hp hji
  · unfold upx uV
    by_cases h : v = i
    · rw [if_pos h, if_pos h]
    · rw [if_neg h, if_neg h]; exact hx v hv
  · refine t2 v hv ?_
    show (v < 6 ∧ p v) ∨ v = i
    obtain ⟨hv6, hp⟩ := hp
    rcases hp with hp | hp
    · exact Or.inl ⟨hv6, hp⟩
    · exact Or.inr hp
theorem CU.congr {u w : Nat → Int} {p q : Nat → Prop} (h : CU G σ u p) (hu : ∀ v, v < 6 → u v = w v) (hp : ∀ v, v < 6 → q v → p v) : CU G σ w q := by
  obtain ⟨h1, x, hx, hT⟩ := h
  exact ⟨fun i hi hq => by rw [← hu i hi]; exact h1 i hi (hp i hi hq), x, fun v hv => by rw [hx v hv, hu v hv], fun v hv hq => hT v hv ⟨hq.1, hp v hq.1 hq.2⟩⟩
theorem c_putU {y : Int} (hy : two64ok y) : ∃ τ, f_X7_putU σ (oi y) = some τ ∧ OL (fun x => x = 100 ∨ x = 103) σ τ ∧ CU G τ (fun _ => y) (fun _ => True) := by
  unfold f_X7_putU
  have hl := loop_inv (body := fun (z2 : (Mem × Int32)) => l_X7_putU_2 (oi y) z2.1 z2.2) (fun n z => ∃ k τ, k ≤ 6 ∧ n = 6 - k ∧ z = (τ, i32 k) ∧ OL (fun x => x = 100 ∨ x = 103) σ τ ∧ CU G τ (fun _ => y) (fun v => v < k)) (fun τ => OL (fun x => x = 100 ∨ x = 103) σ τ ∧ CU G τ (fun _ => y) (fun _ => True)) ?_ 6 (σ, 0) ⟨0, σ, by omega, rfl, rfl, OL.refl, fun i _ h => absurd h (Nat.not_lt_zero i), fun _ => y, fun _ _ => rfl, fun v _ h => absurd h.2 (Nat.not_lt_zero v)⟩
  · exact hl
  · rintro n z ⟨k, τ, hk, rfl, rfl, o, c⟩
    by_cases hk6 : k = 6
    · right
      subst hk6
      refine ⟨τ, ?_, o, c.congr (fun _ _ => rfl) (fun v hv _ => hv)⟩
      show l_X7_putU_2 (oi y) τ (i32 6) = _
      unfold l_X7_putU_2
      rw [i32_6, if_pos (i_le (Nat.le_refl _) (by omega))]
    · left
      obtain ⟨τ2, e2, o2, c2⟩ := c_setU (i := k) (y := y) (by omega) (fun _ => hy) c
      refine ⟨(τ2, i32 (k + 1)), 6 - (k + 1), by omega, ?_, k + 1, τ2, by omega, rfl, rfl, o.trans o2, c2.congr (fun v _ => ?_) (fun v _ hv => ?_)⟩
      · show l_X7_putU_2 (oi y) τ (i32 k) = _
        unfold l_X7_putU_2
        rw [i32_6, if_neg (i_nle (by omega) (by omega)), e2, e_bs, i32_1, i32_add]
      · unfold uV
        split <;> rfl
      · have hv' : v < k + 1 := hv
        show v < k ∨ v = k
        omega
theorem CU.gap {A Y u : Nat → Int} {k : Nat} (hk : k < 6) (hg : GapOK G σ A Y) (h : CU G σ u (fun _ => True)) : f_X9_value σ (104 + 4 * k) 100 = some (oi (gapv G A Y k u)) := by
  obtain ⟨_, x, hx, hT⟩ := h
  exact c_gapVal hk hg (fun v hv hp => hT v hv ⟨hp, trivial⟩) hx
theorem c_areClosed {A Y u : Nat → Int} {s m : Nat} (hg : GapOK G σ A Y) (h : CU G σ u (fun _ => True)) (hs : s ≤ 6) (hm : m ≤ 6) : ∃ b, f_X7_areClosed σ (i32 s) (i32 m) = some b ∧ (b = true ↔ ∀ k, s ≤ k → k < m → oi (gapv G A Y k u) = 0) := by
  unfold f_X7_areClosed
  refine loop_inv (body := fun (z1 : Int32) => l_X7_areClosed_2 σ (i32 m) z1) (fun n z => ∃ k, s ≤ k ∧ k ≤ 6 ∧ n = 6 - k ∧ z = i32 k ∧ ∀ p, s ≤ p → p < k → oi (gapv G A Y p u) = 0) _ ?_ (6 - s) (i32 s) ⟨s, Nat.le_refl _, hs, rfl, rfl, fun p h1 h2 => by omega⟩
  rintro n z ⟨k, hk1, hk2, rfl, rfl, hd⟩
  by_cases hkm : m ≤ k
  · right
    refine ⟨true, ?_, fun _ p h1 h2 => hd p h1 (by omega), fun _ => rfl⟩
    unfold l_X7_areClosed_2
    rw [if_pos (i_le hkm (by omega))]
  · have hbody : l_X7_areClosed_2 σ (i32 m) (i32 k) = if oi (gapv G A Y k u) = 0 then some (Sum.inl (i32 k + 1)) else some (Sum.inr false) := by
      unfold l_X7_areClosed_2
      rw [if_neg (i_nle (by omega) (by omega)), i32_6, if_neg (i_nle (by omega) (by omega)), e_gR ln_99 (by omega) (by omega), (SP_gap (show k < 6 by omega)).2, CU.gap (show k < 6 by omega) hg h, e_bs]
    by_cases hz : oi (gapv G A Y k u) = 0
    · left
      refine ⟨i32 (k + 1), 6 - (k + 1), by omega, ?_, k + 1, by omega, by omega, rfl, rfl, fun p h1 h2 => ?_⟩
      · rw [hbody, if_pos hz, i32_1, i32_add]
      · by_cases hpk : p = k
        · rw [hpk]; exact hz
        · exact hd p h1 (by omega)
    · right
      refine ⟨false, ?_, fun q => absurd q (by decide), fun q => absurd (q k hk1 (by omega)) hz⟩
      rw [hbody, if_neg hz]
/-- steps taken: costs of subtrees -/
def cst : Nat → Nat
  | 0 => 1
  | r + 1 => 8 * cst r + 2
def pot (f : Nat) (b : Int) (u : Nat → Int) : Nat → Nat
  | 0 => 0
  | i + 1 => pot f b u i + (u i + b).toNat * cst (f - 1 - i)
theorem pot_congr {f : Nat} {b : Int} {u w : Nat → Int} : ∀ i, (∀ p, p < i → u p = w p) → pot f b u i = pot f b w i
  | 0, _ => rfl
  | i + 1, h => by
    show pot f b u i + _ = pot f b w i + _
    rw [pot_congr i (fun p hp => h p (by omega)), h i (by omega)]
theorem pot_le {f : Nat} {b : Int} {u : Nat → Int} (hb : b ≤ 3) : ∀ i, i ≤ f → (∀ p, p < i → u p ≤ b + 1) → pot f b u i + cst (f - i) ≤ cst f
  | 0, _, _ => by show 0 + cst (f - 0) ≤ cst f; rw [Nat.sub_zero, Nat.zero_add]; exact Nat.le_refl _
  | i + 1, hi, h => by
    have ih := pot_le (f := f) (u := u) hb i (by omega) (fun p hp => h p (by omega))
    have h1 := h i (by omega)
    have h2 : (u i + b).toNat ≤ 7 := by omega
    have h3 := Nat.mul_le_mul_right (cst (f - 1 - i)) h2
    have h4 : cst (f - i) = 8 * cst (f - 1 - i) + 2 := by
      rw [show f - i = (f - 1 - i) + 1 by omega]; rfl
    have h5 : f - (i + 1) = f - 1 - i := by omega
    show pot f b u i + (u i + b).toNat * cst (f - 1 - i) + cst (f - (i + 1)) ≤ cst f
    rw [h5]
    omega
theorem cst_5 {f : Nat} (h : f ≤ 5) : cst f ≤ 42130 := by
  rcases (show f = 0 ∨ f = 1 ∨ f = 2 ∨ f = 3 ∨ f = 4 ∨ f = 5 by omega) with z | z | z | z | z | z <;> subst z <;> decide
theorem cst_pos : ∀ r, 1 ≤ cst r
  | 0 => Nat.le_refl _
  | r + 1 => by show 1 ≤ 8 * cst r + 2; omega
theorem uV_self {u : Nat → Int} {i : Nat} {y : Int} : uV u i y i = y := if_pos rfl
theorem uV_ne {u : Nat → Int} {i p : Nat} {y : Int} (h : p ≠ i) : uV u i y p = u p := if_neg h
theorem le_small {x y : Int} (hx : -100 ≤ x ∧ x ≤ 100) (hy : -100 ≤ y ∧ y ≤ 100) : oi x ≤ oi y ↔ x ≤ y := by
  rw [Int64.le_iff_toInt_le, oi_toInt (by omega) (by omega), oi_toInt (by omega) (by omega)]
theorem neg_b {b : Nat} (hb : b ≤ 3) : (-(i32 b)).toInt64 = oi (-(b : Int)) := by
  rcases (show b = 0 ∨ b = 1 ∨ b = 2 ∨ b = 3 by omega) with z | z | z | z <;> subst z <;> decide
/-- what the search keeps -/
def SInv (G : GD) (A Y : Nat → Int) (b : Int) (f i : Nat) (u : Nat → Int) : Prop := (∀ p, p < i → -b ≤ u p ∧ u p ≤ b) ∧ (i < f → -b ≤ u i ∧ u i ≤ b + 1) ∧ (∀ p, p < f → -b ≤ u p ∧ u p ≤ b + 1 ∨ u p = 0) ∧ (∀ p, f ≤ p → u p = 0) ∧ (∀ k, k ≤ i → k < 6 → oi (gapv G A Y k u) = 0) ∧ ∀ w, Bx b f w → Kx G A Y w → ¬ ∃ j, j ≤ i ∧ j < f ∧ (∀ p, p < j → w p = u p) ∧ w j < u j
theorem c_findLoopU {A Y : Nat → Int} {b f : Nat} {u0 : Nat → Int} (hG : GOK G) (hb : 1 ≤ b ∧ b ≤ 3) (hf : 1 ≤ f ∧ f ≤ 5) (hfn : f < gn G) (hg : GapOK G σ A Y) (h : CU G σ u0 (fun _ => True)) (hi : SInv G A Y b f 0 u0) (hu0 : u0 0 = -(b : Int)) : ∃ r, loopO (fun (z7 : (Mem × Int32 × Int32)) => l_X7_findWithin_21 (i32 b) (i32 f) z7.1 z7.2.1 z7.2.2) (σ, 0, 0) = some r ∧ ∃ τ, OL (fun x => x = 100 ∨ x = 103) σ τ ∧ ((∃ u, r = Sum.inl (τ, i32 f) ∧ Fst G A Y b f u ∧ CU G τ u (fun _ => True)) ∨ (r = Sum.inr (false, τ) ∧ ∀ w, Bx b f w → ¬ Kx G A Y w)) := by
  have hn := hG.2.1
  refine loop_inv (body := fun (z7 : (Mem × Int32 × Int32)) => l_X7_findWithin_21 (i32 b) (i32 f) z7.1 z7.2.1 z7.2.2) (fun n z => ∃ i s u τ, i ≤ f ∧ n = 50000 - s ∧ z = (τ, i32 i, i32 s) ∧ OL (fun x => x = 100 ∨ x = 103) σ τ ∧ CU G τ u (fun _ => True) ∧ SInv G A Y b f i u ∧ (i = f → Kx G A Y u) ∧ s ≤ pot f b u (if i < f then i + 1 else i) + i) _ ?_ 50000 (σ, 0, 0) ⟨0, 0, u0, σ, by omega, rfl, rfl, OL.refl, h, hi, fun q => by omega, Nat.zero_le _⟩
  rintro n z ⟨i, s, u, τ, hif, rfl, rfl, o, cu, si, hK, hs⟩
  obtain ⟨s1, s2, s3, s4, s5, s6⟩ := si
  have hgt : GapOK G τ A Y := hg.eqs (fun x h1 h2 => ⟨by rw [o.1], o.2 x (by omega)⟩)
  have c5 := cst_5 hf.2
  have hsb : s ≤ 42140 := by
    by_cases hif2 : i < f
    · rw [if_pos hif2] at hs
      have := pot_le (f := f) (b := b) (u := u) (by omega) (i + 1) (by omega) (fun p hp => by
        by_cases hpi : p = i
        · rw [hpi]; exact (s2 hif2).2
        · have := s1 p (by omega); omega)
      omega
    · rw [if_neg hif2] at hs
      have := pot_le (f := f) (b := b) (u := u) (by omega) i (by omega) (fun p hp => by have := s1 p hp; omega)
      omega
  by_cases hif2 : i = f
  · right
    subst hif2
    refine ⟨Sum.inl (τ, i32 i), ?_, τ, o, Or.inl ⟨u, rfl, ⟨⟨s1, s4⟩, hK rfl, fun w hw hkw ⟨j, hj, h1, h2⟩ => s6 w hw hkw ⟨j, by omega, hj, h1, h2⟩⟩, cu⟩⟩
    show l_X7_findWithin_21 (i32 b) (i32 i) τ (i32 i) (i32 s) = _
    unfold l_X7_findWithin_21
    rw [show (1000000 : Int32) = i32 1000000 from rfl, if_neg (i_nle (by omega) (by omega)), if_pos (i_le (Nat.le_refl _) (by omega))]
  · have hlt : i < f := by omega
    rw [if_pos hlt] at hs
    have hui := s2 hlt
    have c0 : cu.1 i (by omega) trivial = cu.1 i (by omega) trivial := rfl
    have hrow : τ.2 103 i = oi (u i) := cu.1 i (by omega) trivial
    have hb64 : (i32 b).toInt64 = oi (b : Int) := n64 (by omega)
    have hpre : l_X7_findWithin_21 (i32 b) (i32 f) τ (i32 i) (i32 s) = ((if oi (u i) ≤ oi (b : Int) then ((if (i32 i + 1) = i32 f then (some 6) else (some (i32 i + 2)) : Option Int32).bind (fun (z11 : Int32) => j_X7_findWithin_89 (i32 b) (i32 f) τ (i32 i) z11)) else (if 0 ≤ (i32 i + (-1)) then (gL τ 103 (i32 i + (-1)) (fun (v16 : Int64) => (f_X7_setU τ (i32 i + (-1)) (v16 + 1)).bind (fun (σ17 : Mem) => some (Sum.inl (σ17, i32 i + (-1)))))) else (some (Sum.inr (Sum.inr (Sum.inr (false, τ)))))) : Option ((Mem × Int32) ⊕ ((Mem × Int32 × Int32) ⊕ ((Mem × Int32) ⊕ (Bool × Mem))))).bind (Sum.elim (fun (z10 : (Mem × Int32)) => j_X7_findWithin_127 (i32 s) z10.1 z10.2) some)) := by
      unfold l_X7_findWithin_21
      rw [show (1000000 : Int32) = i32 1000000 from rfl, if_neg (i_nle (by omega) (by omega)), if_neg (i_nle (by omega) (by omega)), e_gL ln_103 (by omega) (by omega), hrow, hb64]
    by_cases hle : u i ≤ b
    · -- within the bound: are the gaps closed
      have hle' : oi (u i) ≤ oi (b : Int) := (le_small (by omega) (by omega)).mpr hle
      obtain ⟨bc, ec, hbc⟩ := c_areClosed (s := i + 1) (m := if i + 1 = f then 6 else i + 2) hgt cu (by omega) (by split <;> omega)
      have em : (if (i32 i + 1) = i32 f then (some 6) else (some (i32 i + 2)) : Option Int32) = some (i32 (if i + 1 = f then 6 else i + 2)) := by
        rw [i32_1, i32_add, i32_2, i32_add]
        by_cases q : i + 1 = f
        · rw [if_pos (by rw [q]), if_pos q]; rfl
        · rw [if_neg (i_ne q (by omega) (by omega)), if_neg q]
      rw [if_pos hle', em, e_bs] at hpre
      unfold j_X7_findWithin_89 at hpre
      rw [show i32 i + 1 = i32 (i + 1) from by rw [i32_1, i32_add], ec, e_bs] at hpre
      cases hbt : bc with
      | true =>
        have hcl := hbc.mp hbt
        rw [hbt, if_pos rfl] at hpre
        left
        by_cases hi1 : i + 1 = f
        · rw [if_pos hi1] at hcl
          rw [if_pos (show i32 f ≤ i32 (i + 1) by rw [hi1]; exact i_le (Nat.le_refl _) (by omega)), e_bs] at hpre
          refine ⟨(τ, i32 (i + 1), i32 (s + 1)), 50000 - (s + 1), by omega, ?_, i + 1, s + 1, u, τ, by omega, rfl, rfl, o, cu, ⟨fun p hp => ?_, fun q => by omega, s3, s4, fun k h1 h2 => ?_, fun w hw hkw ⟨j, hj, hjf, h1, h2⟩ => s6 w hw hkw ⟨j, by omega, hjf, h1, h2⟩⟩, fun _ k hk => ?_, ?_⟩
          · show l_X7_findWithin_21 (i32 b) (i32 f) τ (i32 i) (i32 s) = _
            rw [hpre]
            show j_X7_findWithin_127 (i32 s) τ (i32 (i + 1)) = _
            unfold j_X7_findWithin_127
            rw [i32_1, i32_add]
          · by_cases hpi : p = i
            · rw [hpi]; exact ⟨hui.1, hle⟩
            · exact s1 p (by omega)
          · by_cases hki : k ≤ i
            · exact s5 k hki h2
            · exact hcl k (by omega) h2
          · by_cases hki : k ≤ i
            · exact s5 k hki hk
            · exact hcl k (by omega) hk
          · rw [if_neg (by omega)]
            omega
        · rw [if_neg hi1] at hcl
          rw [if_neg (i_nle (by omega) (by omega)), neg_b hb.2] at hpre
          obtain ⟨τ2, e2, o2, c2⟩ := c_setU (i := i + 1) (y := -(b : Int)) (by omega) (fun _ => by unfold two64ok; omega) cu
          rw [e2, e_bs, e_bs] at hpre
          have uag : ∀ p, p < i + 1 → uV u (i + 1) (-(b : Int)) p = u p := fun p hp => uV_ne (by omega)
          refine ⟨(τ2, i32 (i + 1), i32 (s + 1)), 50000 - (s + 1), by omega, ?_, i + 1, s + 1, uV u (i + 1) (-(b : Int)), τ2, by omega, rfl, rfl, o.trans o2, c2.congr (fun _ _ => rfl) (fun _ _ _ => Or.inl trivial), ⟨fun p hp => ?_, fun _ => ?_, fun p hp => ?_, fun p hp => ?_, fun k h1 h2 => ?_, fun w hw hkw ⟨j, hj, hjf, h1, h2⟩ => ?_⟩, fun q => absurd q (by omega), ?_⟩
          · show l_X7_findWithin_21 (i32 b) (i32 f) τ (i32 i) (i32 s) = _
            rw [hpre]
            show j_X7_findWithin_127 (i32 s) τ2 (i32 (i + 1)) = _
            unfold j_X7_findWithin_127
            rw [i32_1, i32_add]
          · rw [uag p hp]
            by_cases hpi : p = i
            · rw [hpi]; exact ⟨hui.1, hle⟩
            · exact s1 p (by omega)
          · rw [uV_self]; omega
          · by_cases hpi : p = i + 1
            · rw [hpi, uV_self]; omega
            · rw [uV_ne hpi]; exact s3 p hp
          · rw [uV_ne (by omega)]; exact s4 p hp
          · rw [gap_local hG (w := u) (fun p hp => uag p (by omega))]
            by_cases hki : k ≤ i
            · exact s5 k hki h2
            · exact hcl k (by omega) (by omega)
          · by_cases hji : j = i + 1
            · subst hji
              rw [uV_self] at h2
              have := (hw.1 (i + 1) hjf).1
              omega
            · rw [uag j (by omega)] at h2
              exact s6 w hw hkw ⟨j, by omega, hjf, fun p hp => by rw [h1 p hp]; exact uag p (by omega), h2⟩
          · rw [if_pos (by omega)]
            show s + 1 ≤ pot f b (uV u (i + 1) (-(b : Int))) (i + 1) + (uV u (i + 1) (-(b : Int)) (i + 1) + b).toNat * cst (f - 1 - (i + 1)) + (i + 1)
            rw [pot_congr (w := u) (i + 1) uag]
            omega
      | false =>
        rw [hbt, if_neg (by decide), e_gL ln_103 (by omega) (by omega), hrow, show oi (u i) + 1 = oi (u i + 1) from by rw [← oi_add]; rfl] at hpre
        obtain ⟨τ2, e2, o2, c2⟩ := c_setU (i := i) (y := u i + 1) (by omega) (fun _ => by unfold two64ok; omega) cu
        rw [e2, e_bs, e_bs] at hpre
        have hncl : ¬ ∀ k, i + 1 ≤ k → k < (if i + 1 = f then 6 else i + 2) → oi (gapv G A Y k u) = 0 := fun q => by
          have := hbc.mpr q
          rw [hbt] at this
          cases this
        have uag : ∀ p, p < i → uV u i (u i + 1) p = u p := fun p hp => uV_ne (by omega)
        left
        refine ⟨(τ2, i32 i, i32 (s + 1)), 50000 - (s + 1), by omega, ?_, i, s + 1, uV u i (u i + 1), τ2, by omega, rfl, rfl, o.trans o2, c2.congr (fun _ _ => rfl) (fun _ _ _ => Or.inl trivial), ⟨fun p hp => by rw [uag p hp]; exact s1 p hp, fun _ => by rw [uV_self]; omega, fun p hp => ?_, fun p hp => by rw [uV_ne (by omega)]; exact s4 p hp, fun k h1 h2 => by rw [gap_local hG (w := u) (fun p hp => uag p (by omega))]; exact s5 k h1 h2, fun w hw hkw ⟨j, hj, hjf, h1, h2⟩ => ?_⟩, fun q => absurd q hif2, ?_⟩
        · show l_X7_findWithin_21 (i32 b) (i32 f) τ (i32 i) (i32 s) = _
          rw [hpre]
          show j_X7_findWithin_127 (i32 s) τ2 (i32 i) = _
          unfold j_X7_findWithin_127
          rw [i32_1, i32_add]
        · by_cases hpi : p = i
          · rw [hpi, uV_self]; omega
          · rw [uV_ne hpi]; exact s3 p hp
        · by_cases hji : j = i
          · subst hji
            rw [uV_self] at h2
            have hag : ∀ p, p < j → w p = u p := fun p hp => by rw [h1 p hp]; exact uag p hp
            by_cases hwj : w j < u j
            · exact s6 w hw hkw ⟨j, Nat.le_refl _, hjf, hag, hwj⟩
            · have hwe : w j = u j := by omega
              have hag2 : ∀ p, p < j + 1 → u p = w p := fun p hp => by
                by_cases hpj : p = j
                · rw [hpj, hwe]
                · rw [hag p (by omega)]
              refine hncl (fun k hk1 hk2 => ?_)
              have hk6 : k < 6 := by
                by_cases q : j + 1 = f
                · rw [if_pos q] at hk2; exact hk2
                · rw [if_neg q] at hk2; omega
              have hloc : gapv G A Y k u = gapv G A Y k w := gap_local hG (fun p hp => by
                by_cases q : j + 1 = f
                · by_cases hpj : p < j + 1
                  · exact hag2 p hpj
                  · rw [s4 p (by omega), hw.2 p (by omega)]
                · rw [if_neg q] at hk2
                  exact hag2 p (by omega))
              rw [hloc]
              exact hkw k hk6
          · rw [uV_ne hji] at h2
            exact s6 w hw hkw ⟨j, hj, hjf, fun p hp => by rw [h1 p hp]; exact uag p (by omega), h2⟩
        · rw [if_pos hlt]
          show s + 1 ≤ pot f b (uV u i (u i + 1)) i + (uV u i (u i + 1) i + b).toNat * cst (f - 1 - i) + i
          rw [pot_congr (w := u) i uag, uV_self, show (u i + 1 + (b : Int)).toNat = (u i + b).toNat + 1 by omega, Nat.add_mul, Nat.one_mul]
          have : pot f b u (i + 1) = pot f b u i + (u i + b).toNat * cst (f - 1 - i) := rfl
          have h1 := cst_pos (f - 1 - i)
          omega
    · -- beyond the bound: one back
      have hle' : ¬ oi (u i) ≤ oi (b : Int) := fun q => hle ((le_small (by omega) (by omega)).mp q)
      have hue : u i = b + 1 := by omega
      rw [if_neg hle'] at hpre
      by_cases hi0 : i = 0
      · right
        subst hi0
        rw [if_neg (show ¬ 0 ≤ i32 0 + (-1) by decide), e_bs] at hpre
        refine ⟨_, ?_, τ, o, Or.inr ⟨rfl, fun w hw hkw => s6 w hw hkw ⟨0, Nat.le_refl _, by omega, fun p hp => absurd hp (Nat.not_lt_zero _), ?_⟩⟩⟩
        · show l_X7_findWithin_21 (i32 b) (i32 f) τ (i32 0) (i32 s) = _
          rw [hpre]
          rfl
        · have := (hw.1 0 (by omega)).2
          omega
      · left
        have hi1 : i32 i + (-1) = i32 (i - 1) := i32_add_one (by omega)
        have hrow1 : τ.2 103 (i - 1) = oi (u (i - 1)) := cu.1 (i - 1) (by omega) trivial
        have hb1 := s1 (i - 1) (by omega)
        rw [hi1, if_pos (show 0 ≤ i32 (i - 1) from i_le (a := 0) (by omega) (by omega)), e_gL ln_103 (by omega) (by omega), hrow1, show oi (u (i - 1)) + 1 = oi (u (i - 1) + 1) from by rw [← oi_add]; rfl] at hpre
        obtain ⟨τ2, e2, o2, c2⟩ := c_setU (i := i - 1) (y := u (i - 1) + 1) (by omega) (fun _ => by unfold two64ok; omega) cu
        rw [e2, e_bs, e_bs] at hpre
        have uag : ∀ p, p < i - 1 → uV u (i - 1) (u (i - 1) + 1) p = u p := fun p hp => uV_ne (by omega)
        refine ⟨(τ2, i32 (i - 1), i32 (s + 1)), 50000 - (s + 1), by omega, ?_, i - 1, s + 1, uV u (i - 1) (u (i - 1) + 1), τ2, by omega, rfl, rfl, o.trans o2, c2.congr (fun _ _ => rfl) (fun _ _ _ => Or.inl trivial), ⟨fun p hp => by rw [uag p hp]; exact s1 p (by omega), fun _ => by rw [uV_self]; omega, fun p hp => ?_, fun p hp => by rw [uV_ne (by omega)]; exact s4 p hp, fun k h1 h2 => by rw [gap_local hG (w := u) (fun p hp => uag p (by omega))]; exact s5 k (by omega) h2, fun w hw hkw ⟨j, hj, hjf, h1, h2⟩ => ?_⟩, fun q => by omega, ?_⟩
        · show l_X7_findWithin_21 (i32 b) (i32 f) τ (i32 i) (i32 s) = _
          rw [hpre]
          show j_X7_findWithin_127 (i32 s) τ2 (i32 (i - 1)) = _
          unfold j_X7_findWithin_127
          rw [i32_1, i32_add]
        · by_cases hpi : p = i - 1
          · rw [hpi, uV_self]; omega
          · rw [uV_ne hpi]; exact s3 p hp
        · by_cases hji : j = i - 1
          · subst hji
            rw [uV_self] at h2
            have hag : ∀ p, p < i - 1 → w p = u p := fun p hp => by rw [h1 p hp]; exact uag p hp
            by_cases hwj : w (i - 1) < u (i - 1)
            · exact s6 w hw hkw ⟨i - 1, by omega, hjf, hag, hwj⟩
            · refine s6 w hw hkw ⟨i, Nat.le_refl _, hlt, fun p hp => ?_, ?_⟩
              · by_cases hpi : p = i - 1
                · rw [hpi]; omega
                · exact hag p (by omega)
              · have := (hw.1 i hlt).2
                omega
          · rw [uV_ne hji] at h2
            exact s6 w hw hkw ⟨j, by omega, hjf, fun p hp => by rw [h1 p hp]; exact uag p (by omega), h2⟩
        · rw [if_pos (show i - 1 < f by omega)]
          show s + 1 ≤ pot f b (uV u (i - 1) (u (i - 1) + 1)) (i - 1) + (uV u (i - 1) (u (i - 1) + 1) (i - 1) + b).toNat * cst (f - 1 - (i - 1)) + (i - 1)
          rw [pot_congr (w := u) (i - 1) uag, uV_self, show (u (i - 1) + 1 + (b : Int)).toNat = (u (i - 1) + b).toNat + 1 by omega, Nat.add_mul, Nat.one_mul]
          have e1 : pot f b u (i + 1) = pot f b u i + (u i + b).toNat * cst (f - 1 - i) := rfl
          have e2 : pot f b u i = pot f b u (i - 1) + (u (i - 1) + b).toNat * cst (f - 1 - (i - 1)) := by
            rw [show i = (i - 1) + 1 by omega]; rfl
          have e3 : cst (f - 1 - (i - 1)) = 8 * cst (f - 1 - i) + 2 := by
            rw [show f - 1 - (i - 1) = (f - 1 - i) + 1 by omega]; rfl
          have h7 : (u i + (b : Int)).toNat ≤ 7 := by omega
          have h8 := Nat.mul_le_mul_right (cst (f - 1 - i)) h7
          omega
end SRC
end
