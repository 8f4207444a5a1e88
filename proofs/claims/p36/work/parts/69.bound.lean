/-! the most exchanges that three letters make -/
section BO
def HW (ws : List Nat) : GD := (ws.length, fun i => ws.getD i 0, fun j i k => if i < j ∧ j < k ∧ k < ws.length ∧ ws.getD i 0 + ws.getD j 0 ≤ ws.getD k 0 then 3 else 0)
def chkW (ws : List Nat) (w : List Nat) : Bool := (run (HW ws) 999 14100 [] w 0).isSome
def chk (ws : List Nat) : Bool :=
  (List.range ws.length).all (fun a => (List.range ws.length).all (fun b => (List.range ws.length).all (fun c => chkW ws [a, b, c] && (!(decide (c < b) && decide (b < a)) || chkW ws (a :: c :: b :: tw (HW ws) b c)))))
def allW : Nat → Nat → List (List Nat)
  | 0, _ => [[]]
  | n + 1, lo => ([1, 2, 3].filter (fun x => decide (lo ≤ x))).flatMap (fun x => (allW n x).map (fun ws => x :: ws))
theorem chk_all : (List.range 7).all (fun n => (allW n 1).all chk) = true := by decide +kernel
theorem allW_mem : ∀ (ws : List Nat) (lo : Nat), 1 ≤ lo → (∀ x, x ∈ ws → lo ≤ x ∧ x ≤ 3) → ws.Pairwise (fun a b => a ≤ b) → ws ∈ allW ws.length lo := by
  intro ws
  induction ws with
  | nil => intro lo _ _ _; exact List.mem_singleton_self _
  | cons x ws ih =>
    intro lo hlo h hp
    have hx := h x (List.mem_cons_self ..)
    refine List.mem_flatMap.mpr ⟨x, ?_, List.mem_map.mpr ⟨ws, ih x (by omega) (fun y hy => ⟨(List.pairwise_cons.mp hp).1 y hy, (h y (List.mem_cons_of_mem _ hy)).2⟩) (List.pairwise_cons.mp hp).2, rfl⟩⟩
    refine List.mem_filter.mpr ⟨?_, decide_eq_true hx.1⟩
    rcases (show x = 1 ∨ x = 2 ∨ x = 3 by omega) with h1 | h1 | h1 <;> rw [h1] <;> decide
variable {G : GD}
def wsG (G : GD) : List Nat := (List.range (gn G)).map (gw G)
theorem wsG_len : (wsG G).length = gn G := by unfold wsG; rw [List.length_map, List.length_range]
theorem wsG_get (hG : GOK G) (i : Nat) : (wsG G).getD i 0 = gw G i := by
  unfold wsG
  rw [List.getD_eq_getElem?_getD, List.getElem?_map]
  by_cases h : i < gn G
  · rw [List.getElem?_range h]; rfl
  · rw [List.getElem?_eq_none (by rw [List.length_range]; omega), hG.2.2.2.2.1 i (by omega)]; rfl
theorem HW_ok (hG : GOK G) : GOK (HW (wsG G)) := by
  have e : ∀ i, gw (HW (wsG G)) i = gw G i := wsG_get hG
  have en : gn (HW (wsG G)) = gn G := wsG_len
  refine ⟨by rw [en]; exact hG.1, by rw [en]; exact hG.2.1, fun i hi => by rw [e]; exact hG.2.2.1 i (by rw [← en]; exact hi), fun i j h1 h2 => by rw [e, e]; exact hG.2.2.2.1 i j h1 (by rw [← en]; exact h2), fun i hi => by rw [e]; exact hG.2.2.2.2.1 i (by rw [← en]; exact hi), fun j i k => ?_, fun j i k h => ?_⟩
  · show (if _ then 3 else 0) ≤ 3
    split <;> omega
  · have h' : (if i < j ∧ j < k ∧ k < (wsG G).length ∧ (wsG G).getD i 0 + (wsG G).getD j 0 ≤ (wsG G).getD k 0 then 3 else 0) ≠ 0 := h
    by_cases hc : i < j ∧ j < k ∧ k < (wsG G).length ∧ (wsG G).getD i 0 + (wsG G).getD j 0 ≤ (wsG G).getD k 0
    · exact hc
    · rw [if_neg hc] at h'; exact absurd rfl h'
theorem HW_ge (hG : GOK G) (j i k : Nat) : gt G j i k ≤ gt (HW (wsG G)) j i k := by
  by_cases h : gt G j i k = 0
  · rw [h]; exact Nat.zero_le _
  · have h1 := hG.2.2.2.2.2.2 j i k h
    have h3 := hG.2.2.2.2.2.1 j i k
    show _ ≤ (if i < j ∧ j < k ∧ k < (wsG G).length ∧ (wsG G).getD i 0 + (wsG G).getD j 0 ≤ (wsG G).getD k 0 then 3 else 0)
    rw [wsG_get hG, wsG_get hG, wsG_get hG, wsG_len, if_pos ⟨h1.1, h1.2.1, h1.2.2.1, h1.2.2.2⟩]
    exact h3
theorem wsG_mem (hG : GOK G) : chk (wsG G) = true := by
  have h1 := List.all_eq_true.mp chk_all (gn G) (List.mem_range.mpr (by have := hG.2.1; omega))
  refine List.all_eq_true.mp h1 (wsG G) ?_
  have h2 := allW_mem (wsG G) 1 (Nat.le_refl _) (fun x hx => ?_) ?_
  · rwa [wsG_len] at h2
  · obtain ⟨i, hi, rfl⟩ := List.mem_map.mp hx
    exact hG.2.2.1 i (List.mem_range.mp hi)
  · unfold wsG
    rw [List.pairwise_map]
    refine List.Pairwise.imp_of_mem ?_ (List.pairwise_lt_range (n := gn G))
    intro a b ha hb hab
    exact hG.2.2.2.1 a b (Nat.le_of_lt hab) (List.mem_range.mp hb)
theorem col_le (hG : GOK G) {L : Nat} : ∀ (N : Nat) w ex S e, L - ex ≤ N → ex ≤ L → col G L [] w ex = some (S, e) → e ≤ L := by
  intro N
  induction N with
  | zero =>
    intro w ex S e hN hex h
    rcases first_wrong w with h1 | ⟨A, j, i, B, rfl, h2, h3⟩
    · rw [col_sorted hG hex h1] at h
      cases h; exact hex
    · have e1 := col_back hG hex (j :: A.reverse) (i :: B) (by have := h2.srt; rwa [List.reverse_append] at this)
      rw [List.reverse_cons, List.reverse_reverse, List.append_assoc, List.singleton_append] at e1
      have : ex = L := by omega
      subst this
      rw [← e1, col_limit h3] at h
      cases h
  | succ N ih =>
    intro w ex S e hN hex h
    rcases first_wrong w with h1 | ⟨A, j, i, B, rfl, h2, h3⟩
    · rw [col_sorted hG hex h1] at h
      cases h; exact hex
    · by_cases hx : ex < L
      · rw [col_swap hG hx h2 h3] at h
        exact ih _ _ _ _ (by omega) (by omega) h
      · exact ih _ _ _ _ (by omega) hex h
/-- what the finite check says of a word -/
theorem col_small (hG : GOK G) {w w' : List Nat} {L ex : Nat} (hc : chkW (wsG G) w' = true) (hl : w'.length ≤ 64) (hw : w.Sublist w') (hL : ex + 999 ≤ L) : ∃ S e, col G L [] w ex = some (S, e) := by
  have hH := HW_ok hG
  obtain ⟨⟨S', e'⟩, hr⟩ := Option.isSome_iff_exists.mp hc
  have hcol : col (HW (wsG G)) 999 [] w' 0 = some (S', e') := by
    unfold col
    rw [run_fuel hH _ 14100 _ _ _ (Nat.zero_le _) (by omega) (by omega)]
    exact hr
  have hle := col_le hH _ _ _ _ _ (Nat.le_refl _) (Nat.zero_le _) hcol
  obtain ⟨S, e, h1, _⟩ := col_mono hG hH (show gn G = gn (HW (wsG G)) from wsG_len.symm) (HW_ge hG) (L := L) _ w w' ex 0 S' e' (Nat.le_refl _) (Nat.zero_le _) hcol hw (by omega)
  exact ⟨S, e, h1⟩
theorem chk_three (hG : GOK G) {a b c : Nat} (ha : a < gn G) (hb : b < gn G) (hc : c < gn G) : chkW (wsG G) [a, b, c] = true ∧ (c < b → b < a → chkW (wsG G) (a :: c :: b :: tw (HW (wsG G)) b c) = true) := by
  have h := wsG_mem hG
  unfold chk at h
  rw [wsG_len] at h
  have h1 := List.all_eq_true.mp h a (List.mem_range.mpr ha)
  have h2 := List.all_eq_true.mp h1 b (List.mem_range.mpr hb)
  have h3 := List.all_eq_true.mp h2 c (List.mem_range.mpr hc)
  rw [Bool.and_eq_true] at h3
  refine ⟨h3.1, fun h4 h5 => ?_⟩
  have h6 := h3.2
  rw [decide_eq_true h4, decide_eq_true h5] at h6
  simpa using h6
theorem col_three (hG : GOK G) {a b c : Nat} (ha : a < gn G) (hb : b < gn G) (hc : c < gn G) {w : List Nat} (hw : w.Sublist [a, b, c]) {L ex : Nat} (hL : ex + 999 ≤ L) : ∃ S e, col G L [] w ex = some (S, e) :=
  col_small hG (chk_three hG ha hb hc).1 (by simp only [List.length_cons, List.length_nil]; omega) hw hL
theorem col_over (hG : GOK G) {k j i : Nat} (hk : k < gn G) (hj : j < k) (hi : i < j) {L ex : Nat} (hL : ex + 999 ≤ L) : ∃ S e, col G L [] (k :: i :: j :: tw G j i) ex = some (S, e) := by
  have hH := HW_ok hG
  have l12 := tw_len12 hH (j := j) (i := i) hi
  refine col_small hG ((chk_three hG hk (show j < gn G by omega) (show i < gn G by omega)).2 hi hj) (by simp only [List.length_cons]; omega) ?_ hL
  exact (((tw_sub (show gn G = gn (HW (wsG G)) from wsG_len.symm) (HW_ge hG)).cons₂ j).cons₂ i).cons₂ k
end BO

