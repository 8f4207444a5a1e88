/-! collecting, as lists: what is sorted (its last letter first), what waits -/
section MA
variable {G : GD}
def cnt (S : List Nat) (m : Nat) : Int := (S.count m : Int)
def TLs (G : GD) (v : Nat → Int) (W : List Nat) : Nat → Int := W.foldl (fun v i => TL G v i 1) v
/-- the letters that an exchange brings: the last d generators' -/
def twD (G : GD) (j i : Nat) : Nat → List Nat
  | 0 => []
  | d + 1 => List.replicate (gt G j i (gn G - 1 - d)) (gn G - 1 - d) ++ twD G j i d
def tw (G : GD) (j i : Nat) : List Nat := twD G j i (gn G - 1 - j)
def run (G : GD) (L : Nat) : Nat → List Nat → List Nat → Nat → Option (List Nat × Nat)
  | 0, _, _, _ => none
  | _ + 1, S, [], ex => some (S, ex)
  | f + 1, [], i :: W, ex => run G L f [i] W ex
  | f + 1, j :: S, i :: W, ex => if j ≤ i then run G L f (i :: j :: S) W ex else if ex = L then none else run G L f S (i :: j :: (tw G j i ++ W)) (ex + 1)
theorem twD_count {j i m : Nat} : ∀ d, d ≤ gn G - 1 - j → (twD G j i d).count m = if gn G - d ≤ m ∧ m < gn G then gt G j i m else 0 := by
  intro d
  induction d with
  | zero => intro _; rw [if_neg (by omega)]; rfl
  | succ d ih =>
    intro hd
    show (List.replicate _ _ ++ twD G j i d).count m = _
    rw [List.count_append, ih (by omega), List.count_replicate]
    by_cases h1 : m = gn G - 1 - d
    · subst h1
      rw [if_pos (by rw [beq_self_eq_true]), if_neg (by omega), if_pos (by omega)]
      omega
    · rw [if_neg (by rw [beq_iff_eq]; omega)]
      by_cases h2 : gn G - d ≤ m ∧ m < gn G
      · rw [if_pos h2, if_pos (by omega)]; omega
      · rw [if_neg h2, if_neg (by omega)]
theorem tw_count (hG : GOK G) {j i m : Nat} (hj : j < gn G) : cnt (tw G j i) m = tI G j i m := by
  unfold cnt tw
  rw [twD_count _ (Nat.le_refl _)]
  by_cases h : gn G - (gn G - 1 - j) ≤ m ∧ m < gn G
  · rw [if_pos h]
  · rw [if_neg h]
    have : tI G j i m = 0 := Classical.byContradiction (fun z => by have := tI_ne hG z; omega)
    exact this.symm
theorem tw_mem {j i x : Nat} (hj : j < gn G) (h : x ∈ tw G j i) : j < x ∧ x < gn G ∧ gt G j i x ≠ 0 := by
  have h1 := List.count_pos_iff.mpr h
  unfold tw at h1
  rw [twD_count _ (Nat.le_refl _)] at h1
  by_cases h2 : gn G - (gn G - 1 - j) ≤ x ∧ x < gn G
  · rw [if_pos h2] at h1; exact ⟨by omega, h2.2, by omega⟩
  · rw [if_neg h2] at h1; omega
theorem tw_len (hG : GOK G) {j i : Nat} : ∀ d, (twD G j i d).length ≤ 3 * d := by
  intro d
  induction d with
  | zero => exact Nat.le_refl 0
  | succ d ih =>
    show (List.replicate _ _ ++ twD G j i d).length ≤ _
    rw [List.length_append, List.length_replicate]
    have := hG.2.2.2.2.2.1 j i (gn G - 1 - d)
    omega
theorem tw_len12 (hG : GOK G) {j i : Nat} (h : i < j) : (tw G j i).length ≤ 12 := by
  have h1 := tw_len hG (j := j) (i := i) (gn G - 1 - j)
  have h2 := hG.2.1
  unfold tw
  omega
/-- enough fuel is enough -/
theorem run_fuel (hG : GOK G) {L : Nat} : ∀ f f' S W ex, ex ≤ L → 14 * (L - ex) + W.length < f → 14 * (L - ex) + W.length < f' → run G L f S W ex = run G L f' S W ex := by
  intro f
  induction f with
  | zero => intro f' S W ex _ h; omega
  | succ f ih =>
    intro f' S W ex hex h h'
    cases f' with
    | zero => omega
    | succ f' =>
      cases W with
      | nil => simp only [run]
      | cons i W =>
        simp only [List.length_cons] at h h'
        cases S with
        | nil => simp only [run]; exact ih f' _ _ _ hex (by omega) (by omega)
        | cons j S =>
          simp only [run]
          by_cases h1 : j ≤ i
          · rw [if_pos h1, if_pos h1]; exact ih f' _ _ _ hex (by omega) (by omega)
          · rw [if_neg h1, if_neg h1]
            by_cases h2 : ex = L
            · rw [if_pos h2, if_pos h2]
            · rw [if_neg h2, if_neg h2]
              have h3 := tw_len12 hG (j := j) (i := i) (by omega)
              have h4 : (i :: j :: (tw G j i ++ W)).length = 2 + (tw G j i).length + W.length := by
                simp only [List.length_cons, List.length_append]; omega
              exact ih f' _ _ _ (by omega) (by omega) (by omega)
/-- collecting to its end -/
def col (G : GD) (L : Nat) (S W : List Nat) (ex : Nat) : Option (List Nat × Nat) := run G L (14 * (L - ex) + W.length + 1) S W ex
theorem col_nil {L : Nat} {S : List Nat} {ex : Nat} : col G L S [] ex = some (S, ex) := by unfold col; simp only [run]
theorem col_first (hG : GOK G) {L i : Nat} {W : List Nat} {ex : Nat} (hex : ex ≤ L) : col G L [] (i :: W) ex = col G L [i] W ex := by
  unfold col
  simp only [run, List.length_cons]
  exact run_fuel hG _ _ _ _ _ hex (by omega) (by omega)
theorem col_move (hG : GOK G) {L i j : Nat} {S W : List Nat} {ex : Nat} (hex : ex ≤ L) (h : j ≤ i) : col G L (j :: S) (i :: W) ex = col G L (i :: j :: S) W ex := by
  unfold col
  simp only [run, List.length_cons]
  rw [if_pos h]
  exact run_fuel hG _ _ _ _ _ hex (by omega) (by omega)
theorem col_limit {L i j : Nat} {S W : List Nat} (h : i < j) : col G L (j :: S) (i :: W) L = none := by
  unfold col
  simp only [run, List.length_cons]
  rw [if_neg (by omega), if_pos trivial]
theorem col_exch (hG : GOK G) {L i j : Nat} {S W : List Nat} {ex : Nat} (hex : ex < L) (h : i < j) : col G L (j :: S) (i :: W) ex = col G L S (i :: j :: (tw G j i ++ W)) (ex + 1) := by
  unfold col
  simp only [run, List.length_cons]
  rw [if_neg (by omega), if_neg (by omega)]
  have h3 := tw_len12 hG (j := j) (i := i) (by omega)
  refine run_fuel hG _ _ _ _ _ (by omega) ?_ ?_
  · simp only [List.length_cons, List.length_append]; omega
  · simp only [List.length_cons, List.length_append]; omega
/-- heavy letters alone -/
theorem TLs_heavy {W : List Nat} : ∀ v : Nat → Int, (∀ x, x ∈ W → gw G x ≠ 1) → TLs G v W = fun m => v m + cnt W m := by
  induction W with
  | nil => intro v _; funext m; show v m = v m + 0; omega
  | cons i W ih =>
    intro v h
    show TLs G (TL G v i 1) W = _
    rw [ih _ (fun x hx => h x (List.mem_cons_of_mem _ hx))]
    funext m
    rw [TL_heavy (h i (List.mem_cons_self ..))]
    unfold cnt
    rw [List.count_cons]
    by_cases h1 : m = i
    · rw [if_pos h1, if_pos (by rw [beq_iff_eq]; omega)]; omega
    · rw [if_neg h1, if_neg (by rw [beq_iff_eq]; omega)]; omega
theorem TLs_append {v : Nat → Int} {A B : List Nat} : TLs G v (A ++ B) = TLs G (TLs G v A) B := List.foldl_append ..
theorem cnt_cons {j : Nat} {S : List Nat} : cnt (j :: S) = fun k => cnt S k + if k = j then 1 else 0 := by
  funext k
  unfold cnt
  rw [List.count_cons]
  by_cases h1 : k = j
  · rw [if_pos h1, if_pos (by rw [beq_iff_eq]; omega)]; omega
  · rw [if_neg h1, if_neg (by rw [beq_iff_eq]; omega)]; omega
/-- sorted: the last letter is the greatest -/
def Srt (S : List Nat) : Prop := S.Pairwise (fun a b => b ≤ a)
theorem cnt_above {S : List Nat} {i q : Nat} (h : ∀ x, x ∈ S → x ≤ i) (hq : i < q) : cnt S q = 0 := by
  unfold cnt
  rw [List.count_eq_zero_of_not_mem (fun z => by have := h q z; omega)]; rfl
theorem run_val (hG : GOK G) {L : Nat} : ∀ f S W ex S' e, Srt S → (∀ x, x ∈ S → x < gn G) → (∀ x, x ∈ W → x < gn G) → run G L f S W ex = some (S', e) → cnt S' = TLs G (cnt S) W ∧ Srt S' ∧ (∀ x, x ∈ S' → x < gn G) := by
  intro f
  induction f with
  | zero => intro S W ex S' e _ _ _ h; simp [run] at h
  | succ f ih =>
    intro S W ex S' e hS hs hw h
    cases W with
    | nil =>
      simp only [run, Option.some.injEq, Prod.mk.injEq] at h
      obtain ⟨rfl, rfl⟩ := h
      exact ⟨rfl, hS, hs⟩
    | cons i W =>
      have hi := hw i (List.mem_cons_self ..)
      have hw' : ∀ x, x ∈ W → x < gn G := fun x hx => hw x (List.mem_cons_of_mem _ hx)
      cases S with
      | nil =>
        simp only [run] at h
        obtain ⟨h1, h2⟩ := ih [i] W ex S' e (List.pairwise_singleton ..) (fun x hx => by rw [List.mem_singleton.mp hx]; exact hi) hw' h
        refine ⟨?_, h2⟩
        rw [h1]
        show TLs G _ W = TLs G (TL G (cnt []) i 1) W
        congr 1
        rw [cnt_cons]
        funext m
        exact (TL_top hG hi (v := cnt []) (fun q _ => rfl)).symm
      | cons j S =>
        simp only [run] at h
        have hj := hs j (List.mem_cons_self ..)
        have hjS : ∀ x, x ∈ S → x ≤ j := (List.pairwise_cons.mp hS).1
        by_cases h1 : j ≤ i
        · rw [if_pos h1] at h
          have hall : ∀ x, x ∈ j :: S → x ≤ i := fun x hx => by
            rcases List.mem_cons.mp hx with h2 | h2
            · omega
            · have := hjS x h2; omega
          obtain ⟨h3, h4⟩ := ih (i :: j :: S) W ex S' e (List.pairwise_cons.mpr ⟨hall, hS⟩) (fun x hx => by
            rcases List.mem_cons.mp hx with h2 | h2
            · rw [h2]; exact hi
            · exact hs x h2) hw' h
          refine ⟨?_, h4⟩
          rw [h3]
          show TLs G _ W = TLs G (TL G (cnt (j :: S)) i 1) W
          congr 1
          rw [cnt_cons]
          funext m
          rw [TL_top hG hi (fun q hq => cnt_above hall hq)]
        · rw [if_neg h1] at h
          by_cases h2 : ex = L
          · rw [if_pos h2] at h; cases h
          · rw [if_neg h2] at h
            obtain ⟨h3, h4⟩ := ih S (i :: j :: (tw G j i ++ W)) (ex + 1) S' e (List.pairwise_cons.mp hS).2 (fun x hx => hs x (List.mem_cons_of_mem _ hx)) (fun x hx => by
              rcases List.mem_cons.mp hx with h5 | h5
              · rw [h5]; exact hi
              · rcases List.mem_cons.mp h5 with h6 | h6
                · rw [h6]; exact hj
                · rcases List.mem_append.mp h6 with h7 | h7
                  · exact (tw_mem hj h7).2.1
                  · exact hw' x h7) h
            refine ⟨?_, h4⟩
            rw [h3]
            show TLs G (TL G (TL G (cnt S) i 1) j 1) (tw G j i ++ W) = TLs G (TL G (cnt (j :: S)) i 1) W
            rw [TLs_append, TLs_heavy (W := tw G j i) _ (fun x hx => by
              have h8 := tw_mem hj hx
              have h9 := hG.2.2.2.2.2.2 j i x h8.2.2
              have w1 := (hG.2.2.1 i (by omega)).1
              have w2 := (hG.2.2.1 j hj).1
              omega)]
            congr 1
            funext m
            rw [tw_count hG hj, cnt_cons, TL_swap hG (by omega) hj (fun q hq => cnt_above hjS hq)]
end MA

