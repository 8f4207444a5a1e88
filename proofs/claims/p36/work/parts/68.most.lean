/-! fewer letters and fewer tails never make more exchanges -/
section MO
variable {G H : GD}
theorem col_back (hG : GOK G) {L ex : Nat} (hex : ex ≤ L) : ∀ S W, Srt S → col G L S W ex = col G L [] (S.reverse ++ W) ex := by
  intro S
  induction S with
  | nil => intro W _; rfl
  | cons x S ih =>
    intro W hS
    have hx := (List.pairwise_cons.mp hS).1
    rw [List.reverse_cons, List.append_assoc, List.singleton_append, ← ih (x :: W) (List.pairwise_cons.mp hS).2]
    cases S with
    | nil => exact (col_first hG hex).symm
    | cons y S => exact (col_move hG hex (hx y (List.mem_cons_self ..))).symm
/-- sorted, as a word -/
def Asc (w : List Nat) : Prop := w.Pairwise (fun a b => a ≤ b)
theorem Asc.srt {w : List Nat} (h : Asc w) : Srt w.reverse := by
  unfold Srt
  rw [List.pairwise_reverse]
  exact h
theorem col_sorted (hG : GOK G) {L ex : Nat} (hex : ex ≤ L) {w : List Nat} (h : Asc w) : col G L [] w ex = some (w.reverse, ex) := by
  have e := col_back hG hex w.reverse [] h.srt
  rw [List.reverse_reverse, List.append_nil] at e
  rw [← e, col_nil]
theorem col_swap (hG : GOK G) {L ex : Nat} (hex : ex < L) {A B : List Nat} {j i : Nat} (h : Asc (A ++ [j])) (hi : i < j) : col G L [] (A ++ j :: i :: B) ex = col G L [] (A ++ i :: j :: (tw G j i ++ B)) (ex + 1) := by
  have e1 := col_back hG (Nat.le_of_lt hex) (j :: A.reverse) (i :: B) (by have := h.srt; rwa [List.reverse_append] at this)
  rw [List.reverse_cons, List.reverse_reverse, List.append_assoc, List.singleton_append] at e1
  have hA : Asc A := (List.pairwise_append.mp h).1
  have e2 := col_back hG (show ex + 1 ≤ L by omega) A.reverse (i :: j :: (tw G j i ++ B)) hA.srt
  rw [List.reverse_reverse] at e2
  rw [← e1, ← e2, col_exch hG hex hi]
/-- either sorted, or there is a first wrong place -/
theorem first_wrong : ∀ w : List Nat, Asc w ∨ ∃ A j i B, w = A ++ j :: i :: B ∧ Asc (A ++ [j]) ∧ i < j := by
  have key : ∀ (W A : List Nat), Asc A → Asc (A ++ W) ∨ ∃ P j i B, A ++ W = P ++ j :: i :: B ∧ Asc (P ++ [j]) ∧ i < j := by
    intro W
    induction W with
    | nil => intro A h; left; rw [List.append_nil]; exact h
    | cons i W ih =>
      intro A h
      rcases List.eq_nil_or_concat A with hA | ⟨P, j, hA⟩
      · subst hA
        have := ih [i] (List.pairwise_singleton ..)
        rwa [List.singleton_append] at this
      · have hA' : A = P ++ [j] := by rw [hA, List.concat_eq_append]
        by_cases hij : i < j
        · right
          exact ⟨P, j, i, W, by rw [hA', List.append_assoc, List.singleton_append], hA' ▸ h, hij⟩
        · have hAi : Asc (A ++ [i]) := by
            refine List.pairwise_append.mpr ⟨h, List.pairwise_singleton .., fun a ha b hb => ?_⟩
            rw [List.mem_singleton.mp hb]
            rw [hA'] at ha h
            rcases List.mem_append.mp ha with h1 | h1
            · have := (List.pairwise_append.mp h).2.2 a h1 j (List.mem_singleton_self j)
              omega
            · rw [List.mem_singleton.mp h1]; omega
          have := ih (A ++ [i]) hAi
          rwa [List.append_assoc, List.singleton_append] at this
  intro w
  exact key w [] List.Pairwise.nil
theorem tw_sub (hn : gn G = gn H) (ht : ∀ j i k, gt G j i k ≤ gt H j i k) {j i : Nat} : (tw G j i).Sublist (tw H j i) := by
  have key : ∀ d, (twD G j i d).Sublist (twD H j i d) := by
    intro d
    induction d with
    | zero => exact List.Sublist.slnil
    | succ d ih =>
      rw [twD_succ, twD_succ, hn]
      exact List.Sublist.append ((List.replicate_sublist_replicate _).mpr (ht _ _ _)) ih
  unfold tw
  rw [hn]
  exact key _
theorem col_ge (hG : GOK G) {L : Nat} : ∀ (N : Nat) w ex S e, L - ex ≤ N → ex ≤ L → col G L [] w ex = some (S, e) → ex ≤ e := by
  intro N
  induction N with
  | zero =>
    intro w ex S e hN hex h
    rcases first_wrong w with h1 | ⟨A, j, i, B, rfl, h2, h3⟩
    · rw [col_sorted hG hex h1] at h
      cases h; exact Nat.le_refl _
    · have e1 := col_back hG hex (j :: A.reverse) (i :: B) (by have := h2.srt; rwa [List.reverse_append] at this)
      rw [List.reverse_cons, List.reverse_reverse, List.append_assoc, List.singleton_append] at e1
      have : ex = L := by omega
      subst this
      rw [← e1, col_limit h3] at h
      cases h
  | succ N ih =>
    intro w ex S e hN hex h
    rcases first_wrong w with h1 | ⟨A, j, i, B, rfl, h2, h3⟩
    · rw [col_sorted hG hex h1] at h
      cases h; exact Nat.le_refl _
    · by_cases hx : ex < L
      · rw [col_swap hG hx h2 h3] at h
        have := ih _ _ _ _ (by omega) (by omega) h
        omega
      · exact ih _ _ _ _ (by omega) hex h
theorem col_mono (hG : GOK G) (hH : GOK H) (hn : gn G = gn H) (ht : ∀ j i k, gt G j i k ≤ gt H j i k) {L L' : Nat} :
    ∀ (N : Nat) w w' ex ex' S' e', L' - ex' ≤ N → ex' ≤ L' → col H L' [] w' ex' = some (S', e') → w.Sublist w' → ex + e' ≤ L + ex' → ∃ S e, col G L [] w ex = some (S, e) ∧ e + ex' ≤ ex + e' := by
  intro N
  induction N with
  | zero =>
    intro w w' ex ex' S' e' hN hex' h hw hL
    have hge := col_ge hH _ _ _ _ _ (Nat.le_refl _) hex' h
    rcases first_wrong w' with h1 | ⟨A, j, i, B, rfl, h2, h3⟩
    · rw [col_sorted hH hex' h1] at h
      cases h
      exact ⟨_, ex, col_sorted hG (by omega) (List.Pairwise.sublist hw h1), by omega⟩
    · have e1 := col_back hH hex' (j :: A.reverse) (i :: B) (by have := h2.srt; rwa [List.reverse_append] at this)
      rw [List.reverse_cons, List.reverse_reverse, List.append_assoc, List.singleton_append] at e1
      have : ex' = L' := by omega
      subst this
      rw [← e1, col_limit h3] at h
      cases h
  | succ N ih =>
    intro w w' ex ex' S' e' hN hex' h hw hL
    have hge := col_ge hH _ _ _ _ _ (Nat.le_refl _) hex' h
    rcases first_wrong w' with h1 | ⟨A, j, i, B, rfl, h2, h3⟩
    · rw [col_sorted hH hex' h1] at h
      cases h
      exact ⟨_, ex, col_sorted hG (by omega) (List.Pairwise.sublist hw h1), by omega⟩
    · by_cases hx : ex' < L'
      · rw [col_swap hH hx h2 h3] at h
        have hge2 := col_ge hH _ _ _ _ _ (Nat.le_refl _) (by omega) h
        obtain ⟨P, C, rfl, hP, hC⟩ := List.sublist_append_iff.mp hw
        have other : ∀ C', C = C' → C'.Sublist (i :: j :: (tw H j i ++ B)) → ∃ S e, col G L [] (P ++ C) ex = some (S, e) ∧ e + ex' ≤ ex + e' := by
          intro C' hCC hs
          subst hCC
          obtain ⟨S, e, q1, q2⟩ := ih (P ++ C) _ ex (ex' + 1) S' e' (by omega) (by omega) h (hP.append hs) (by omega)
          exact ⟨S, e, q1, by omega⟩
        have hB : B.Sublist (tw H j i ++ B) := List.sublist_append_right ..
        rcases List.sublist_cons_iff.mp hC with h4 | ⟨C1, rfl, h4⟩
        · rcases List.sublist_cons_iff.mp h4 with h5 | ⟨C2, rfl, h5⟩
          · exact other C rfl (((h5.trans hB).cons j).cons i)
          · exact other _ rfl (((h5.trans hB).cons j).cons₂ i)
        · rcases List.sublist_cons_iff.mp h4 with h5 | ⟨C2, rfl, h5⟩
          · exact other _ rfl (((h5.trans hB).cons₂ j).cons i)
          · have hPj : Asc (P ++ [j]) := List.Pairwise.sublist (hP.append (List.Sublist.refl _)) h2
            have hxL : ex < L := by omega
            rw [col_swap hG hxL hPj h3]
            obtain ⟨S, e, q1, q2⟩ := ih (P ++ i :: j :: (tw G j i ++ C2)) _ (ex + 1) (ex' + 1) S' e' (by omega) (by omega) h (hP.append ((((tw_sub hn ht).append h5).cons₂ j).cons₂ i)) (by omega)
            exact ⟨S, e, q1, by omega⟩
      · exact ih _ _ _ _ _ _ (by omega) hex' h hw hL
end MO

