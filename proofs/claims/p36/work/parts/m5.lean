/-! p36: the letters of a word, the bytes of a builder -/
section WRD
def ltr (w : List Nat) : List Nat := w.map (fun x => 97 + x)
theorem ltr_app {a b : List Nat} : ltr (a ++ b) = ltr a ++ ltr b := List.map_append ..
theorem ltr_len {a : List Nat} : (ltr a).length = a.length := List.length_map ..
theorem wdof_ltr {w : List Nat} : wdof (ltr w) = w := by
  unfold wdof ltr
  rw [List.map_map]
  refine (List.map_congr_left (fun x _ => ?_)).trans (List.map_id w)
  show 97 + x - 97 = x
  omega
theorem ltr_vlt {w : List Nat} {n : Nat} (h : ∀ x, x ∈ w → x < n) : ∀ x, x ∈ ltr w → vlt n x := fun x hx => by
  obtain ⟨y, hy, rfl⟩ := List.mem_map.mp hx
  have := h y hy
  exact ⟨by omega, by omega⟩
theorem wordU_congr {b c : Nat → Nat} : ∀ K, (∀ k, k < K → b k = c k) → wordU b K = wordU c K := by
  intro K
  induction K with
  | zero => intro _; rfl
  | succ K ih =>
    intro h
    show wordU b K ++ List.replicate (b K) K = wordU c K ++ List.replicate (c K) K
    rw [ih (fun k hk => h k (by omega)), h K (by omega)]
theorem wordU_len {b : Nat → Nat} {m : Nat} : ∀ K, (∀ k, k < K → b k ≤ m) → (wordU b K).length ≤ K * m := by
  intro K
  induction K with
  | zero => intro _; exact Nat.zero_le _
  | succ K ih =>
    intro h
    show (wordU b K ++ List.replicate (b K) K).length ≤ (K + 1) * m
    rw [List.length_append, List.length_replicate, Nat.succ_mul]
    exact Nat.add_le_add (ih (fun k hk => h k (by omega))) (h K (by omega))
/-- a generator's exponent put to a row -/
def pE (c : Nat → Nat) (K t : Nat) : Nat → Nat := fun k => if k = K then t else c k
theorem pE_word {c : Nat → Nat} {K t : Nat} : wordU (pE c K t) (K + 1) = wordU c K ++ List.replicate t K := by
  show wordU (pE c K t) K ++ List.replicate (pE c K t K) K = _
  rw [wordU_congr (b := pE c K t) (c := c) K (fun k hk => if_neg (by omega)), show pE c K t K = t from if_pos rfl]
/-- the bytes of a builder -/
def WB (lt : List Nat) (f : Nat → Int32) : Prop := (∀ k, k < lt.length → f k = i32 (lt.getD k 0)) ∧ (∀ k, fits .byte (.int (f k)) = true) ∧ ∀ x, x ∈ lt → x < 103 ∧ 97 ≤ x
theorem WB.nil : WB [] (fun _ => 0) := ⟨fun k hk => absurd hk (Nat.not_lt_zero k), fun _ => rfl, fun x hx => by cases hx⟩
theorem chr6 : ∀ i, i < 7 → 1 ≤ i → ((((97 : Int32) + i32 i - 1).toUInt32 % 65536).toInt32 = i32 (96 + i) ∧ ¬ 255 < i32 (96 + i) ∧ vp_nar .byte (i32 (96 + i)).toInt8.toInt32 = i32 (96 + i) ∧ fits .byte (.int (i32 (96 + i))) = true) := by decide +kernel
theorem WB.add {lt : List Nat} {f : Nat → Int32} {i : Nat} (h : WB lt f) (h1 : 1 ≤ i) (h6 : i < 7) (hl : lt.length < 16) : WB (lt ++ [96 + i]) (upd f (i32 lt.length).toNatClampNeg (vp_nar .byte (i32 (96 + i)).toInt8.toInt32)) := by
  obtain ⟨-, -, c3, c4⟩ := chr6 i h6 h1
  rw [c3, i32_cl (by omega)]
  refine ⟨fun k hk => ?_, fun k => ?_, fun x hx => ?_⟩
  · rw [List.length_append, List.length_singleton] at hk
    unfold upd
    by_cases e : k = lt.length
    · subst e
      rw [if_pos rfl]
      simp
    · rw [if_neg e, h.1 k (by omega), List.getD_eq_getElem?_getD, List.getD_eq_getElem?_getD, List.getElem?_append_left (by omega)]
  · unfold upd
    by_cases e : k = lt.length
    · rw [if_pos e]; exact c4
    · rw [if_neg e]; exact h.2.1 k
  · rcases List.mem_append.mp hx with h2 | h2
    · exact h.2.2 x h2
    · have := List.mem_singleton.mp h2; omega
theorem ltr_rep {c : Nat → Nat} {i t : Nat} (h : 1 ≤ i) : ltr (wordU c (i - 1)) ++ List.replicate t (96 + i) = ltr (wordU (pE c (i - 1) t) i) := by
  have e : wordU (pE c (i - 1) t) i = wordU c (i - 1) ++ List.replicate t (i - 1) := by
    have := pE_word (c := c) (K := i - 1) (t := t)
    rw [show i - 1 + 1 = i by omega] at this
    exact this
  rw [e, ltr_app]
  congr 1
  unfold ltr
  rw [List.map_replicate, show 97 + (i - 1) = 96 + i by omega]
end WRD
