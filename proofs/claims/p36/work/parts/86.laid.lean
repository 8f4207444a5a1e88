/-! all terms laid -/
section LD
variable {G : GD} {σ : Mem}
theorem pts_chk : (List.range 7).all (fun n => (allW n 1).all (fun ws => decide ((pts (ws ++ ws) 3).length ≤ 455))) = true := by decide +kernel
theorem lst_app {s m p : Nat} {f : Nat → Nat} : lst s (m + p) f = lst s m f ++ lst (s + m) p f := by
  unfold lst
  rw [← List.map_append, List.range'_append_1]
theorem lst_shift {s m n : Nat} {f g : Nat → Nat} (h : ∀ q, q < m → f (s + q) = g (n + q)) : lst s m f = lst n m g := by
  unfold lst
  rw [List.range'_eq_map_range, List.range'_eq_map_range, List.map_map, List.map_map]
  refine List.map_congr_left (fun q hq => ?_)
  exact h q (List.mem_range.mp hq)
theorem wl_ws (hG : GOK G) : wl G = wsG G ++ wsG G := by
  have h0 := hG.1
  have e1 : wsG G = lst 0 (gn G) (gw G) := by
    unfold wsG lst
    rw [List.range_eq_range']
  unfold wl
  rw [e1, show 2 * gn G = gn G + gn G by omega, lst_app]
  congr 1
  · exact lst_congr (fun q _ h => by rw [Nat.mod_eq_of_lt (by omega)])
  · refine lst_shift (fun q hq => ?_)
    rw [Nat.zero_add, Nat.zero_add, Nat.add_mod_left, Nat.mod_eq_of_lt hq]
theorem wsG_all (hG : GOK G) : wsG G ∈ allW (gn G) 1 := by
  have h2 := allW_mem (wsG G) 1 (Nat.le_refl _) (fun x hx => ?_) ?_
  · rwa [wsG_len] at h2
  · obtain ⟨i, hi, rfl⟩ := List.mem_map.mp hx
    exact hG.2.2.1 i (List.mem_range.mp hi)
  · unfold wsG
    rw [List.pairwise_map]
    refine List.Pairwise.imp_of_mem ?_ (List.pairwise_lt_range (n := gn G))
    intro a b ha hb hab
    exact hG.2.2.2.1 a b (Nat.le_of_lt hab) (List.mem_range.mp hb)
theorem pts_small (hG : GOK G) {L : Nat} (hL : L ≤ 3) : (pts (wl G) L).length ≤ 455 := by
  have h1 := List.all_eq_true.mp pts_chk (gn G) (List.mem_range.mpr (by have := hG.2.1; omega))
  have h2 := of_decide_eq_true (List.all_eq_true.mp h1 (wsG G) (wsG_all hG))
  rw [← wl_ws hG] at h2
  rw [← pts_filter (wl G) 3 L (wl_pos hG) hL]
  exact Nat.le_trans (List.length_filter_le _ _) h2
theorem Tk_len (hG : GOK G) {k : Nat} (hk : k < gn G) : (Tk G k).length ≤ 455 :=
  Nat.le_trans (List.length_filter_le _ _) (pts_small hG (hG.2.2.1 k hk).2)
theorem RT.keep {τ : Mem} {k q m : Nat} {T : List (List Nat)} (h : RT G σ q T) (f : FRw σ τ k m) (hq : q ≠ k) (hl : T.length ≤ 455) (hn : gn G ≤ 6) : RT G τ q T := by
  refine ⟨by rw [f.2.1 q hq]; exact h.1, fun t e he => ?_⟩
  have h1 := h.2 t e he
  have h2 : t < T.length := (List.getElem?_eq_some_iff.mp he).1
  refine ⟨h1.1, by rw [f.2.2.2.2 _ (by omega)]; exact h1.2.1, fun p x hp => ?_⟩
  have h3 : p < e.length := (List.getElem?_eq_some_iff.mp hp).1
  rw [f.2.2.2.2 _ (by omega)]
  exact h1.2.2 p x hp
/-- what the reference has laid -/
def Laid (σ : Mem) (G : GD) : Prop := ∃ c, σ.1 306 10 = b2i c ∧ (c = true ↔ Cons G) ∧ ∀ k, k < 6 → RT G σ k (if c = true ∧ k < gn G then Tk G k else [])
def LaidIf (σ : Mem) (G : GD) : Prop := ∃ b, σ.1 306 9 = b2i b ∧ (b = true → Laid σ G)
def FLy (σ τ : Mem) : Prop := (∀ x, x ≠ 306 → x ≠ 309 → x ≠ 310 → x ≠ 311 → x ≠ 315 → x ≠ 316 → τ.1 x = σ.1 x) ∧ (∀ c, c ≠ 6 → c ≠ 7 → c ≠ 9 → c ≠ 10 → τ.1 306 c = σ.1 306 c) ∧ ∀ x, x ≠ 312 → x ≠ 313 → τ.2 x = σ.2 x
theorem FLy.refl : FLy σ σ := ⟨fun _ _ _ _ _ _ _ => rfl, fun _ _ _ _ _ => rfl, fun _ _ _ => rfl⟩
theorem FLy.trans {τ υ : Mem} (h : FLy σ τ) (k : FLy τ υ) : FLy σ υ := ⟨fun x h1 h2 h3 h4 h5 h6 => (k.1 x h1 h2 h3 h4 h5 h6).trans (h.1 x h1 h2 h3 h4 h5 h6), fun c h1 h2 h3 h4 => (k.2.1 c h1 h2 h3 h4).trans (h.2.1 c h1 h2 h3 h4), fun x h1 h2 => (k.2.2 x h1 h2).trans (h.2.2 x h1 h2)⟩
end LD

