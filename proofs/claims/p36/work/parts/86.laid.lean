/-! all terms laid -/
section LD
variable {G : GD} {σ : Mem}
theorem pts_chk : (List.range 7).all (fun n => (allW n 1).all (fun ws => decide ((pts (ws ++ ws) 3).length ≤ 455))) = true := by decide +kernel
theorem lst_app {s m p : Nat} {f : Nat → Nat} : lst s (m + p) f = lst s m f ++ lst (s + m) p f := by
  unfold lst
  rw [← List.map_append, List.range'_append_1]
theorem lst_shift {s m n : Nat} {f g : Nat → Nat} (h : ∀ q, q < m → f (s + q) = g (n + q)) : lst s m f = lst n m g := by
  unfold lst
  rw [List.range'_eq_map_range, List.range'_eq_map_range, List.map_map, List.map_map]
  refine List.map_congr_left (fun q hq => ?_)
  exact h q (List.mem_range.mp hq)
theorem wl_ws (hG : GOK G) : wl G = wsG G ++ wsG G := by
  have h0 := hG.1
  have e1 : wsG G = lst 0 (gn G) (gw G) := by
    unfold wsG lst
    rw [List.range_eq_range']
  unfold wl
  rw [e1, show 2 * gn G = gn G + gn G by omega, lst_app]
  congr 1
  · exact lst_congr (fun q _ h => by rw [Nat.mod_eq_of_lt (by omega)])
  · refine lst_shift (fun q hq => ?_)
    rw [Nat.zero_add, Nat.zero_add, Nat.add_mod_left, Nat.mod_eq_of_lt hq]
theorem wsG_all (hG : GOK G) : wsG G ∈ allW (gn G) 1 := by
  have h2 := allW_mem (wsG G) 1 (Nat.le_refl _) (fun x hx => ?_) ?_
  · rwa [wsG_len] at h2
  · obtain ⟨i, hi, rfl⟩ := List.mem_map.mp hx
    exact hG.2.2.1 i (List.mem_range.mp hi)
  · unfold wsG
    rw [List.pairwise_map]
    refine List.Pairwise.imp_of_mem ?_ (List.pairwise_lt_range (n := gn G))
    intro a b ha hb hab
    exact hG.2.2.2.1 a b (Nat.le_of_lt hab) (List.mem_range.mp hb)
theorem pts_small (hG : GOK G) {L : Nat} (hL : L ≤ 3) : (pts (wl G) L).length ≤ 455 := by
  have h1 := List.all_eq_true.mp pts_chk (gn G) (List.mem_range.mpr (by have := hG.2.1; omega))
  have h2 := of_decide_eq_true (List.all_eq_true.mp h1 (wsG G) (wsG_all hG))
  rw [← wl_ws hG] at h2
  rw [← pts_filter (wl G) 3 L (wl_pos hG) hL]
  exact Nat.le_trans (List.length_filter_le _ _) h2
theorem Tk_len (hG : GOK G) {k : Nat} (hk : k < gn G) : (Tk G k).length ≤ 455 :=
  Nat.le_trans (List.length_filter_le _ _) (pts_small hG (hG.2.2.1 k hk).2)
theorem r_laysTerms (h : MG σ G) (hG : GOK G) (h0 : M0 σ) {k : Nat} (hk : k < gn G) (hT : RT G σ k []) : ∃ τ, f_X11_laysTerms σ (i32 k) = some τ ∧ FRw σ τ k 0 ∧ RT G τ k (Tk G k) := by
  have hn := hG.2.1
  unfold f_X11_laysTerms
  obtain ⟨τ, e, f, t⟩ := r_rows hG hk (wl G) [] 14 σ [] (gw G k) [] h h0 rfl rfl (by show 0 + gw G k ≤ gw G k; omega) (fun p x hp => by simp at hp) hT (by have := pts_small hG (hG.2.2.1 k hk).2; rw [List.length_nil]; omega) (by rw [wl_len]; omega)
  have e' : f_X11_rows 14 σ (i32 k) 0 (i32 (gw G k)) = some τ := e
  rw [e_weight h (by omega), e_bs, e', e_bs]
  refine ⟨τ, rfl, f, ?_⟩
  have hm : (pts (wl G) (gw G k)).map (fun e => [] ++ e) = pts (wl G) (gw G k) := by
    rw [show (fun (e : List Nat) => [] ++ e) = id from funext (fun e => rfl), List.map_id]
  rw [hm, List.nil_append] at t
  exact t
theorem RT.keep {τ : Mem} {k q m : Nat} {T : List (List Nat)} (h : RT G σ q T) (f : FRw σ τ k m) (hq : q ≠ k) (hl : T.length ≤ 455) (hn : gn G ≤ 6) : RT G τ q T := by
  refine ⟨by rw [f.2.1 q hq]; exact h.1, fun t e he => ?_⟩
  have h1 := h.2 t e he
  have h2 : t < T.length := (List.getElem?_eq_some_iff.mp he).1
  refine ⟨h1.1, by rw [f.2.2.2.2 _ (by omega)]; exact h1.2.1, fun p x hp => ?_⟩
  have h3 : p < e.length := (List.getElem?_eq_some_iff.mp hp).1
  rw [f.2.2.2.2 _ (by omega)]
  exact h1.2.2 p x hp
/-- what the reference has laid -/
def Laid (σ : Mem) (G : GD) : Prop := ∃ c, σ.1 306 10 = b2i c ∧ (c = true ↔ Cons G) ∧ ∀ k, k < 6 → RT G σ k (if c = true ∧ k < gn G then Tk G k else [])
def LaidIf (σ : Mem) (G : GD) : Prop := ∃ b, σ.1 306 9 = b2i b ∧ (b = true → Laid σ G)
def FLy (σ τ : Mem) : Prop := (∀ x, x ≠ 306 → x ≠ 309 → x ≠ 310 → x ≠ 311 → x ≠ 315 → x ≠ 316 → τ.1 x = σ.1 x) ∧ (∀ c, c ≠ 6 → c ≠ 7 → c ≠ 9 → c ≠ 10 → τ.1 306 c = σ.1 306 c) ∧ ∀ x, x ≠ 312 → x ≠ 313 → τ.2 x = σ.2 x
theorem FLy.refl : FLy σ σ := ⟨fun _ _ _ _ _ _ _ => rfl, fun _ _ _ _ _ => rfl, fun _ _ _ => rfl⟩
theorem FLy.trans {τ υ : Mem} (h : FLy σ τ) (k : FLy τ υ) : FLy σ υ := ⟨fun x h1 h2 h3 h4 h5 h6 => (k.1 x h1 h2 h3 h4 h5 h6).trans (h.1 x h1 h2 h3 h4 h5 h6), fun c h1 h2 h3 h4 => (k.2.1 c h1 h2 h3 h4).trans (h.2.1 c h1 h2 h3 h4), fun x h1 h2 => (k.2.2 x h1 h2).trans (h.2.2 x h1 h2)⟩
theorem FZ.fly {τ : Mem} (h : FZ σ τ) : FLy σ τ := ⟨fun x h1 h2 h3 _ _ _ => h.2.1 x h1 h2 h3, fun c h1 h2 _ h4 => h.2.2 c h1 h2 h4, fun x _ _ => by rw [h.1]⟩
theorem FRw.fly {τ : Mem} {k m : Nat} (h : FRw σ τ k m) : FLy σ τ := ⟨fun x _ _ _ h4 h5 h6 => h.1 x h4 h5 h6, fun c _ _ _ _ => by rw [h.1 306 (by omega) (by omega) (by omega)], fun x h1 h2 => h.2.2.2.1 x h1 h2⟩
theorem MG.fly {τ : Mem} (h : MG σ G) (k : FLy σ τ) : MG τ G := by
  unfold MG
  rw [k.1 307 (by omega) (by omega) (by omega) (by omega) (by omega) (by omega)]
  exact h
theorem M0.fly {τ : Mem} (h : M0 σ) (f : FLy σ τ) : M0 τ := fun i hi => by rw [f.2.2 314 (by omega) (by omega)]; exact h i hi
theorem r_zeros : ∃ τ, loopO (fun (z12 : (Mem × Int32)) => l_X11_lays_88 z12.1 z12.2) (σ, 0) = some τ ∧ OI 311 σ τ ∧ ∀ k, k < 6 → τ.1 311 k = 0 := by
  refine loop_inv (body := fun (z12 : (Mem × Int32)) => l_X11_lays_88 z12.1 z12.2) (fun n z => ∃ k τ, k ≤ 6 ∧ n = 6 - k ∧ z = (τ, i32 k) ∧ OI 311 σ τ ∧ ∀ p, p < k → τ.1 311 p = 0) _ ?_ 6 (σ, 0) ⟨0, σ, Nat.zero_le _, rfl, rfl, ⟨rfl, fun _ _ => rfl⟩, fun p hp => absurd hp (Nat.not_lt_zero _)⟩
  rintro n z ⟨k, τ, hk, rfl, rfl, o, v⟩
  by_cases hk6 : k = 6
  · right
    subst hk6
    refine ⟨τ, ?_, o, v⟩
    show l_X11_lays_88 τ (i32 6) = _
    unfold l_X11_lays_88
    rw [if_pos (by decide)]
  · left
    refine ⟨(wI τ 311 k 0, i32 (k + 1)), 6 - (k + 1), by omega, ?_, k + 1, _, by omega, rfl, rfl, ⟨o.1, fun x hx => ?_⟩, fun p hp => ?_⟩
    · show l_X11_lays_88 τ (i32 k) = _
      unfold l_X11_lays_88
      rw [i32_6, if_neg (i_nle (by omega) (by omega)), e_pI ln_311 (by omega) (by omega), i32_1, i32_add]
    · funext y; rw [wI_1, if_neg (fun z => hx z.1), o.2 x hx]
    · rw [wI_1]
      by_cases h1 : p = k
      · rw [if_pos ⟨rfl, h1⟩]
      · rw [if_neg (fun z => h1 z.2)]; exact v p (by omega)
theorem r_l117 (h : MG σ G) (hG : GOK G) (h0 : M0 σ) (hT : ∀ k, k < 6 → RT G σ k []) : ∃ τ, loopO (fun (z8 : (Mem × Int32)) => l_X11_lays_117 z8.1 z8.2) (σ, 0) = some τ ∧ FLy σ τ ∧ τ.1 306 = σ.1 306 ∧ ∀ k, k < 6 → RT G τ k (if k < gn G then Tk G k else []) := by
  have hn := hG.2.1
  have hlen : ∀ q p, p ≤ gn G → (if q < p then Tk G q else []).length ≤ 455 := fun q p hp => by
    by_cases h1 : q < p
    · rw [if_pos h1]; exact Tk_len hG (by omega)
    · rw [if_neg h1]; exact Nat.zero_le _
  refine loop_inv (body := fun (z8 : (Mem × Int32)) => l_X11_lays_117 z8.1 z8.2) (fun n z => ∃ k τ, k ≤ gn G ∧ n = gn G - k ∧ z = (τ, i32 k) ∧ FLy σ τ ∧ τ.1 306 = σ.1 306 ∧ ∀ q, q < 6 → RT G τ q (if q < k then Tk G q else [])) _ ?_ (gn G) (σ, 0) ⟨0, σ, Nat.zero_le _, by omega, rfl, FLy.refl, rfl, fun q hq => by rw [if_neg (Nat.not_lt_zero _)]; exact hT q hq⟩
  rintro n z ⟨k, τ, hk, rfl, rfl, f, f6, t⟩
  by_cases hkn : k = gn G
  · right
    subst hkn
    refine ⟨τ, ?_, f, f6, t⟩
    show l_X11_lays_117 τ (i32 (gn G)) = _
    unfold l_X11_lays_117
    rw [e_n (h.fly f), e_bs, if_pos (i_le (Nat.le_refl _) (by omega))]
  · left
    have tk := t k (by omega)
    rw [if_neg (Nat.lt_irrefl k)] at tk
    obtain ⟨υ, e, f2, t2⟩ := r_laysTerms (h.fly f) hG (h0.fly f) (show k < gn G by omega) tk
    refine ⟨(υ, i32 (k + 1)), gn G - (k + 1), by omega, ?_, k + 1, υ, by omega, rfl, rfl, f.trans f2.fly, by rw [f2.1 306 (by omega) (by omega) (by omega), f6], fun q hq => ?_⟩
    · show l_X11_lays_117 τ (i32 k) = _
      unfold l_X11_lays_117
      rw [e_n (h.fly f), e_bs, if_neg (i_nle (by omega) (by omega)), e, e_bs, i32_1, i32_add]
    · by_cases h1 : q = k
      · rw [h1, if_pos (Nat.lt_succ_self k)]; exact t2
      · have t3 := (t q hq).keep f2 h1 (hlen q k hk) hn
        by_cases h2 : q < k
        · rw [if_pos h2] at t3
          rw [if_pos (by omega)]; exact t3
        · rw [if_neg h2] at t3
          rw [if_neg (by omega)]; exact t3
theorem r_lays (h : MG σ G) (hG : GOK G) (h0 : M0 σ) (hL : LaidIf σ G) : ∃ τ, f_X11_lays σ = some τ ∧ FLy σ τ ∧ τ.1 306 9 = 1 ∧ Laid τ G := by
  have hn := hG.2.1
  unfold f_X11_lays
  obtain ⟨b, hb, hL⟩ := hL
  rw [e_gZ hb]
  cases b with
  | true =>
    rw [if_pos rfl]
    exact ⟨σ, rfl, FLy.refl, hb, hL rfl⟩
  | false =>
    rw [if_neg (by decide), e_pF, e_pF]
    have f3 : FLy σ (wI (wI σ 306 9 1) 306 10 1) := ⟨fun x h1 _ _ _ _ _ => by funext y; rw [wI_1, if_neg (fun z => h1 z.1), wI_1, if_neg (fun z => h1 z.1)], fun c _ _ h3 h4 => by rw [wI_1, if_neg (fun z => h4 z.2), wI_1, if_neg (fun z => h3 z.2)], fun _ _ _ => rfl⟩
    have g9 : (wI (wI σ 306 9 1) 306 10 1).1 306 9 = 1 := by rw [wI_1, if_neg (by omega), wI_1, if_pos ⟨rfl, rfl⟩]
    have g10 : (wI (wI σ 306 9 1) 306 10 1).1 306 10 = b2i true := by rw [wI_1, if_pos ⟨rfl, rfl⟩]; rfl
    generalize wI (wI σ 306 9 1) 306 10 1 = σ3 at f3 g9 g10
    obtain ⟨σ4, e4, f4, c, hc, hC⟩ := r_l20 (h.fly f3) hG g10
    have F4 := f3.trans f4.fly
    rw [e4, e_bs]
    unfold j_X11_lays_86
    obtain ⟨σ5, e5, o5, z5⟩ := r_zeros (σ := σ4)
    have F5 : FLy σ σ5 := F4.trans ⟨fun x _ _ _ h4 _ _ => o5.2 x h4, fun c _ _ _ _ => by rw [o5.2 306 (by omega)], fun x _ _ => by rw [o5.1]⟩
    have c5 : σ5.1 306 10 = b2i c := by rw [o5.2 306 (by omega)]; exact hc
    have l5 : σ5.1 306 9 = 1 := by rw [o5.2 306 (by omega), f4.2.2 9 (by omega) (by omega) (by omega)]; exact g9
    have t5 : ∀ k, k < 6 → RT G σ5 k [] := fun k hk => ⟨by rw [z5 k hk]; rfl, fun t e he => by simp at he⟩
    rw [e5, e_bs]
    unfold j_X11_lays_107
    rw [e_gZ c5]
    cases c with
    | false =>
      rw [if_neg (by decide)]
      exact ⟨σ5, rfl, F5, l5, false, c5, hC, fun k hk => by rw [if_neg (fun z => absurd z.1 (by decide))]; exact t5 k hk⟩
    | true =>
      rw [if_pos rfl]
      obtain ⟨σ6, e6, f6, g6, t6⟩ := r_l117 (h.fly F5) hG (h0.fly F5) t5
      refine ⟨σ6, e6, F5.trans f6, by rw [g6]; exact l5, true, by rw [g6]; exact c5, hC, fun k hk => ?_⟩
      have := t6 k hk
      by_cases h1 : k < gn G
      · rw [if_pos h1] at this
        rw [if_pos ⟨rfl, h1⟩]; exact this
      · rw [if_neg h1] at this
        rw [if_neg (fun z => h1 z.2)]; exact this
theorem r_isConsistent (h : MG σ G) (hG : GOK G) (h0 : M0 σ) (hL : LaidIf σ G) : ∃ c τ, f_X11_isConsistent σ = some (c, τ) ∧ FLy σ τ ∧ LaidIf τ G ∧ τ.1 306 9 = 1 ∧ Laid τ G ∧ (c = true ↔ Cons G) := by
  obtain ⟨τ, e, f, g, hl⟩ := r_lays h hG h0 hL
  obtain ⟨c, hc, hC, ht⟩ := hl
  unfold f_X11_isConsistent
  rw [e, e_bs, e_gZ hc]
  exact ⟨c, τ, rfl, f, ⟨true, g, fun _ => ⟨c, hc, hC, ht⟩⟩, g, ⟨c, hc, hC, ht⟩, hC⟩
end LD
