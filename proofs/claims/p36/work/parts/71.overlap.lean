/-! the class's overlaps -/
section OV
variable {G : GD} {σ : Mem}
theorem e_cI6 {α : Type} {a b : Nat} {f : Mem → Option α} (ha : ln a = 6) (hb : ln b = 6) : cI σ a 0 b 0 6 f = f (cpI σ a b 0 0 6) := by
  unfold cI
  have h6 : (6 : Int32).toNatClampNeg = 6 := rfl
  have h0 : (0 : Int32).toNatClampNeg = 0 := rfl
  rw [h6, h0, ha, hb, if_pos ⟨⟨by decide, by decide, by decide⟩, by omega, by omega⟩]
/-- the two words of an overlap -/
def OV0 (G : GD) (k j i : Nat) : List Nat := j :: k :: (tw G k j ++ [i])
def OV1 (G : GD) (k j i : Nat) : List Nat := k :: i :: j :: tw G j i
theorem OV0_mem {k j i : Nat} (hk : k < gn G) (hj : j < k) (hi : i < j) : ∀ x, x ∈ OV0 G k j i → x < gn G := fun x hx => by
  rcases List.mem_cons.mp hx with h | h
  · omega
  · rcases List.mem_cons.mp h with h | h
    · omega
    · rcases List.mem_append.mp h with h | h
      · exact (tw_mem hk h).2.1
      · have := List.mem_singleton.mp h; omega
theorem OV1_mem {k j i : Nat} (hk : k < gn G) (hj : j < k) (hi : i < j) : ∀ x, x ∈ OV1 G k j i → x < gn G := fun x hx => by
  rcases List.mem_cons.mp hx with h | h
  · omega
  · rcases List.mem_cons.mp h with h | h
    · omega
    · rcases List.mem_cons.mp h with h | h
      · omega
      · exact (tw_mem (show j < gn G by omega) h).2.1
theorem OV0_col (hG : GOK G) {k j i : Nat} (hk : k < gn G) (hj : j < k) (hi : i < j) {ex : Nat} (hx : ex ≤ 1) : ∃ S e, col G 1000 [] (OV0 G k j i) ex = some (S, e) := by
  obtain ⟨S, e, h⟩ := col_three hG hk (show j < gn G by omega) (show i < gn G by omega) (List.Sublist.refl _) (L := 1000) (ex := 0) (by omega)
  have h2 := col_swap hG (L := 1000) (ex := 0) (by omega) (A := []) (B := [i]) (j := k) (i := j) (List.pairwise_singleton ..) hj
  rw [List.nil_append, List.nil_append] at h2
  rw [h2] at h
  have hle := col_le hG _ _ _ _ _ (Nat.le_refl _) (by omega) h
  obtain ⟨S2, e2, h3, _⟩ := col_mono hG hG rfl (fun _ _ _ => Nat.le_refl _) (L := 1000) (L' := 1000) _ (OV0 G k j i) _ ex 1 S e (Nat.le_refl _) (by omega) h (List.Sublist.refl _) (by omega)
  exact ⟨S2, e2, h3⟩
theorem col_cnt (hG : GOK G) {L : Nat} {W : List Nat} {S' : List Nat} {ex e : Nat} (hw : ∀ x, x ∈ W → x < gn G) (h : col G L [] W ex = some (S', e)) : cnt S' = TLs G O W := by
  have := (run_val hG _ [] W ex S' e List.Pairwise.nil (fun x hx => by cases hx) hw h).1
  rw [this]
  rfl
theorem RA41 : RA 41 := ⟨⟨by decide +kernel, ln_43⟩, by omega⟩
def FO (σ τ : Mem) : Prop := τ.2 = σ.2 ∧ ∀ x, x ≠ 35 → x ≠ 36 → x ≠ 37 → x ≠ 38 → x ≠ 39 → x ≠ 47 → τ.1 x = σ.1 x
theorem FO.trans {τ υ : Mem} (h : FO σ τ) (k : FO τ υ) : FO σ υ := ⟨k.1.trans h.1, fun x h1 h2 h3 h4 h5 h6 => (k.2 x h1 h2 h3 h4 h5 h6).trans (h.2 x h1 h2 h3 h4 h5 h6)⟩
theorem FA.fo {τ : Mem} (h : FA σ τ) : FO σ τ := ⟨h.1, fun x h1 h2 _ _ _ _ => h.2.1 x h1 h2⟩
theorem FC.fo {τ : Mem} (h : FC σ τ) : FO σ τ := ⟨h.1, fun x h1 _ h3 h4 h5 _ => h.2.1 x h1 h3 h4 h5⟩
theorem CG.fo {τ : Mem} (h : CG σ 41 G) (k : FO σ τ) : CG τ 41 G := by
  unfold CG
  rw [k.2 41 (by omega) (by omega) (by omega) (by omega) (by omega) (by omega), k.2 (41 + 1) (by omega) (by omega) (by omega) (by omega) (by omega) (by omega), k.2 (41 + 2) (by omega) (by omega) (by omega) (by omega) (by omega) (by omega)]
  exact h
/-- a word run to its end: its letters are counted -/
theorem c_runAll (hG : GOK G) (h : CG σ 41 G) {w : List Nat} (hw : w.length ≤ 64) (hwg : ∀ x, x ∈ w → x < gn G) (hc : CW σ w) (hcol : ∃ S e, col G 1000 [] w 0 = some (S, e)) :
    ∃ τ e, f_X2_run σ 41 1000 = some (i32 e, τ) ∧ FO σ τ ∧ e ≤ 1000 ∧ ∃ S : List Nat, cnt S = TLs G O w ∧ S.length < 12076 ∧ ∀ m, m < 6 → τ.1 39 m = i32 (S.count m) := by
  obtain ⟨τ, f, ⟨S, e, h1, h2, h3, h4, h5⟩ | ⟨h1, _⟩⟩ := c_run hG RA41 h (L := 1000) (Nat.le_refl _) hw hwg hc.1 (fun p hp => hc.2 p _ (List.getElem?_eq_getElem hp))
  · exact ⟨τ, e, h3, f.fo, h2, S, col_cnt hG hwg h1, h4, h5⟩
  · obtain ⟨S, e, h2⟩ := hcol
    rw [h2] at h1; cases h1
theorem c_overlap (hG : GOK G) (h : CG σ 41 G) {k j i : Nat} (hk : k < gn G) (hj : j < k) (hi : i < j) :
    ∃ b τ, f_X4_isOverlapAlike σ (i32 k) (i32 j) (i32 i) = some (b, τ) ∧ FO σ τ ∧ (b = true ↔ ∀ m, m < 6 → TLs G O (OV0 G k j i) m = TLs G O (OV1 G k j i) m) := by
  have hn := hG.2.1
  have l1 := tw_len12 hG hj
  have l2 := tw_len12 hG hi
  unfold f_X4_isOverlapAlike
  obtain ⟨t1, e1, f1, c1⟩ := c_begin (σ := σ)
  obtain ⟨t2, e2, f2, c2⟩ := c_add (x := j) c1 (by simp only [List.length_nil]; omega) (by omega)
  obtain ⟨t3, e3, f3, c3⟩ := c_add (x := k) c2 (by simp only [List.length_append, List.length_cons, List.length_nil]; omega) (by omega)
  have F3 := f1.fo.trans (f2.fo.trans f3.fo)
  obtain ⟨t4, e4, f4, c4⟩ := c_addTails hG RA41 (by omega) (h.fo F3) hj hk c3 (by simp only [List.length_append, List.length_cons, List.length_nil]; omega)
  obtain ⟨t5, e5, f5, c5⟩ := c_add (x := i) c4 (by simp only [List.length_append, List.length_cons, List.length_nil]; omega) (by omega)
  have F5 := F3.trans (f4.fo.trans f5.fo)
  have w5 : (([] ++ [j]) ++ [k] ++ tw G k j) ++ [i] = OV0 G k j i := by simp [OV0]
  rw [w5] at c5
  obtain ⟨t7, v6, e7, f7, _, S0, n0, s0, q0⟩ := c_runAll hG (h.fo F5) (by simp only [OV0, List.length_append, List.length_cons, List.length_nil]; omega) (OV0_mem hk hj hi) c5 (OV0_col hG hk hj hi (by omega))
  have F7 := F5.trans f7
  have f8 : FO t7 (cpI t7 39 47 0 0 6) := ⟨rfl, fun x _ _ _ _ _ h6 => by
    simp only [cpI]
    funext y
    rw [if_neg h6]⟩
  have q8 : ∀ m, m < 6 → (cpI t7 39 47 0 0 6).1 47 m = i32 (S0.count m) := fun m hm => by
    have : (cpI t7 39 47 0 0 6).1 47 m = t7.1 39 m := by
      simp only [cpI, if_true, va_cpy, Nat.zero_add, Nat.sub_zero]
      rw [if_pos ⟨Nat.zero_le _, hm⟩]
    rw [this]; exact q0 m hm
  rw [e1, e_bs, e2, e_bs, e3, e_bs, e4, e_bs, e5, e_bs, e7, e_bq, e_cI6 ln_39 ln_47]
  generalize cpI t7 39 47 0 0 6 = t8 at f8 q8
  have F8 := F7.trans f8
  obtain ⟨t9, e9, f9, c9⟩ := c_begin (σ := t8)
  obtain ⟨t10, e10, f10, c10⟩ := c_add (x := k) c9 (by simp only [List.length_nil]; omega) (by omega)
  obtain ⟨t11, e11, f11, c11⟩ := c_add (x := i) c10 (by simp only [List.length_append, List.length_cons, List.length_nil]; omega) (by omega)
  obtain ⟨t12, e12, f12, c12⟩ := c_add (x := j) c11 (by simp only [List.length_append, List.length_cons, List.length_nil]; omega) (by omega)
  have g12 := f9.trans (f10.trans (f11.trans f12))
  have F12 := F8.trans g12.fo
  obtain ⟨t13, e13, f13, c13⟩ := c_addTails hG RA41 (by omega) (h.fo F12) hi (show j < gn G by omega) c12 (by simp only [List.length_append, List.length_cons, List.length_nil]; omega)
  have F13 := F12.trans f13.fo
  have w13 : (([] ++ [k]) ++ [i] ++ [j]) ++ tw G j i = OV1 G k j i := by simp [OV1]
  rw [w13] at c13
  have g13 := g12.trans f13
  obtain ⟨t15, fr, hrun⟩ := c_run hG RA41 (h.fo F13) (L := 1000) (Nat.le_refl _) (w := OV1 G k j i) (by simp only [OV1, List.length_cons]; omega) (OV1_mem hk hj hi) c13.1 (fun p hp => c13.2 p _ (List.getElem?_eq_getElem hp))
  obtain ⟨S1', e1', hcol⟩ := col_over hG hk hj hi (L := 1000) (ex := 0) (by omega)
  have hcol' : col G 1000 [] (OV1 G k j i) 0 = some (S1', e1') := hcol
  rcases hrun with ⟨S1, e1x, h1, h2, h3, s1, q1⟩ | ⟨h1, _⟩
  · have n1 := col_cnt hG (OV1_mem hk hj hi) h1
    have q47 : ∀ m, m < 6 → t15.1 47 m = i32 (S0.count m) := fun m hm => by
      rw [fr.2.1 47 (by omega) (by omega) (by omega) (by omega), g13.2.1 47 (by omega) (by omega)]
      exact q8 m hm
    have bound : ∀ (S : List Nat) m, S.length < 12076 → S.count m < 2 ^ 31 := fun S m hS => by
      have := List.count_le_length (a := m) (l := S)
      omega
    have heq : ∀ m, m < 6 → (t15.1 47 m = t15.1 39 m ↔ TLs G O (OV0 G k j i) m = TLs G O (OV1 G k j i) m) := fun m hm => by
      rw [q47 m hm, q1 m hm, i32_eq (bound S0 m s0) (bound S1 m s1), ← n0, ← n1]
      unfold cnt
      exact ⟨fun z => by rw [z], fun z => by omega⟩
    rw [e9, e_bs, e10, e_bs, e11, e_bs, e12, e_bs, e13, e_bs, show (1000 : Int32) = i32 1000 from rfl, h3, e_bq]
    have hl := loop_inv (body := fun (z16 : Int32) => l_X4_isOverlapAlike_139 t15 z16) (fun n z => ∃ p, p ≤ 6 ∧ n = 6 - p ∧ z = i32 p ∧ ∀ m, m < p → TLs G O (OV0 G k j i) m = TLs G O (OV1 G k j i) m) (fun r => ∃ b, r = (b, t15) ∧ (b = true ↔ ∀ m, m < 6 → TLs G O (OV0 G k j i) m = TLs G O (OV1 G k j i) m)) ?_ 6 0 ⟨0, by omega, rfl, rfl, fun m hm => absurd hm (Nat.not_lt_zero _)⟩
    · obtain ⟨r, hr, b, rfl, hb⟩ := hl
      exact ⟨b, t15, hr, F13.trans fr.fo, hb⟩
    · rintro n z ⟨p, hp, rfl, rfl, hv⟩
      by_cases hp6 : p = 6
      · right
        subst hp6
        refine ⟨(true, t15), ?_, true, rfl, ⟨fun _ => hv, fun _ => rfl⟩⟩
        show l_X4_isOverlapAlike_139 t15 (i32 6) = _
        unfold l_X4_isOverlapAlike_139
        rw [i32_6, if_pos (i_le (Nat.le_refl 6) (by omega))]
      · by_cases hq : t15.1 47 p = t15.1 39 p
        · left
          refine ⟨i32 (p + 1), 6 - (p + 1), by omega, ?_, p + 1, by omega, rfl, rfl, fun m hm => ?_⟩
          · show l_X4_isOverlapAlike_139 t15 (i32 p) = _
            unfold l_X4_isOverlapAlike_139
            rw [i32_6, if_neg (i_nle (by omega) (by omega)), e_gI ln_47 (by omega) (by omega), e_gI ln_39 (by omega) (by omega), if_pos hq, i32_1, i32_add]
          · by_cases h5 : m = p
            · rw [h5]; exact (heq p (by omega)).mp hq
            · exact hv m (by omega)
        · right
          refine ⟨(false, t15), ?_, false, rfl, ⟨fun z => absurd z (by decide), fun z => absurd ((heq p (by omega)).mpr (z p (by omega))) hq⟩⟩
          show l_X4_isOverlapAlike_139 t15 (i32 p) = _
          unfold l_X4_isOverlapAlike_139
          rw [i32_6, if_neg (i_nle (by omega) (by omega)), e_gI ln_47 (by omega) (by omega), e_gI ln_39 (by omega) (by omega), if_neg hq]
  · rw [hcol'] at h1; cases h1
end OV

