/-! the reference's overlaps -/
section RO
variable {G : GD} {σ : Mem}
theorem r_letters {l : List Nat} (hR : RW σ l) (hl : l.length ≤ 16000) {x : Nat} (hx : x < 2 ^ 31) (hm : ∀ y, y ∈ l → y < 2 ^ 31) : f_X11_letters σ (i32 x) = some (i32 (l.count x)) := by
  unfold f_X11_letters
  refine loop_at (fun k => (i32 ((l.take k).count x), i32 k)) 0 l.length ?_ (Nat.zero_le _) (fun k _ hk => ?_) ?_
  · rw [List.take_zero]; rfl
  · show l_X11_letters_4 σ (i32 x) (i32 ((l.take k).count x)) (i32 k) = _
    unfold l_X11_letters_4
    rw [e_gF, hR.1, if_neg (i_nle hk (by omega)), e_gI ln_309 (by omega) (by omega), hR.2 k _ (List.getElem?_eq_getElem hk), List.take_succ_eq_append_getElem hk, List.count_append, List.count_singleton]
    have hy := hm _ (List.getElem_mem hk)
    generalize l[k] = y at hy ⊢
    by_cases h1 : y = x
    · subst h1
      rw [if_pos rfl, e_bd, e_bs, if_pos (by rw [beq_self_eq_true]), i32_1, i32_add]
      unfold j_X11_letters_26
      rw [i32_1, i32_add]
    · rw [if_neg (i_ne h1 hy hx), e_bs, if_neg (by rw [beq_iff_eq]; exact h1), Nat.add_zero]
      unfold j_X11_letters_26
      rw [i32_1, i32_add]
  · show l_X11_letters_4 σ (i32 x) (i32 ((l.take l.length).count x)) (i32 l.length) = _
    unfold l_X11_letters_4
    rw [e_gF, hR.1, if_pos (i_le (Nat.le_refl _) (by omega)), List.take_length]
theorem r_writes {l : List Nat} (hR : RW σ l) (hl : l.length < 16000) {x : Nat} : ∃ τ, f_X11_writes σ (i32 x) = some τ ∧ FX σ τ ∧ RW τ (l ++ [x]) ∧ τ.1 306 7 = σ.1 306 7 := by
  unfold f_X11_writes
  refine ⟨wI (wI σ 309 l.length (i32 x)) 306 6 (i32 (l.length + 1)), ?_, ⟨rfl, fun y h1 h2 => ?_, fun c h1 h2 => ?_⟩, ⟨?_, fun p y hp => ?_⟩, ?_⟩
  · rw [e_gF, hR.1, e_pI ln_309 hl (by omega), e_gF, wI_1, if_neg (by omega), hR.1, e_pF, i32_1, i32_add]
  · funext q; rw [wI_1, if_neg (fun z => h1 z.1), wI_1, if_neg (fun z => h2 z.1)]
  · rw [wI_1, if_neg (fun z => h1 z.2), wI_1, if_neg (by omega)]
  · rw [wI_1, if_pos ⟨rfl, rfl⟩, List.length_append]; rfl
  · rw [wI_1, if_neg (by omega), wI_1]
    by_cases h1 : p < l.length
    · rw [if_neg (by omega)]
      rw [List.getElem?_append_left h1] at hp
      exact hR.2 p y hp
    · rw [List.getElem?_append_right (by omega)] at hp
      by_cases h2 : p = l.length
      · subst h2
        rw [Nat.sub_self] at hp
        cases hp
        rw [if_pos ⟨rfl, rfl⟩]
      · rw [List.getElem?_eq_none (by simp only [List.length_cons, List.length_nil]; omega)] at hp
        cases hp
  · rw [wI_1, if_neg (by omega), wI_1, if_neg (by omega)]
/-- what the reference's looking at three letters changes -/
def FY (σ τ : Mem) : Prop := τ.2 = σ.2 ∧ (∀ x, x ≠ 306 → x ≠ 309 → x ≠ 310 → τ.1 x = σ.1 x) ∧ ∀ c, c ≠ 6 → c ≠ 7 → τ.1 306 c = σ.1 306 c
theorem FY.refl : FY σ σ := ⟨rfl, fun _ _ _ _ => rfl, fun _ _ _ => rfl⟩
theorem FY.trans {τ υ : Mem} (h : FY σ τ) (k : FY τ υ) : FY σ υ := ⟨k.1.trans h.1, fun x h1 h2 h3 => (k.2.1 x h1 h2 h3).trans (h.2.1 x h1 h2 h3), fun c h1 h2 => (k.2.2 c h1 h2).trans (h.2.2 c h1 h2)⟩
theorem FX.fy {τ : Mem} (h : FX σ τ) : FY σ τ := ⟨h.1, fun x h1 h2 _ => h.2.1 x h1 h2, h.2.2⟩
theorem MG.fy {τ : Mem} (h : MG σ G) (k : FY σ τ) : MG τ G := by
  unfold MG
  rw [k.2.1 307 (by omega) (by omega) (by omega)]
  exact h
theorem run_len (hG : GOK G) {L : Nat} : ∀ f S W ex S' e, ex ≤ L → run G L f S W ex = some (S', e) → ex ≤ e ∧ e ≤ L ∧ S'.length ≤ S.length + W.length + 12 * (e - ex) := by
  intro f
  induction f with
  | zero => intro S W ex S' e _ h; simp [run] at h
  | succ f ih =>
    intro S W ex S' e hex h
    cases W with
    | nil =>
      simp only [run, Option.some.injEq, Prod.mk.injEq] at h
      obtain ⟨rfl, rfl⟩ := h
      exact ⟨Nat.le_refl _, hex, by omega⟩
    | cons i W =>
      cases S with
      | nil =>
        simp only [run] at h
        have := ih _ _ _ _ _ hex h
        simp only [List.length_cons, List.length_nil] at this ⊢
        exact ⟨this.1, this.2.1, by omega⟩
      | cons j S =>
        simp only [run] at h
        by_cases h1 : j ≤ i
        · rw [if_pos h1] at h
          have := ih _ _ _ _ _ hex h
          simp only [List.length_cons] at this ⊢
          exact ⟨this.1, this.2.1, by omega⟩
        · rw [if_neg h1] at h
          by_cases h2 : ex = L
          · rw [if_pos h2] at h; cases h
          · rw [if_neg h2] at h
            have h3 := tw_len12 hG (j := j) (i := i) (by omega)
            have := ih _ _ _ _ _ (by omega) h
            simp only [List.length_cons, List.length_append] at this ⊢
            exact ⟨by omega, this.2.1, by omega⟩
/-- the three letters, one exchange made, collected -/
theorem r_way (h : MG σ G) (hG : GOK G) {k j i : Nat} (hk : k < gn G) (hj : j < k) (hi : i < j) {way : Nat} (hw : way < 2) :
    ∃ τ S, (∀ {α : Type} (K : Bool → Mem → Option α), (pF σ 306 6 0 (fun (σ3 : Mem) => pF σ3 306 7 0 (fun (σ4 : Mem) => (f_X11_writes σ4 (i32 k)).bind (fun (σ5 : Mem) => (f_X11_writes σ5 (i32 j)).bind (fun (σ6 : Mem) => (f_X11_writes σ6 (i32 i)).bind (fun (σ7 : Mem) => (f_X11_exchanges σ7 (i32 way)).bind (fun (σ8 : Mem) => bq (f_X11_collects σ8) K))))))) = K true τ) ∧ FX σ τ ∧ RW τ S ∧ S.length ≤ 12076 ∧ (∀ x, x ∈ S → x < gn G) ∧ cnt S = TLs G O (if way = 0 then OV0 G k j i else OV1 G k j i) := by
  have hn := hG.2.1
  have l1 := tw_len12 hG hj
  have l2 := tw_len12 hG hi
  have f4 : FX σ (wI (wI σ 306 6 0) 306 7 0) := ⟨rfl, fun y h1 h2 => by funext q; rw [wI_1, if_neg (fun z => h1 z.1), wI_1, if_neg (fun z => h1 z.1)], fun c h1 h2 => by rw [wI_1, if_neg (fun z => h2 z.2), wI_1, if_neg (fun z => h1 z.2)]⟩
  have r4 : RW (wI (wI σ 306 6 0) 306 7 0) [] := ⟨by rw [wI_1, if_neg (by omega), wI_1, if_pos ⟨rfl, rfl⟩]; rfl, fun p x hp => by simp at hp⟩
  have x4 : (wI (wI σ 306 6 0) 306 7 0).1 306 7 = i32 0 := by rw [wI_1, if_pos ⟨rfl, rfl⟩]; rfl
  generalize e4 : wI (wI σ 306 6 0) 306 7 0 = σ4 at f4 r4 x4
  obtain ⟨σ5, e5, f5, r5, x5⟩ := r_writes (x := k) r4 (by simp only [List.length_nil]; omega)
  obtain ⟨σ6, e6, f6, r6, x6⟩ := r_writes (x := j) r5 (by simp only [List.length_append, List.length_cons, List.length_nil]; omega)
  obtain ⟨σ7, e7, f7, r7, x7⟩ := r_writes (x := i) r6 (by simp only [List.length_append, List.length_cons, List.length_nil]; omega)
  have r7' : RW σ7 [k, j, i] := r7
  have x7' : σ7.1 306 7 = i32 0 := by rw [x7, x6, x5]; exact x4
  have F7 := f4.trans (f5.trans (f6.trans f7))
  have fin : ∀ {w : List Nat} {σ8 : Mem}, f_X11_exchanges σ7 (i32 way) = some σ8 → FX σ7 σ8 → RW σ8 w → σ8.1 306 7 = i32 1 → w.length ≤ 64 → (∀ x, x ∈ w → x < gn G) → (∃ S e, col G 1000 [] w 1 = some (S, e)) → ∃ τ S, (∀ {α : Type} (K : Bool → Mem → Option α), (pF σ 306 6 0 (fun (σ3 : Mem) => pF σ3 306 7 0 (fun (σ4 : Mem) => (f_X11_writes σ4 (i32 k)).bind (fun (σ5 : Mem) => (f_X11_writes σ5 (i32 j)).bind (fun (σ6 : Mem) => (f_X11_writes σ6 (i32 i)).bind (fun (σ7 : Mem) => (f_X11_exchanges σ7 (i32 way)).bind (fun (σ8 : Mem) => bq (f_X11_collects σ8) K))))))) = K true τ) ∧ FX σ τ ∧ RW τ S ∧ S.length ≤ 12076 ∧ (∀ x, x ∈ S → x < gn G) ∧ cnt S = TLs G O w := by
    intro w σ8 e8 f8 r8 x8 hl hm ⟨S0, e0, hc0⟩
    obtain ⟨b, τ, e9, f9, hcol⟩ := r_collects ((h.fx F7).fx f8) hG hl hm r8 x8 (by omega)
    rcases hcol with ⟨S, e, hc, rfl, rS, x9, he⟩ | ⟨hc, _⟩
    · have hv := run_val hG _ [] w 1 S e List.Pairwise.nil (fun x hx => by cases hx) hm hc
      have hlS : S.length ≤ 12076 := by
        have := run_len hG _ _ _ _ _ _ (show 1 ≤ 1000 by omega) hc
        simp only [List.length_nil] at this
        omega
      refine ⟨τ, S.reverse, fun K => ?_, F7.trans (f8.trans f9), rS, by rw [List.length_reverse]; exact hlS, fun x hx => hv.2.2 x (List.mem_reverse.mp hx), ?_⟩
      · rw [e_pF, e_pF, e4, e5, e_bs, e6, e_bs, e7, e_bs, e8, e_bs, e9, e_bq]
      · rw [← col_cnt hG hm hc]
        funext m
        unfold cnt
        rw [List.count_reverse]
    · rw [hc0] at hc; cases hc
  rcases (show way = 0 ∨ way = 1 by omega) with hw0 | hw0
  · subst hw0
    obtain ⟨σ8, e8, f8, r8, x8⟩ := r_exchange (σ := σ7) (h.fx F7) hG (A := []) (B := [i]) hj hk (by simp only [List.length_nil, List.length_cons]; omega) r7' x7'
    rw [if_pos rfl]
    exact fin e8 f8 r8 x8 (by simp only [OV0, List.length_append, List.length_cons, List.length_nil]; omega) (OV0_mem hk hj hi) (OV0_col hG hk hj hi (by omega))
  · subst hw0
    obtain ⟨σ8, e8, f8, r8, x8⟩ := r_exchange (σ := σ7) (h.fx F7) hG (A := [k]) (B := []) hi (show j < gn G by omega) (by simp only [List.length_nil, List.length_cons]; omega) r7' x7'
    rw [if_neg (by decide)]
    have ew : [k] ++ i :: j :: (tw G j i ++ []) = OV1 G k j i := by rw [List.append_nil]; rfl
    rw [ew] at r8
    exact fin e8 f8 r8 x8 (by simp only [OV1, List.length_cons]; omega) (OV1_mem hk hj hi) (col_over hG hk hj hi (by omega))
end RO
