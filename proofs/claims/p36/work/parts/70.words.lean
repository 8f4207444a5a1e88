/-! the class's words, letter by letter -/
section WO
variable {G : GD} {σ : Mem}
def CW (σ : Mem) (w : List Nat) : Prop := σ.1 35 1 = i32 w.length ∧ ∀ p x, w[p]? = some x → σ.1 36 p = i32 x
/-- the class's word alone -/
def FA (σ τ : Mem) : Prop := τ.2 = σ.2 ∧ (∀ x, x ≠ 35 → x ≠ 36 → τ.1 x = σ.1 x) ∧ ∀ c, c ≠ 1 → τ.1 35 c = σ.1 35 c
theorem FA.refl : FA σ σ := ⟨rfl, fun _ _ _ => rfl, fun _ _ => rfl⟩
theorem FA.trans {τ υ : Mem} (h : FA σ τ) (k : FA τ υ) : FA σ υ := ⟨k.1.trans h.1, fun x h1 h2 => (k.2.1 x h1 h2).trans (h.2.1 x h1 h2), fun c h1 => (k.2.2 c h1).trans (h.2.2 c h1)⟩
theorem CG.fa {τ : Mem} {a : Nat} (h : CG σ a G) (k : FA σ τ) (ha : a ≠ 35 ∧ a ≠ 36 ∧ a + 1 ≠ 35 ∧ a + 1 ≠ 36 ∧ a + 2 ≠ 35 ∧ a + 2 ≠ 36) : CG τ a G := by
  unfold CG
  rw [k.2.1 a ha.1 ha.2.1, k.2.1 (a + 1) ha.2.2.1 ha.2.2.2.1, k.2.1 (a + 2) ha.2.2.2.2.1 ha.2.2.2.2.2]
  exact h
theorem c_begin : ∃ τ, f_X2_begin σ = some τ ∧ FA σ τ ∧ CW τ [] := by
  unfold f_X2_begin
  refine ⟨wI σ 35 1 0, by rw [e_pF], ⟨rfl, fun x h1 _ => ?_, fun c h => ?_⟩, by rw [wI_1, if_pos ⟨rfl, rfl⟩]; rfl, fun p x h => by simp at h⟩
  · funext q; rw [wI_1, if_neg (fun z => h1 z.1)]
  · rw [wI_1, if_neg (fun z => h z.2)]
theorem c_add {w : List Nat} {x : Nat} (h : CW σ w) (hl : w.length < 64) (hx : x < 6) : ∃ τ, f_X2_add σ (i32 x) = some τ ∧ FA σ τ ∧ CW τ (w ++ [x]) := by
  unfold f_X2_add
  have e1 : ¬ (64 : Int32) ≤ i32 w.length := by rw [show (64 : Int32) = i32 64 from rfl]; exact i_nle hl (by omega)
  refine ⟨wI (wI σ 36 w.length (i32 x)) 35 1 (i32 (w.length + 1)), ?_, ⟨rfl, fun y h1 h2 => ?_, fun c hc => ?_⟩, ?_, fun p y hp => ?_⟩
  · rw [e_gF, h.1, if_neg e1, if_neg (show ¬ i32 x < 0 from i_nlt (b := 0) (by omega) (by omega)), i32_6, if_neg (i_nle hx (by omega)), e_gF, h.1, e_pI ln_36 hl (by omega), e_gF, e_pF, wI_1, if_neg (by omega), h.1, i32_1, i32_add]
  · funext q; rw [wI_1, if_neg (fun z => h1 z.1), wI_1, if_neg (fun z => h2 z.1)]
  · rw [wI_1, if_neg (fun z => hc z.2), wI_1, if_neg (by omega)]
  · rw [wI_1, if_pos ⟨rfl, rfl⟩, List.length_append]; rfl
  · rw [wI_1, if_neg (by omega), wI_1]
    by_cases h1 : p < w.length
    · rw [if_neg (by omega)]
      rw [List.getElem?_append_left h1] at hp
      exact h.2 p y hp
    · rw [List.getElem?_append_right (by omega)] at hp
      by_cases h2 : p = w.length
      · subst h2
        rw [Nat.sub_self] at hp
        cases hp
        rw [if_pos ⟨rfl, rfl⟩]
      · rw [List.getElem?_eq_none (by simp only [List.length_cons, List.length_nil]; omega)] at hp
        cases hp
theorem c_addMany {w : List Nat} {x t : Nat} (h : CW σ w) (ht : t ≤ 3) (hl : w.length + 3 < 64) (hx : x < 6) :
    ∃ τ, loopO (fun (z8 : Mem × Int32) => l_X2_addTails_24 (i32 x) z8.1 z8.2) (σ, i32 t) = some τ ∧ FA σ τ ∧ CW τ (w ++ List.replicate t x) := by
  have hl' := loop_inv (body := fun (z8 : Mem × Int32) => l_X2_addTails_24 (i32 x) z8.1 z8.2) (fun n z => ∃ k τ, k ≤ t ∧ n = t - k ∧ z = (τ, i32 (t - k)) ∧ FA σ τ ∧ CW τ (w ++ List.replicate k x)) (fun τ => FA σ τ ∧ CW τ (w ++ List.replicate t x)) ?_ t (σ, i32 t) ⟨0, σ, Nat.zero_le _, by omega, rfl, FA.refl, by rw [List.replicate_zero, List.append_nil]; exact h⟩
  · exact hl'
  · rintro n z ⟨k, τ, hk, rfl, rfl, f, c⟩
    by_cases hkt : k = t
    · right
      subst hkt
      refine ⟨τ, ?_, f, c⟩
      show l_X2_addTails_24 (i32 x) τ (i32 (k - k)) = _
      unfold l_X2_addTails_24
      rw [Nat.sub_self, if_pos (show i32 0 ≤ 0 by decide)]
    · left
      obtain ⟨υ, e, f2, c2⟩ := c_add (σ := τ) (x := x) c (by rw [List.length_append, List.length_replicate]; omega) hx
      refine ⟨(υ, i32 (t - (k + 1))), t - (k + 1), by omega, ?_, k + 1, υ, by omega, rfl, rfl, f.trans f2, ?_⟩
      · show l_X2_addTails_24 (i32 x) τ (i32 (t - k)) = _
        unfold l_X2_addTails_24
        rw [if_neg (show ¬ i32 (t - k) ≤ 0 from i_nle (b := 0) (by omega) (by omega)), e, e_bs, i32_add_one (by omega), show t - k - 1 = t - (k + 1) by omega]
      · rw [List.append_assoc, ← List.replicate_succ'] at c2
        exact c2
theorem c_addTails {a : Nat} (hG : GOK G) (ra : RA a) (ra2 : a ≠ 36 ∧ a + 1 ≠ 36 ∧ a + 2 ≠ 36) (h : CG σ a G) {w : List Nat} {j i : Nat} (hi : i < j) (hj : j < gn G) (hw : CW σ w) (hl : w.length + 20 < 64) :
    ∃ τ, f_X2_addTails σ a (i32 j) (i32 i) = some τ ∧ FA σ τ ∧ CW τ (w ++ tw G j i) := by
  have hn := hG.2.1
  have h12 := tw_len12 hG hi
  unfold f_X2_addTails
  rw [e_bd, i32_1, i32_add]
  have hl' := loop_inv (body := fun (z3 : Mem × Int32) => l_X2_addTails_5 a (i32 j) (i32 i) z3.1 z3.2) (fun n z => ∃ d X τ, d ≤ gn G - 1 - j ∧ n = d ∧ tw G j i = X ++ twD G j i d ∧ z = (τ, i32 (gn G - d)) ∧ FA σ τ ∧ CW τ (w ++ X)) (fun τ => FA σ τ ∧ CW τ (w ++ tw G j i)) ?_ (gn G - 1 - j) (σ, i32 (j + 1)) ⟨gn G - 1 - j, [], σ, Nat.le_refl _, rfl, rfl, by rw [show gn G - (gn G - 1 - j) = j + 1 by omega], FA.refl, by rw [List.append_nil]; exact hw⟩
  · exact hl'
  · rintro n z ⟨d, X, τ, hd, rfl, hX, rfl, f, c⟩
    have hm : CG τ a G := h.fa f ⟨ra.2.1, ra2.1, ra.2.2.2.2.1, ra2.2.1, ra.2.2.2.2.2.2.2.1, ra2.2.2⟩
    cases n with
    | zero =>
      right
      have hX2 : tw G j i = X := by rw [hX]; exact List.append_nil X
      refine ⟨τ, ?_, f, by rw [hX2]; exact c⟩
      show l_X2_addTails_5 a (i32 j) (i32 i) τ (i32 (gn G - 0)) = _
      unfold l_X2_addTails_5
      rw [e_gF, hm.1, if_pos (i_le (by omega) (by omega))]
    | succ d =>
      left
      have ht3 := hG.2.2.2.2.2.1 j i (gn G - 1 - d)
      have hlen : (tw G j i).length = X.length + (gt G j i (gn G - 1 - d) + (twD G j i d).length) := by
        rw [hX, List.length_append, twD_succ, List.length_append, List.length_replicate]
      obtain ⟨υ, e, f2, c2⟩ := c_addMany (σ := τ) (x := gn G - 1 - d) c ht3 (by rw [List.length_append]; omega) (by omega)
      refine ⟨(υ, i32 (gn G - d)), d, by omega, ?_, d, X ++ List.replicate (gt G j i (gn G - 1 - d)) (gn G - 1 - d), υ, by omega, rfl, by rw [hX, twD_succ, List.append_assoc], rfl, f.trans f2, by rw [← List.append_assoc]; exact c2⟩
      show l_X2_addTails_5 a (i32 j) (i32 i) τ (i32 (gn G - (d + 1))) = _
      unfold l_X2_addTails_5
      rw [e_gF, hm.1, if_neg (i_nle (by omega) (by omega)), show gn G - (d + 1) = gn G - 1 - d by omega, c_read hG hm ra.1.1 ra.1.2 (by omega) (by omega) (by omega), e_bs, e, e_bs]
      unfold j_X2_addTails_41
      rw [i32_1, i32_add, show gn G - 1 - d + 1 = gn G - d by omega]
end WO

