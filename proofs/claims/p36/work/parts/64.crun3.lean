/-! rows filled; letters counted; the class's run -/
section CE
variable {G : GD} {σ : Mem}
/-- one row of ints alone -/
def OI (a : Nat) (σ τ : Mem) : Prop := τ.2 = σ.2 ∧ ∀ x, x ≠ a → τ.1 x = σ.1 x
theorem fillI {a n : Nat} {v : Int32} (hn : ln a = n) (h : n < 2 ^ 31) : ∃ τ, f_J7_fill_53178 σ a v = some τ ∧ OI a σ τ ∧ ∀ k, k < n → τ.1 a k = v := by
  unfold f_J7_fill_53178
  rw [e_bd, hn]
  have hl := loop_inv (body := fun (z3 : Mem × Int32) => l_J7_fill_53178_5 a v (Int32.ofNat n) z3.1 z3.2) (fun m z => ∃ k τ, k ≤ n ∧ m = n - k ∧ z = (τ, i32 k) ∧ OI a σ τ ∧ ∀ i, i < k → τ.1 a i = v) (fun τ => OI a σ τ ∧ ∀ k, k < n → τ.1 a k = v) ?_ n (σ, 0) ⟨0, σ, Nat.zero_le _, by omega, rfl, ⟨rfl, fun _ _ => rfl⟩, fun i hi => absurd hi (Nat.not_lt_zero _)⟩
  · exact hl
  · rintro m z ⟨k, τ, hk, hm, rfl, ho, hv⟩
    by_cases hkn : k = n
    · right
      refine ⟨τ, ?_, ho, fun i hi => hv i (by omega)⟩
      show l_J7_fill_53178_5 a v (i32 n) τ (i32 k) = _
      unfold l_J7_fill_53178_5
      rw [if_pos (show i32 n ≤ i32 k from i_le (by omega) (by omega))]
    · left
      refine ⟨(wI τ a k v, i32 (k + 1)), n - (k + 1), by omega, ?_, k + 1, _, by omega, rfl, rfl, ⟨ho.1, fun x hx => ?_⟩, fun i hi => ?_⟩
      · show l_J7_fill_53178_5 a v (i32 n) τ (i32 k) = _
        unfold l_J7_fill_53178_5
        rw [if_neg (show ¬ i32 n ≤ i32 k from i_nle (by omega) (by omega)), e_pI hn (by omega) h, i32_1, i32_add]
      · funext y
        rw [wI_1, if_neg (fun q => hx q.1), ho.2 x hx]
      · rw [wI_1]
        by_cases h1 : i = k
        · rw [if_pos ⟨rfl, h1⟩]
        · rw [if_neg (fun q => h1 q.2)]; exact hv i (by omega)
theorem fillL {a n : Nat} {v : Int64} (hn : ln a = n) (h : n < 2 ^ 31) : ∃ τ, f_J7_fill_d0a16 σ a v = some τ ∧ OL (fun x => x = a) σ τ ∧ ∀ k, k < n → τ.2 a k = v := by
  unfold f_J7_fill_d0a16
  rw [e_bd, hn]
  have hl := loop_inv (body := fun (z3 : Mem × Int32) => l_J7_fill_d0a16_6 a v (Int32.ofNat n) z3.1 z3.2) (fun m z => ∃ k τ, k ≤ n ∧ m = n - k ∧ z = (τ, i32 k) ∧ OL (fun x => x = a) σ τ ∧ ∀ i, i < k → τ.2 a i = v) (fun τ => OL (fun x => x = a) σ τ ∧ ∀ k, k < n → τ.2 a k = v) ?_ n (σ, 0) ⟨0, σ, Nat.zero_le _, by omega, rfl, OL.refl, fun i hi => absurd hi (Nat.not_lt_zero _)⟩
  · exact hl
  · rintro m z ⟨k, τ, hk, hm, rfl, ho, hv⟩
    by_cases hkn : k = n
    · right
      refine ⟨τ, ?_, ho, fun i hi => hv i (by omega)⟩
      show l_J7_fill_d0a16_6 a v (i32 n) τ (i32 k) = _
      unfold l_J7_fill_d0a16_6
      rw [if_pos (show i32 n ≤ i32 k from i_le (by omega) (by omega))]
    · left
      refine ⟨(wL τ a k v, i32 (k + 1)), n - (k + 1), by omega, ?_, k + 1, _, by omega, rfl, rfl, ho.trans (OL.wL rfl), fun i hi => ?_⟩
      · show l_J7_fill_d0a16_6 a v (i32 n) τ (i32 k) = _
        unfold l_J7_fill_d0a16_6
        rw [if_neg (show ¬ i32 n ≤ i32 k from i_nle (by omega) (by omega)), e_pL hn (by omega) h, i32_1, i32_add]
      · rw [wL_2]
        by_cases h1 : i = k
        · rw [if_pos ⟨rfl, h1⟩]
        · rw [if_neg (fun q => h1 q.2)]; exact hv i (by omega)
theorem c_count {S : List Nat} (hS : stk σ 3 37 S) (hl : S.length < 12076) (hs : ∀ x, x ∈ S → x < 6) : ∃ τ, f_X2_countLetters σ = some τ ∧ OI 39 σ τ ∧ ∀ m, m < 6 → τ.1 39 m = i32 (S.count m) := by
  unfold f_X2_countLetters
  obtain ⟨τ0, e0, o0, z0⟩ := fillI (σ := σ) (a := 39) (v := 0) ln_39 (by omega)
  rw [e0, e_bs]
  have hl' := loop_inv (body := fun (z3 : Mem × Int32) => l_X2_countLetters_10 z3.1 z3.2) (fun n z => ∃ k τ, k ≤ S.length ∧ n = S.length - k ∧ z = (τ, i32 k) ∧ OI 39 σ τ ∧ ∀ m, m < 6 → τ.1 39 m = i32 ((S.drop (S.length - k)).count m)) (fun τ => OI 39 σ τ ∧ ∀ m, m < 6 → τ.1 39 m = i32 (S.count m)) ?_ S.length (τ0, 0) ⟨0, τ0, Nat.zero_le _, by omega, rfl, o0, fun m hm => by rw [Nat.sub_zero, List.drop_length]; exact z0 m hm⟩
  · exact hl'
  · rintro n z ⟨k, τ, hk, hn, rfl, ho, hc⟩
    have e35 : τ.1 35 3 = i32 S.length := by rw [ho.2 35 (by omega)]; exact hS.1
    by_cases hkn : k = S.length
    · right
      refine ⟨τ, ?_, ho, fun m hm => ?_⟩
      · show l_X2_countLetters_10 _ _ = _
        unfold l_X2_countLetters_10
        rw [e_gF, e35, if_pos (i_le (by omega) (by omega))]
      · rw [hc m hm, show S.length - k = 0 by omega, List.drop_zero]
    · left
      have hg := stkA_get hS.2 k (by omega)
      have hx6 := hs (S[S.length - 1 - k]'(by omega)) (List.getElem_mem _)
      have hd : S.drop (S.length - (k + 1)) = S[S.length - 1 - k]'(by omega) :: S.drop (S.length - k) := by
        have e := List.drop_eq_getElem_cons (l := S) (i := S.length - 1 - k) (by omega)
        rw [show S.length - 1 - k + 1 = S.length - k by omega] at e
        rw [show S.length - (k + 1) = S.length - 1 - k by omega]
        exact e
      generalize S[S.length - 1 - k]'(by omega) = x at hg hx6 hd
      refine ⟨(wI τ 39 x (i32 ((S.drop (S.length - k)).count x + 1)), i32 (k + 1)), S.length - (k + 1), by omega, ?_, k + 1, _, by omega, rfl, rfl, ⟨ho.1, fun y hy => ?_⟩, fun m hm => ?_⟩
      · show l_X2_countLetters_10 _ _ = _
        unfold l_X2_countLetters_10
        rw [e_gF, e35, if_neg (i_nle (by omega) (by omega)), e_gI ln_37 (by omega) (by omega), ho.2 37 (by omega), hg, e_gI ln_39 hx6 (by omega), hc x hx6, i32_1, i32_add, e_pI ln_39 hx6 (by omega), i32_add]
      · funext j
        rw [wI_1, if_neg (fun q => hy q.1), ho.2 y hy]
      · rw [wI_1, hd, List.count_cons]
        by_cases h1 : m = x
        · rw [if_pos ⟨rfl, h1⟩, h1, if_pos (by rw [beq_self_eq_true])]
        · rw [if_neg (fun q => h1 q.2), if_neg (by rw [beq_iff_eq]; omega), hc m hm, Nat.add_zero]
/-- what the class's run changes -/
def FC (σ τ : Mem) : Prop := τ.2 = σ.2 ∧ (∀ x, x ≠ 35 → x ≠ 37 → x ≠ 38 → x ≠ 39 → τ.1 x = σ.1 x) ∧ ∀ c, c ≠ 3 → c ≠ 5 → τ.1 35 c = σ.1 35 c
theorem c_run {a : Nat} (hG : GOK G) (ra : RA a) (h : CG σ a G) {L : Nat} (hL : L ≤ 1000) {w : List Nat} (hw : w.length ≤ 64) (hwg : ∀ x, x ∈ w → x < gn G) (h35 : σ.1 35 1 = i32 w.length) (h36 : ∀ p (h : p < w.length), σ.1 36 p = i32 (w[p])) :
    ∃ τ, FC σ τ ∧ ((∃ S e, col G L [] w 0 = some (S, e) ∧ e ≤ L ∧ f_X2_run σ a (i32 L) = some (i32 e, τ) ∧ S.length < 12076 ∧ ∀ m, m < 6 → τ.1 39 m = i32 (S.count m)) ∨ (col G L [] w 0 = none ∧ f_X2_run σ a (i32 L) = some (-1, τ))) := by
  have hn := hG.2.1
  unfold f_X2_run
  have f0 : FR σ (wI (wI σ 35 3 0) 35 5 0) := by
    refine ⟨rfl, fun y h1 _ _ => ?_, fun c h1 h2 => ?_⟩
    · funext k; rw [wI_1, if_neg (by omega), wI_1, if_neg (by omega)]
    · rw [wI_1, if_neg (by omega), wI_1, if_neg (by omega)]
  have s0 : stk (wI (wI σ 35 3 0) 35 5 0) 3 37 [] := ⟨by rw [wI_1, if_neg (by omega), wI_1, if_pos ⟨rfl, rfl⟩]; rfl, trivial⟩
  have w0 : stk (wI (wI σ 35 3 0) 35 5 0) 5 38 [] := ⟨by rw [wI_1, if_pos ⟨rfl, rfl⟩]; rfl, trivial⟩
  have l0 : (wI (wI σ 35 3 0) 35 5 0).1 35 1 = i32 w.length := by rw [f0.2.2 1 (by omega) (by omega)]; exact h35
  rw [e_pF, e_pF, e_gF, l0, e_bd]
  generalize wI (wI σ 35 3 0) 35 5 0 = σ0 at f0 s0 w0
  obtain ⟨τ1, e1, f1, s1, w1⟩ := c_load (σ := σ0) hw (fun p hp => by rw [f0.2.1 36 (by omega) (by omega) (by omega)]; exact h36 p hp) s0 w0
  rw [e1, e_bs]
  unfold j_X2_run_37
  obtain ⟨r, e2, ⟨τ2, S, e, rfl, hc, hle, f2, s2, hl2⟩ | ⟨τ2, rfl, hc, f2⟩⟩ := c_loop (σ := τ1) hG ra (h.keep (f0.trans f1) ra.2) hL hw hwg s1 w1
  · rw [e2, e_bs]
    have hval := run_val hG _ [] w 0 S e List.Pairwise.nil (fun x hx => (by cases hx)) hwg hc
    obtain ⟨τ3, e3, o3, c3⟩ := c_count (σ := τ2) s2 hl2 (fun x hx => by have := hval.2.2 x hx; omega)
    have ft := f0.trans (f1.trans f2)
    refine ⟨τ3, ⟨o3.1.trans ft.1, fun x h1 h2 h3 h4 => by rw [o3.2 x h4, ft.2.1 x h1 h2 h3], fun c h1 h2 => by rw [o3.2 35 (by omega), ft.2.2 c h1 h2]⟩, Or.inl ⟨S, e, hc, hle, ?_, hl2, c3⟩⟩
    show j_X2_run_135 _ _ = _
    unfold j_X2_run_135
    rw [e3, e_bs]
  · rw [e2, e_bs]
    have ft := f0.trans (f1.trans f2)
    exact ⟨τ2, ⟨ft.1, fun x h1 h2 h3 _ => ft.2.1 x h1 h2 h3, ft.2.2⟩, Or.inr ⟨hc, rfl⟩⟩
end CE

