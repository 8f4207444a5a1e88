/-! kinds -/
section KND
variable {σ : Mem} {G : GD}
theorem e_gT {α : Type} {k i n : Nat} {f : Int32 → Option α} (hn : tabL k = n) (h : i < n) (h2 : n < 2 ^ 31) : gT k (i32 i) f = f (tab k i) := by
  unfold gT
  rw [hn, if_pos (i32_inb h h2), i32_cl (by omega)]
/-- the tails of the kinds: kind, j, i, k -/
def KT : List (Nat × Nat × Nat × Nat) := [(0, 1, 0, 2), (1, 1, 0, 2), (1, 2, 0, 3), (1, 2, 1, 4), (2, 2, 0, 3), (2, 2, 1, 4), (2, 3, 1, 5), (2, 4, 0, 5)]
def kn (κ : Nat) : Nat := [3, 5, 6, 6].getD κ 0
def kw (κ : Nat) : Nat := [37, 997, 3733, 1365].getD κ 0
def kf (κ : Nat) : Nat → GD
  | 0 => GW (kn κ) (kw κ)
  | q + 1 => if (KT.getD q (9, 0, 0, 0)).1 = κ then upT (kf κ q) (KT.getD q (9, 0, 0, 0)).2.1 (KT.getD q (9, 0, 0, 0)).2.2.1 (KT.getD q (9, 0, 0, 0)).2.2.2 1 else kf κ q
theorem kf_g (κ : Nat) : ∀ q, gn (kf κ q) = kn κ ∧ gw (kf κ q) = fun i => dgt (kw κ) i := by
  intro q
  induction q with
  | zero => exact ⟨rfl, rfl⟩
  | succ q ih =>
    show gn (if _ then _ else _) = _ ∧ gw (if _ then _ else _) = _
    split
    · exact ih
    · exact ih
theorem kt_ok {κ q : Nat} (hκ : κ < 4) (hq : q < 8) (h : (KT.getD q (9, 0, 0, 0)).1 = κ) : (KT.getD q (9, 0, 0, 0)).2.2.1 < (KT.getD q (9, 0, 0, 0)).2.1 ∧ (KT.getD q (9, 0, 0, 0)).2.1 < (KT.getD q (9, 0, 0, 0)).2.2.2 ∧ (KT.getD q (9, 0, 0, 0)).2.2.2 < kn κ ∧ dgt (kw κ) (KT.getD q (9, 0, 0, 0)).2.2.1 + dgt (kw κ) (KT.getD q (9, 0, 0, 0)).2.1 ≤ dgt (kw κ) (KT.getD q (9, 0, 0, 0)).2.2.2 := by
  have key : (List.range 4).all (fun κ => (List.range 8).all (fun q => !(decide ((KT.getD q (9, 0, 0, 0)).1 = κ)) || decide ((KT.getD q (9, 0, 0, 0)).2.2.1 < (KT.getD q (9, 0, 0, 0)).2.1 ∧ (KT.getD q (9, 0, 0, 0)).2.1 < (KT.getD q (9, 0, 0, 0)).2.2.2 ∧ (KT.getD q (9, 0, 0, 0)).2.2.2 < kn κ ∧ dgt (kw κ) (KT.getD q (9, 0, 0, 0)).2.2.1 + dgt (kw κ) (KT.getD q (9, 0, 0, 0)).2.1 ≤ dgt (kw κ) (KT.getD q (9, 0, 0, 0)).2.2.2))) = true := by decide +kernel
  have h1 := List.all_eq_true.mp key κ (List.mem_range.mpr hκ)
  have h2 := List.all_eq_true.mp h1 q (List.mem_range.mpr hq)
  rw [decide_eq_true h] at h2
  simpa using h2
theorem kn_ok {κ : Nat} (hκ : κ < 4) : OKW (kn κ) (kw κ) := by
  have key : (List.range 4).all (fun κ => decide (1 ≤ kn κ ∧ kn κ ≤ 6 ∧ kw κ < 4 ^ kn κ) && (List.range (kn κ)).all (fun i => decide (ah (kw κ) i ≤ dgt (kw κ) i))) = true := by decide +kernel
  have h1 := List.all_eq_true.mp key κ (List.mem_range.mpr hκ)
  rw [Bool.and_eq_true] at h1
  have h2 := of_decide_eq_true h1.1
  exact ⟨h2.1, h2.2.1, h2.2.2, fun i hi => of_decide_eq_true (List.all_eq_true.mp h1.2 i (List.mem_range.mpr hi))⟩
theorem kf_ok {κ : Nat} (hκ : κ < 4) : ∀ q, q ≤ 8 → GOK (kf κ q) := by
  intro q
  induction q with
  | zero => intro _; exact GW_ok (kn_ok hκ)
  | succ q ih =>
    intro hq
    have h1 := ih (by omega)
    have hg := kf_g κ q
    show GOK (if (KT.getD q (9, 0, 0, 0)).1 = κ then _ else _)
    by_cases h : (KT.getD q (9, 0, 0, 0)).1 = κ
    · rw [if_pos h]
      have h2 := kt_ok hκ (by omega) h
      exact upT_ok h1 (by omega) ⟨h2.1, h2.2.1, by rw [hg.1]; exact h2.2.2.1⟩ (Or.inr (by rw [hg.2]; exact h2.2.2.2))
    · rw [if_neg h]; exact h1
theorem tabL_2 : tabL 2 = 32 := by decide +kernel
theorem tabL_0 : tabL 0 = 4 := by decide +kernel
theorem tabL_1 : tabL 1 = 4 := by decide +kernel
theorem tab_k {κ : Nat} (h : κ < 4) : tab 0 κ = i32 (kn κ) ∧ tab 1 κ = i32 (kw κ) := by
  have key : (List.range 4).all (fun κ => decide (tab 0 κ = i32 (kn κ)) && decide (tab 1 κ = i32 (kw κ))) = true := by decide +kernel
  have h1 := List.all_eq_true.mp key κ (List.mem_range.mpr h)
  rw [Bool.and_eq_true] at h1
  exact ⟨of_decide_eq_true h1.1, of_decide_eq_true h1.2⟩
theorem tab_t {q : Nat} (h : q < 8) : tab 2 (4 * q) = i32 (KT.getD q (9, 0, 0, 0)).1 ∧ tab 2 (4 * q + 1) - 1 = i32 (KT.getD q (9, 0, 0, 0)).2.1 ∧ tab 2 (4 * q + 2) - 1 = i32 (KT.getD q (9, 0, 0, 0)).2.2.1 ∧ tab 2 (4 * q + 3) - 1 = i32 (KT.getD q (9, 0, 0, 0)).2.2.2 ∧ (KT.getD q (9, 0, 0, 0)).1 < 4 := by
  have key : (List.range 8).all (fun q => decide (tab 2 (4 * q) = i32 (KT.getD q (9, 0, 0, 0)).1) && (decide (tab 2 (4 * q + 1) - 1 = i32 (KT.getD q (9, 0, 0, 0)).2.1) && (decide (tab 2 (4 * q + 2) - 1 = i32 (KT.getD q (9, 0, 0, 0)).2.2.1) && (decide (tab 2 (4 * q + 3) - 1 = i32 (KT.getD q (9, 0, 0, 0)).2.2.2) && decide ((KT.getD q (9, 0, 0, 0)).1 < 4))))) = true := by decide +kernel
  have h1 := List.all_eq_true.mp key q (List.mem_range.mpr h)
  simp only [Bool.and_eq_true, decide_eq_true_eq] at h1
  exact h1
theorem FRu.refl : FRu σ σ := ⟨rfl, fun _ _ _ _ => rfl⟩
theorem FRu.trans {τ υ : Mem} (h : FRu σ τ) (k : FRu τ υ) : FRu σ υ := ⟨k.1.trans h.1, fun x h1 h2 h3 => (k.2 x h1 h2 h3).trans (h.2 x h1 h2 h3)⟩
theorem c_takeKind {κ : Nat} (hκ : κ < 4) : ∃ τ, f_X6_takeKind σ 2 (i32 κ) = some τ ∧ FRu σ τ ∧ CG τ 2 (kf κ 8) := by
  unfold f_X6_takeKind
  have hk := kn_ok hκ
  have h4 : 4 ^ kn κ ≤ 4 ^ 6 := Nat.pow_le_pow_right (by omega) hk.2.1
  have hw := hk.2.2.1
  obtain ⟨σ1, e1, f1, m1⟩ := c_reset (σ := σ) (n := kn κ) (w := kw κ) hk.2.1 (by omega)
  rw [if_neg (show ¬ i32 κ < 0 from i_nlt (b := 0) (by omega) (by omega)), tabL_0, if_neg (show ¬ Int32.ofNat 4 ≤ i32 κ from i_nle (b := κ) (a := 4) hκ (by omega)), tabL_1, if_pos (show i32 κ < Int32.ofNat 4 from i_lt (b := 4) hκ (by omega)), e_gT tabL_0 hκ (by omega), (tab_k hκ).1, e_gT tabL_1 hκ (by omega), (tab_k hκ).2, e1, e_bs]
  refine loop_inv (body := fun (z5 : (Mem × Int32)) => l_X6_takeKind_37 2 (i32 κ) z5.1 z5.2) (fun n z => ∃ q τ, q ≤ 8 ∧ n = 8 - q ∧ z = (τ, i32 (4 * q)) ∧ FRu σ τ ∧ CG τ 2 (kf κ q)) _ ?_ 8 (σ1, 0) ⟨0, σ1, by omega, rfl, rfl, f1, m1⟩
  rintro n z ⟨q, τ, hq, rfl, rfl, f, m⟩
  by_cases hq8 : q = 8
  · right
    subst hq8
    refine ⟨τ, ?_, f, m⟩
    show l_X6_takeKind_37 2 (i32 κ) τ (i32 32) = _
    unfold l_X6_takeKind_37
    rw [tabL_2, i32_3, i32_add, if_pos (show Int32.ofNat 32 ≤ i32 35 by decide)]
  · left
    have hq' : q < 8 := by omega
    obtain ⟨t0, t1, t2, t3, t4⟩ := tab_t hq'
    have step : ∀ υ, FRu σ υ → CG υ 2 (kf κ (q + 1)) → ∃ s' n', n' < 8 - q ∧ (some υ : Option Mem).bind (fun (z7 : Mem) => j_X6_takeKind_88 (i32 (4 * q)) z7) = some (Sum.inl s') ∧ ∃ q τ, q ≤ 8 ∧ n' = 8 - q ∧ s' = (τ, i32 (4 * q)) ∧ FRu σ τ ∧ CG τ 2 (kf κ q) := by
      intro υ f2 m2
      refine ⟨(υ, i32 (4 * (q + 1))), 8 - (q + 1), by omega, ?_, q + 1, υ, by omega, rfl, rfl, f2, m2⟩
      rw [e_bs]
      unfold j_X6_takeKind_88
      rw [i32_4, i32_add, show 4 * q + 4 = 4 * (q + 1) by omega]
    have hstart : ∀ {x : Option Mem} {y}, (if i32 (KT.getD q (9, 0, 0, 0)).1 = i32 κ then ((f_X6_write τ 2 (i32 (KT.getD q (9, 0, 0, 0)).2.1) (i32 (KT.getD q (9, 0, 0, 0)).2.2.1) (i32 (KT.getD q (9, 0, 0, 0)).2.2.2) 1).bind (fun (σ11 : Mem) => some σ11)) else (some τ) : Option Mem) = x → x.bind (fun (z7 : Mem) => j_X6_takeKind_88 (i32 (4 * q)) z7) = y → l_X6_takeKind_37 2 (i32 κ) τ (i32 (4 * q)) = y := by
      intro x y hx hy
      unfold l_X6_takeKind_37
      rw [tabL_2, i32_3, i32_add, if_neg (show ¬ Int32.ofNat 32 ≤ i32 (4 * q + 3) from i_nle (b := 4 * q + 3) (a := 32) (by omega) (by omega)), e_gT tabL_2 (by omega) (by omega), t0, i32_1, i32_add, e_gT tabL_2 (by omega) (by omega), i32_2, i32_add, e_gT tabL_2 (by omega) (by omega), e_gT tabL_2 (by omega) (by omega)]
      rw [← hx] at hy
      have a1 : tab 2 (4 * q + 1) - i32 1 = i32 (KT.getD q (9, 0, 0, 0)).2.1 := t1
      have a2 : tab 2 (4 * q + 2) - i32 1 = i32 (KT.getD q (9, 0, 0, 0)).2.2.1 := t2
      have a3 : tab 2 (4 * q + 3) - i32 1 = i32 (KT.getD q (9, 0, 0, 0)).2.2.2 := t3
      rw [a1, a2, a3]
      exact hy
    by_cases hc : (KT.getD q (9, 0, 0, 0)).1 = κ
    · have h2 := kt_ok hκ hq' hc
      have hg := kf_g κ q
      obtain ⟨υ, e2, f2, m2⟩ := c_write (σ := τ) (v := 1) (by rw [hg.1]; exact hk.2.1) m h2.1 h2.2.1 (by rw [hg.1]; exact h2.2.2.1)
      have m2' : CG υ 2 (kf κ (q + 1)) := by
        show CG υ 2 (if (KT.getD q (9, 0, 0, 0)).1 = κ then _ else _)
        rw [if_pos hc]; exact m2
      obtain ⟨s', n', b1, b2, b3⟩ := step υ (f.trans f2) m2'
      refine ⟨s', n', b1, ?_, b3⟩
      refine hstart ?_ b2
      have e2' : f_X6_write τ 2 (i32 (KT.getD q (9, 0, 0, 0)).2.1) (i32 (KT.getD q (9, 0, 0, 0)).2.2.1) (i32 (KT.getD q (9, 0, 0, 0)).2.2.2) 1 = some υ := e2
      rw [if_pos (by rw [hc]), e2', e_bs]
    · have m2' : CG τ 2 (kf κ (q + 1)) := by
        show CG τ 2 (if (KT.getD q (9, 0, 0, 0)).1 = κ then _ else _)
        rw [if_neg hc]; exact m
      obtain ⟨s', n', b1, b2, b3⟩ := step τ f m2'
      refine ⟨s', n', b1, ?_, b3⟩
      refine hstart ?_ b2
      rw [if_neg (i_ne hc (by omega) (by omega))]
/-! the reference's kinds -/
end KND

