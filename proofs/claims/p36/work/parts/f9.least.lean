/-! the class: the least number of times that is made of tails -/
section LST
variable {σ : Mem} {G : GD}
def vb0 (j k : Nat) : Nat := if j < k then 3 else 0
def jtT (t : Nat) : Nat := if t < 1 then 1 else if t < 3 then 2 else if t < 6 then 3 else if t < 10 then 4 else 5
def stL : Nat → Option (List Nat)
  | 0 => some (bmk (fun _ _ => 0))
  | t + 1 => (stL t).bind (fun l => runB (opA 6) (bSet l (vb0 (jtT t))))
def trN : Nat → Nat
  | 0 => 0
  | j + 1 => trN j + j
def rbF (l : List Nat) : Nat → Nat → Nat
  | 0, _ => 98901
  | c + 1, j => rbF l c j + rbF l c c * bg l c j
def finL (l : List Nat) : Bool := (List.range 6).all (fun c => decide (rbF l c c ≤ 2 ^ 62) && decide (bg l c c ≤ 2 ^ 62))
def stOK (t : Nat) : Bool := match stL t with
  | some l => finL l
  | none => false
theorem stL_ok : (List.range 7).all (fun n => stOK (trN n)) = true := by decide +kernel
theorem jtT_tr : ∀ j, j < 6 → ∀ i, i < j → jtT (trN j + i) = j := by decide
theorem trN_le : ∀ j, j < 7 → trN j ≤ 15 := by decide
theorem stL_pre : ∀ d t (L : List Nat), stL (t + d) = some L → ∃ l, stL t = some l
  | 0, t, L, h => ⟨L, h⟩
  | d + 1, t, L, h => by
    have e : stL (t + (d + 1)) = (stL (t + d)).bind (fun l => runB (opA 6) (bSet l (vb0 (jtT (t + d))))) := rfl
    rw [e] at h
    obtain ⟨l, h3, _⟩ := Option.bind_eq_some_iff.mp h
    exact stL_pre d t l h3
theorem stL_fin {n : Nat} (hn : n ≤ 6) : ∃ l, stL (trN n) = some l ∧ finL l = true := by
  have h := List.all_eq_true.mp stL_ok n (List.mem_range.mpr (by omega))
  unfold stOK at h
  split at h
  · exact ⟨_, by assumption, h⟩
  · cases h
theorem stL_some {t : Nat} (h : t ≤ 15) : ∃ l, stL t = some l := by
  obtain ⟨l, e, _⟩ := stL_fin (n := 6) (Nat.le_refl _)
  have e6 : trN 6 = 15 := by decide
  rw [e6] at e
  exact stL_pre (15 - t) t l (by rw [show t + (15 - t) = 15 by omega]; exact e)
/-- the class copies a pair's tails -/
theorem c_copyTails {j i : Nat} (hG : GOK G) (h : CG σ 2 G) (hj : j < 6) (hi : i < 6) : ∃ τ, f_X6_copyTails σ 2 (i32 j) (i32 i) 176 = some τ ∧ OL (fun x => x = 176) σ τ ∧ H6 τ 176 (fun k => (gt G j i k : Int)) := by
  unfold f_X6_copyTails
  have hl := loop_inv (body := fun (z2 : (Mem × Int32)) => l_X6_copyTails_3 2 (i32 j) (i32 i) 176 z2.1 z2.2) (fun n z => ∃ k τ, k ≤ 6 ∧ n = 6 - k ∧ z = (τ, i32 k) ∧ OL (fun x => x = 176) σ τ ∧ ∀ q, q < k → τ.2 176 q = oi (gt G j i q : Int)) (fun τ => OL (fun x => x = 176) σ τ ∧ H6 τ 176 (fun k => (gt G j i k : Int))) ?_ 6 (σ, 0) ⟨0, σ, by omega, rfl, rfl, OL.refl, fun q hq => absurd hq (Nat.not_lt_zero _)⟩
  · obtain ⟨τ, e, h1, h2⟩ := hl
    exact ⟨τ, e, h1, h2⟩
  · rintro n z ⟨k, τ, hk, rfl, rfl, o, v⟩
    have hC : CG τ 2 G := by
      unfold CG
      rw [o.1]
      exact h
    by_cases hk6 : k = 6
    · right
      subst hk6
      refine ⟨τ, ?_, o, v⟩
      show l_X6_copyTails_3 2 (i32 j) (i32 i) 176 τ (i32 6) = _
      unfold l_X6_copyTails_3
      rw [if_pos (by decide)]
    · left
      have h3 := hG.2.2.2.2.2.1 j i k
      refine ⟨(wL τ 176 k (oi (gt G j i k : Int)), i32 (k + 1)), 6 - (k + 1), by omega, ?_, k + 1, _, by omega, rfl, rfl, o.trans ⟨rfl, fun x hx => ?_⟩, fun q hq => ?_⟩
      · show l_X6_copyTails_3 2 (i32 j) (i32 i) 176 τ (i32 k) = _
        unfold l_X6_copyTails_3
        rw [if_neg (show ¬ 6 ≤ i32 k from i_nle (a := 6) (by omega) (by omega)), c_read hG hC RA2.1.1 RA2.1.2 hj hi (by omega), e_bs, n64 (by omega), e_pL ln_176 (by omega) (by omega), i32_1, i32_add]
      · funext y
        rw [wL_2, if_neg (fun q => hx q.1)]
      · rw [wL_2]
        by_cases hqk : q = k
        · rw [if_pos ⟨rfl, hqk⟩, hqk]
        · rw [if_neg (fun z => hqk z.2)]
          exact v q (by omega)
theorem Spn_more {T : Nat → Prop} {C : Nat → Nat → Int} {m : Nat} {V v : Nat → Int} (h : Spn T C m v) : Spn T (adC C m V) (m + 1) v := by
  refine Spn.le (fun c hc => ?_) h
  have := Spn.col (T := T) (C := adC C m V) (m := m + 1) (c := c) (by omega)
  rw [adC_n (by omega)] at this
  exact this
theorem Spn_adC {T : Nat → Prop} {C D : Nat → Nat → Int} {m n : Nat} {V : Nat → Int} (h : ∀ v, Spn T C m v → Spn T D n v) : ∀ v, Spn T (adC C m V) (m + 1) v → Spn T (adC D n V) (n + 1) v := by
  intro v
  refine Spn.le (fun c hc => ?_)
  by_cases hcm : c = m
  · rw [hcm, adC_m]
    have := Spn.col (T := T) (C := adC D n V) (m := n + 1) (c := n) (by omega)
    rw [adC_m] at this
    exact this
  · rw [adC_n hcm]
    exact Spn_more (h _ (Spn.col (by omega)))
theorem Spn_drop {T : Nat → Prop} {D : Nat → Nat → Int} {m : Nat} {v : Nat → Int} (hz : ∀ j, T j → D m j = 0) : Spn T D (m + 1) v ↔ Spn T D m v := by
  constructor
  · refine Spn.le (fun c hc => ?_)
    by_cases hcm : c = m
    · rw [hcm]
      exact Spn.zero.congr hz
    · exact Spn.col (by omega)
  · exact Spn.le (fun c hc => Spn.col (by omega))
/-- the lattice of all tails -/
def LTt (σ : Mem) (E : Nat → Nat → Int) (l : List Nat) : Prop := σ.1 135 0 = i32 6 ∧ (∀ r j, r < 6 → j < 6 → σ.2 (135 + 2 + r) j = oi (E r j)) ∧ Ech 6 E ∧ ∀ r j, r < 6 → j < 6 → Wi (bg l r j : Int) (E r j)
theorem FLa.sc {τ : Mem} (h : FLa 135 σ τ) : SC σ τ := ⟨fun x _ => by rw [h.1], fun c _ => by rw [h.1], fun c _ => by rw [h.1], fun x hx => h.2 x (by omega)⟩
theorem Ech.of {n : Nat} {E0 E : Nat → Nat → Int} (h : PMA n n E0 E) : Ech n E := h.1
theorem c_tailIn {c t j i : Nat} {S : AS} {E : Nat → Nat → Int} {l : List Nat} (h : ICls c S σ) (ok : OKS S) (ht : t ≤ 14) (hst : stL t = some l) (hj : jtT t = j) (hi : i < 6) (hj6 : j < 6) (hL : LTt σ E l) : ∃ τ D L, (f_X6_copyTails σ 2 (i32 j) (i32 i) 176).bind (fun (σ14 : Mem) => f_X3_insert σ14 135 176) = some τ ∧ SC σ τ ∧ LTt τ D L ∧ stL (t + 1) = some L ∧ ∀ v, Spn (fun j => j < 6) D 6 v ↔ Spn (fun j => j < 6) (adC E 6 (fun k => (gt (aG S) j i k : Int))) 7 v := by
  have hG : GOK (aG S) := ok.1.1
  obtain ⟨L, hL1⟩ := stL_some (t := t + 1) (by omega)
  have hrun : runB (opA 6) (bSet l (vb0 j)) = some L := by
    have e : stL (t + 1) = (stL t).bind (fun l => runB (opA 6) (bSet l (vb0 (jtT t)))) := rfl
    rw [e, hst, hj] at hL1
    exact hL1
  obtain ⟨h0, m, ech, hb⟩ := hL
  obtain ⟨τ1, e1, o1, r1⟩ := c_copyTails (σ := σ) (j := j) (i := i) hG h.1.1 hj6 hi
  obtain ⟨τ2, D, e2, f2, m2, pA, pB⟩ := c_insertL (σ := τ1) (a := 135) (n := 6) (x := 176) (V := fun k => (gt (aG S) j i k : Int)) (vb := vb0 j) LA_135 (Nat.le_refl _) (by omega) (by rw [o1.1]; exact h0) (fun r q hr hq => by rw [o1.2 _ (by omega)]; exact m r q hr hq) ech hb ln_176 (fun q hq => r1 q hq) (fun q _ => by
    have h3 := hG.2.2.2.2.2.1 j i q
    unfold vb0
    by_cases hq : j < q
    · rw [if_pos hq]; exact ⟨by omega, by omega⟩
    · rw [if_neg hq, gt_z hG (by omega)]; exact ⟨by omega, by omega⟩) hrun
  refine ⟨τ2, D, L, by rw [e1, e_bs, e2], (o1.sc (fun x hx => by omega)).trans f2.sc, ⟨by rw [f2.1, o1.1]; exact h0, fun r q hr hq => m2 r q (by omega) hq, pA.1, fun r q hr hq => pB r q (by omega) hq⟩, hL1, fun v => ?_⟩
  exact (Spn_drop (D := D) (m := 6) (fun q hq => pA.2.1 q hq)).symm.trans (pA.2.2 v).symm
theorem c_tailsIn {c : Nat} {S : AS} (h : ICls c S σ) (ok : OKS S) : ∃ τ E l, (f_X3_clear σ 135 6).bind (fun (σ1 : Mem) => loopO (fun (z9 : (Mem × Int32)) => l_X10_leastMade_11 z9.1 z9.2) (σ1, 1)) = some τ ∧ SC σ τ ∧ LTt τ E l ∧ stL (trN (gn (aG S))) = some l ∧ ∀ v, Spn (fun j => j < 6) E 6 v ↔ InT (aG S) v := by
  have hG : GOK (aG S) := ok.1.1
  have hn := hG.2.1
  have hn1 := hG.1
  obtain ⟨σ1, E0, e0, f1, f2, m0, z0⟩ := c_clear (σ := σ) (a := 135) (n := 6) LA_135 (Nat.le_refl _)
  have s1 : SC σ σ1 := ⟨fun x hx => by rw [f1]; funext y; rw [wI_1, if_neg (by omega)], fun c _ => by rw [f1, wI_1, if_neg (by omega)], fun c _ => by rw [f1, wI_1, if_neg (by omega)], fun x hx => f2 x (by omega)⟩
  have e0' : f_X3_clear σ 135 6 = some σ1 := e0
  rw [e0', e_bs]
  have hE0 : Ech 6 E0 := ⟨fun r hr j _ => z0 r j hr, fun r hr => ⟨by rw [z0 r r hr]; omega, fun _ j _ => z0 r j hr⟩, fun r h1 h2 => absurd h2 (by omega)⟩
  have hL0 : LTt σ1 E0 (bmk (fun _ _ => 0)) := ⟨by rw [f1, wI_1, if_pos ⟨rfl, rfl⟩], fun r j hr hj => m0 r j (by omega) hj, hE0, fun r j hr hj => by rw [bg_bmk (by omega) (by omega), z0 r j hr]; exact ⟨by omega, by omega⟩⟩
  have hl := loop_inv (body := fun (z9 : (Mem × Int32)) => l_X10_leastMade_11 z9.1 z9.2) (fun n z => ∃ j τ E l C m, 1 ≤ j ∧ j ≤ 6 ∧ n = 6 - j ∧ z = (τ, i32 j) ∧ SC σ τ ∧ LTt τ E l ∧ stL (trN j) = some l ∧ (∀ v, Spn (fun j => j < 6) E 6 v ↔ Spn (fun j => j < 6) C m v) ∧ j ≤ gn (aG S) ∧ TCs (aG S) C m (fun y e => y < j ∧ e < y)) (fun τ => ∃ E l, SC σ τ ∧ LTt τ E l ∧ stL (trN (gn (aG S))) = some l ∧ ∀ v, Spn (fun j => j < 6) E 6 v ↔ InT (aG S) v) ?_ 5 (σ1, 1) ⟨1, σ1, E0, _, fun _ _ => 0, 0, by omega, by omega, rfl, rfl, s1, hL0, rfl, fun v => ?_, hn1, fun c hc => absurd hc (Nat.not_lt_zero _), fun y e q => by omega⟩
  · obtain ⟨τ, e, E, l, h1, h2, h3, h4⟩ := hl
    exact ⟨τ, E, l, e, h1, h2, h3, h4⟩
  · rintro n z ⟨j, τ, E, l, C, m, j1, j2, rfl, rfl, sc, hL, hst, hsp, hjn, hT⟩
    have hI := h.sc sc
    have g20 : τ.1 2 0 = i32 (gn (aG S)) := hI.1.1.1
    by_cases hjn2 : j = gn (aG S)
    · right
      refine ⟨τ, ?_, E, l, sc, hL, by rw [← hjn2]; exact hst, fun v => (hsp v).trans (TCs.same hG ⟨hT.1, fun y e q => hT.2 y e (by omega)⟩)⟩
      show l_X10_leastMade_11 τ (i32 j) = _
      unfold l_X10_leastMade_11
      rw [e_gF, g20, if_pos (i_le (by omega) (by omega))]
    · left
      have hl2 := loop_inv (body := fun (z13 : (Mem × Int32)) => l_X10_leastMade_28 (i32 j) z13.1 z13.2) (fun n z => ∃ i τ E l C m, i ≤ j ∧ n = j - i ∧ z = (τ, i32 i) ∧ SC σ τ ∧ LTt τ E l ∧ stL (trN j + i) = some l ∧ (∀ v, Spn (fun j => j < 6) E 6 v ↔ Spn (fun j => j < 6) C m v) ∧ TCs (aG S) C m (fun y e => (y < j ∧ e < y) ∨ (y = j ∧ e < i))) (fun τ => ∃ E l C m, SC σ τ ∧ LTt τ E l ∧ stL (trN (j + 1)) = some l ∧ (∀ v, Spn (fun j => j < 6) E 6 v ↔ Spn (fun j => j < 6) C m v) ∧ TCs (aG S) C m (fun y e => y < j + 1 ∧ e < y)) ?_ j (τ, 0) ⟨0, τ, E, l, C, m, by omega, rfl, rfl, sc, hL, hst, hsp, hT.1, fun y e q => hT.2 y e (by omega)⟩
      · obtain ⟨τ2, e2, E2, l2, C2, m2, b1, b2, b3, b4, b5⟩ := hl2
        refine ⟨(τ2, i32 (j + 1)), 6 - (j + 1), by omega, ?_, j + 1, τ2, E2, l2, C2, m2, by omega, by omega, rfl, rfl, b1, b2, b3, b4, by omega, b5⟩
        show l_X10_leastMade_11 τ (i32 j) = _
        unfold l_X10_leastMade_11
        rw [e_gF, g20, if_neg (i_nle (by omega) (by omega)), e2, e_bs]
        unfold j_X10_leastMade_68
        rw [i32_1, i32_add]
      · rintro n z ⟨i, τ, E, l, C, m, i1, rfl, rfl, sc, hL, hst, hsp, hT⟩
        by_cases hij : i = j
        · right
          subst hij
          refine ⟨τ, ?_, E, l, C, m, sc, hL, hst, hsp, hT.1, fun y e q => hT.2 y e (by omega)⟩
          show l_X10_leastMade_28 (i32 i) τ (i32 i) = _
          unfold l_X10_leastMade_28
          rw [if_pos (i_le (Nat.le_refl _) (by omega))]
        · left
          have ht := jtT_tr j (by omega) i (by omega)
          have h15 := trN_le (j + 1) (by omega)
          have htr : trN (j + 1) = trN j + j := rfl
          obtain ⟨τ2, D, L, e2, s2, b2, b3, b4⟩ := c_tailIn (t := trN j + i) (j := j) (i := i) (h.sc sc) ok (by omega) hst ht (by omega) (by omega) hL
          obtain ⟨σ14, e3, e4⟩ := Option.bind_eq_some_iff.mp e2
          refine ⟨(τ2, i32 (i + 1)), j - (i + 1), by omega, ?_, i + 1, τ2, D, L, adC C m (fun k => (gt (aG S) j i k : Int)), m + 1, by omega, rfl, rfl, sc.trans s2, b2, b3, fun v => ?_, fun c hc => ?_, fun y e q => ?_⟩
          · show l_X10_leastMade_28 (i32 j) τ (i32 i) = _
            unfold l_X10_leastMade_28
            rw [if_neg (i_nle (by omega) (by omega)), e3, e_bs, e4, e_bs, i32_1, i32_add]
          · exact (b4 v).trans ⟨Spn_adC (fun v => (hsp v).mp) v, Spn_adC (fun v => (hsp v).mpr) v⟩
          · by_cases hcm : c = m
            · exact ⟨j, i, by omega, by omega, by rw [hcm, adC_m]⟩
            · obtain ⟨a, b, a1, a2, a3⟩ := hT.1 c (by omega)
              exact ⟨a, b, a1, a2, by rw [adC_n hcm]; exact a3⟩
          · by_cases hq : y = j ∧ e = i
            · exact ⟨m, by omega, by rw [adC_m, hq.1, hq.2]⟩
            · obtain ⟨c, c1, c2⟩ := hT.2 y e (by omega)
              exact ⟨c, by omega, by rw [adC_n (by omega)]; exact c2⟩
  · constructor
    · refine Spn.le (fun c hc => ?_)
      exact Spn.zero.congr (fun j _ => z0 c j hc)
    · refine Spn.le (fun c hc => absurd hc (Nat.not_lt_zero _))
end LST
