/-! the reference: whether so many times an element is made of tails; the least -/
section IMD
variable {σ : Mem} {G : GD}
def VA (σ : Mem) (A : Nat → Int) : Prop := ∀ i, i < 6 → vec σ 0 i = oi (A i)
theorem VA.cq {τ : Mem} {A : Nat → Int} (h : VA σ A) (f : FCq σ τ) : VA τ A := fun i hi => by
  unfold vec
  rw [f.2.2 313 (by omega) (by omega)]
  exact h i hi
theorem e_of0 {A : Nat → Int} (h : VA σ A) {i : Nat} (hi : i < 6) : f_X11_of σ 0 (i32 i) = some (oi (A i)) := by
  have := e_of (σ := σ) (s := 0) (i := i) (by omega) hi
  rw [h i hi] at this
  exact this
theorem r_ones1 {A : Nat → Int} (hG : GOK G) (hM : MG σ G) (hV : VA σ A) (sA : ∀ i, -999 ≤ A i ∧ A i ≤ 999) : ∃ r, loopO (fun (z21 : Int32) => l_X11_isMade_2 σ 0 z21) 0 = some r ∧ ((r = Sum.inl () ∧ ∀ k, k < gn G → gw G k = 1 → A k = 0) ∨ (r = Sum.inr (false, σ) ∧ ∃ k, k < gn G ∧ gw G k = 1 ∧ A k ≠ 0)) := by
  have hn := hG.2.1
  refine loop_inv (body := fun (z21 : Int32) => l_X11_isMade_2 σ 0 z21) (fun n z => ∃ i, i ≤ gn G ∧ n = gn G - i ∧ z = i32 i ∧ ∀ k, k < i → gw G k = 1 → A k = 0) _ ?_ (gn G) 0 ⟨0, by omega, rfl, rfl, fun k hk => absurd hk (Nat.not_lt_zero _)⟩
  rintro n z ⟨i, hi, rfl, rfl, hz⟩
  by_cases hin : i = gn G
  · right
    subst hin
    refine ⟨_, ?_, Or.inl ⟨rfl, hz⟩⟩
    unfold l_X11_isMade_2
    rw [e_n hM, e_bs, if_pos (i_le (Nat.le_refl _) (by omega))]
  · have hw := hG.2.2.1 i (by omega)
    have hA : Wi (2 ^ 62) (A i) := ⟨by have := sA i; omega, by have := sA i; omega⟩
    have next : (gw G i = 1 → A i = 0) → l_X11_isMade_2 σ 0 (i32 i) = some (Sum.inl (i32 (i + 1))) → (∃ s' n', n' < gn G - i ∧ l_X11_isMade_2 σ 0 (i32 i) = some (Sum.inl s') ∧ ∃ i, i ≤ gn G ∧ n' = gn G - i ∧ s' = i32 i ∧ ∀ k, k < i → gw G k = 1 → A k = 0) := fun q e => ⟨i32 (i + 1), gn G - (i + 1), by omega, e, i + 1, by omega, rfl, rfl, fun k hk hk1 => by
      by_cases hki : k = i
      · rw [hki] at hk1 ⊢; exact q hk1
      · exact hz k (by omega) hk1⟩
    by_cases h1 : gw G i = 1
    · by_cases h2 : A i = 0
      · left
        refine next (fun _ => h2) ?_
        unfold l_X11_isMade_2
        rw [e_n hM, e_bs, if_neg (i_nle (by omega) (by omega)), e_weight hM (by omega), e_bs, h1, if_pos (show i32 1 = 1 from rfl), e_of0 hV (by omega), e_bs, if_pos ((oi_is0 hA).mpr h2), e_bs]
        show j_X11_isMade_32 (i32 i) = _
        unfold j_X11_isMade_32
        rw [i32_1, i32_add]
      · right
        refine ⟨_, ?_, Or.inr ⟨rfl, i, by omega, h1, h2⟩⟩
        unfold l_X11_isMade_2
        rw [e_n hM, e_bs, if_neg (i_nle (by omega) (by omega)), e_weight hM (by omega), e_bs, h1, if_pos (show i32 1 = 1 from rfl), e_of0 hV (by omega), e_bs, if_neg (fun q => h2 ((oi_is0 hA).mp q)), e_bs]
        rfl
    · left
      refine next (fun q => absurd q h1) ?_
      unfold l_X11_isMade_2
      rw [e_n hM, e_bs, if_neg (i_nle (by omega) (by omega)), e_weight hM (by omega), e_bs, if_neg (show ¬ i32 (gw G i) = 1 from i_ne (b := 1) h1 (by omega) (by omega)), e_bs]
      show j_X11_isMade_32 (i32 i) = _
      unfold j_X11_isMade_32
      rw [i32_1, i32_add]
theorem r_dueA {A : Nat → Int} {t : Nat} (hG : GOK G) (hM : MG σ G) (hV : VA σ A) (ht : t ≤ 99) : ∃ τ, loopO (fun (z7 : (Mem × Int32)) => l_X11_isMade_88 0 (i32 t) z7.1 z7.2) (σ, 0) = some τ ∧ FCq σ τ ∧ τ.1 = σ.1 ∧ τ.2 320 = σ.2 320 ∧ Du τ (fun k => if k < gn G then (t : Int) * A k else 0) := by
  have hn := hG.2.1
  let F : Nat → Nat → Int64 := fun i y => if y < i then oi (if y < gn G then (t : Int) * A y else 0) else σ.2 321 y
  refine ⟨rwL σ 321 (F 18), ?_, FCq.row (by omega), rfl, rwL_x (by omega), fun j hj => ?_⟩
  · refine loop_at (body := fun (z7 : (Mem × Int32)) => l_X11_isMade_88 0 (i32 t) z7.1 z7.2) (fun i => (rwL σ 321 (F i), i32 i)) 0 18 ?_ (by omega) (fun i _ hi => ?_) ?_
    · exact Prod.ext (rwL_id (fun y => if_neg (Nat.not_lt_zero _))) rfl
    · show l_X11_isMade_88 0 (i32 t) (rwL σ 321 (F i)) (i32 i) = _
      have hM' : MG (rwL σ 321 (F i)) G := hM
      have hV' : VA (rwL σ 321 (F i)) A := hV.cq (FCq.row (by omega))
      have hval : (if i32 (gn G) ≤ i32 i then (some 0) else ((f_X11_of (rwL σ 321 (F i)) 0 (i32 i)).bind (fun (v11 : Int64) => some ((Int32.toInt64 (i32 t)) * v11))) : Option Int64) = some (oi (if i < gn G then (t : Int) * A i else 0)) := by
        by_cases h1 : i < gn G
        · rw [if_neg (i_nle h1 (by omega)), e_of0 hV' (by omega), e_bs, n64 (by omega), oi_mul, if_pos h1]
        · rw [if_pos (i_le (by omega) (by omega)), if_neg h1]
          rfl
      unfold l_X11_isMade_88
      rw [i32_18, if_neg (i_nle hi (by omega)), e_n hM', e_bs, hval, e_bs]
      unfold j_X11_isMade_120
      rw [e_pL ln_321 (by omega) (by omega), rwL_w, i32_1, i32_add]
      refine congrArg (fun τ => some (Sum.inl (τ, i32 (i + 1)))) (rwL_congr (fun y => ?_))
      show (if y = i then oi (if i < gn G then (t : Int) * A i else 0) else if y < i then oi (if y < gn G then (t : Int) * A y else 0) else σ.2 321 y) = if y < i + 1 then oi (if y < gn G then (t : Int) * A y else 0) else σ.2 321 y
      by_cases hy : y = i
      · rw [if_pos hy, hy, if_pos (show i < i + 1 by omega)]
      · rw [if_neg hy]
        by_cases h2 : y < i
        · rw [if_pos h2, if_pos (show y < i + 1 by omega)]
        · rw [if_neg h2, if_neg (show ¬ y < i + 1 by omega)]
    · show l_X11_isMade_88 0 (i32 t) (rwL σ 321 (F 18)) (i32 18) = _
      unfold l_X11_isMade_88
      rw [if_pos (by decide)]
  · rw [rwL_a]
    show (if j < 18 then oi (if j < gn G then (t : Int) * A j else 0) else σ.2 321 j) = _
    rw [if_pos hj]
def B3 (j : Nat) : Int := if j < 2 then 0 else 3
theorem B3_fit : ∀ k, k < 6 → bdB B3 k k ≤ 2 ^ 62 ∧ bdD B3 (fun _ => 98901) k k ≤ 2 ^ 62 := by decide +kernel
theorem TCs.same {C : Nat → Nat → Int} {m : Nat} {v : Nat → Int} (hG : GOK G) (h : TCs G C m (fun j i => i < j ∧ j < gn G)) : Spn (fun j => j < 6) C m v ↔ InT G v := by
  constructor
  · refine Spn.le (fun c hc => ?_)
    obtain ⟨j, i, hj, hi, e⟩ := h.1 c hc
    rw [e, ← TF_at hi]
    exact Spn.col (by omega)
  · refine Spn.le (fun c hc => ?_)
    by_cases hp : c % 6 < c / 6 ∧ c / 6 < gn G
    · obtain ⟨e, e1, e2⟩ := h.2 (c / 6) (c % 6) hp
      have : TF G c = C e := by rw [e2]; rfl
      rw [this]
      exact Spn.col e1
    · refine Spn.zero.congr (fun k _ => ?_)
      unfold TF
      rw [gt_z hG (fun q => hp ⟨q.1, by omega⟩)]
      rfl
theorem r_isMade {A : Nat → Int} {t : Nat} (hG : GOK G) (hM : MG σ G) (hV : VA σ A) (sA : ∀ i, -999 ≤ A i ∧ A i ≤ 999) (zA : ∀ i, gn G ≤ i → A i = 0) (ht : 1 ≤ t ∧ t ≤ 99) : ∃ b τ, f_X11_isMade σ 0 (i32 t) = some (b, τ) ∧ FCq σ τ ∧ (b = true ↔ InT G (fun k => (t : Int) * A k)) := by
  obtain ⟨r, e, hr⟩ := r_ones1 hG hM hV sA
  unfold f_X11_isMade
  rw [e, e_bs]
  rcases hr with ⟨rfl, _⟩ | ⟨rfl, k, k1, k2, k3⟩
  · show ∃ b τ, j_X11_isMade_38 σ 0 (i32 t) = some (b, τ) ∧ _
    unfold j_X11_isMade_38
    have f1 : FCq σ (wI σ 306 31 0) := FCq.fld
    obtain ⟨τ1, C, m, e1, fr1, h31, hm, hC, hT⟩ := r_tails (σ := wI σ 306 31 0) (P := fun j i => i < j ∧ j < gn G) hG (hM.cq f1) (by rw [wI_1, if_pos ⟨rfl, rfl⟩]) (fun _ _ q => q)
    have F1 := f1.trans fr1
    obtain ⟨τ2, e2, fr2, q1, q2, hd⟩ := r_dueA (σ := τ1) (t := t) hG (hM.cq F1) (hV.cq F1) ht.2
    have hC2 : Cl τ2 C m := fun c j hc hj => by rw [q2]; exact hC c j hc hj
    have hE : ∀ c, c < m → ∀ j, j < 6 → Wi (B3 j) (C c j) := fun c hc j _ => by
      obtain ⟨a, b, _, _, e⟩ := hT.1 c hc
      rw [e]
      show Wi (B3 j) (gt G a b j : Int)
      have h3 := hG.2.2.2.2.2.1 a b j
      unfold B3
      by_cases hj2 : j < 2
      · rw [if_pos hj2, gt_z hG (by omega)]
        exact ⟨by omega, by omega⟩
      · rw [if_neg hj2]
        exact ⟨by omega, by omega⟩
    have hD : ∀ j, j < 6 → Wi 98901 (if j < gn G then (t : Int) * A j else 0) := fun j _ => by
      by_cases hj : j < gn G
      · rw [if_pos hj]
        exact (Wi.mul (A := 99) (B := 999) ⟨by omega, by omega⟩ (sA j)).mono (by omega)
      · rw [if_neg hj]
        exact ⟨by omega, by omega⟩
    obtain ⟨b, τ3, e3, fr3, h4, h5⟩ := r_canMakeB (σ := τ2) (B := B3) (D := fun _ => 98901) (by omega) hC2 hd (by rw [q1]; exact h31) (fun j => by unfold B3; split <;> omega) (fun _ => by omega) hE hD B3_fit
    refine ⟨b, τ3, ?_, F1.trans (fr2.trans fr3.cq), ?_⟩
    · rw [e_pF, e1, e_bs]
      unfold j_X11_isMade_86
      rw [e2, e_bs]
      unfold j_X11_isMade_127
      rw [e3, e_bq]
    · have heq : ∀ k, k < 6 → (if k < gn G then (t : Int) * A k else 0) = (t : Int) * A k := fun k _ => by
        by_cases hk : k < gn G
        · rw [if_pos hk]
        · rw [if_neg hk, zA k (by omega), Int.mul_zero]
      constructor
      · intro hb
        obtain ⟨f, C', d, _, _, _, hA, _⟩ := h4 hb
        exact ((TCs.same hG hT).mp hA.made).congr (fun k hk => (heq k hk).symm)
      · intro hin
        cases hb : b with
        | true => rfl
        | false => exact absurd ((TCs.same hG hT).mpr (hin.congr heq)) (h5 hb)
  · refine ⟨false, σ, rfl, FCq.refl, fun q => absurd q (by decide), fun q => ?_⟩
    have := q.one hG k1 k2
    rcases Int.mul_eq_zero.mp this with w | w
    · omega
    · exact absurd w k3
/-- the least number of times by which an element is made of tails -/
def LsM (G : GD) (A : Nat → Int) (most : Nat) (r : Int32) : Prop := (∃ m, 1 ≤ m ∧ m ≤ most ∧ InT G (fun k => (m : Int) * A k) ∧ (∀ q, 1 ≤ q → q < m → ¬ InT G (fun k => (q : Int) * A k)) ∧ r = i32 m) ∨ ((∀ q, 1 ≤ q → q ≤ most → ¬ InT G (fun k => (q : Int) * A k)) ∧ r = 0)
theorem LsM.uniq {A : Nat → Int} {most : Nat} {r q : Int32} (h : LsM G A most r) (k : LsM G A most q) : r = q := by
  rcases h with ⟨m, a1, a2, a3, a4, rfl⟩ | ⟨a1, rfl⟩
  · rcases k with ⟨n, b1, b2, b3, b4, rfl⟩ | ⟨b1, rfl⟩
    · rcases Nat.lt_trichotomy m n with c | c | c
      · exact absurd a3 (b4 m a1 c)
      · rw [c]
      · exact absurd b3 (a4 n b1 c)
    · exact absurd a3 (b1 m a1 a2)
  · rcases k with ⟨n, b1, b2, b3, b4, rfl⟩ | ⟨b1, rfl⟩
    · exact absurd b3 (a1 n b1 b2)
    · rfl
theorem r_leastMade {A : Nat → Int} (hG : GOK G) (hM : MG σ G) (hV : VA σ A) (sA : ∀ i, -999 ≤ A i ∧ A i ≤ 999) (zA : ∀ i, gn G ≤ i → A i = 0) : ∃ r τ, f_X11_leastMade σ 0 = some (r, τ) ∧ FCq σ τ ∧ LsM G A 99 r := by
  unfold f_X11_leastMade
  have hl := loop_inv (body := fun (z2 : (Mem × Int32)) => l_X11_leastMade_2 0 z2.1 z2.2) (fun n z => ∃ m τ, 1 ≤ m ∧ m ≤ 100 ∧ n = 100 - m ∧ z = (τ, i32 m) ∧ FCq σ τ ∧ ∀ q, 1 ≤ q → q < m → ¬ InT G (fun k => (q : Int) * A k)) (fun x => ∃ r τ, x = (r, τ) ∧ FCq σ τ ∧ LsM G A 99 r) ?_ 99 (σ, 1) ⟨1, σ, by omega, by omega, rfl, rfl, FCq.refl, fun q q1 q2 => by omega⟩
  · obtain ⟨x, e, r, τ, rfl, h1, h2⟩ := hl
    exact ⟨r, τ, e, h1, h2⟩
  · rintro n z ⟨m, τ, h1, h2, rfl, rfl, fr, hno⟩
    by_cases hm : m = 100
    · right
      subst hm
      refine ⟨_, ?_, 0, τ, rfl, fr, Or.inr ⟨fun q q1 q2 => hno q q1 (by omega), rfl⟩⟩
      show l_X11_leastMade_2 0 τ (i32 100) = _
      unfold l_X11_leastMade_2
      rw [if_pos (by decide)]
    · obtain ⟨b, τ2, e, fr2, hb⟩ := r_isMade (σ := τ) (t := m) hG (hM.cq fr) (hV.cq fr) sA zA (by omega)
      have hbody : l_X11_leastMade_2 0 τ (i32 m) = if b = true then some (Sum.inr (i32 m, τ2)) else some (Sum.inl (τ2, i32 (m + 1))) := by
        unfold l_X11_leastMade_2
        rw [if_neg (show ¬ 100 ≤ i32 m from i_nle (a := 100) (by omega) (by omega)), e, e_bq, i32_1, i32_add]
      by_cases hbt : b = true
      · right
        refine ⟨_, ?_, i32 m, τ2, rfl, fr.trans fr2, Or.inl ⟨m, h1, by omega, hb.mp hbt, hno, rfl⟩⟩
        show l_X11_leastMade_2 0 τ (i32 m) = _
        rw [hbody, if_pos hbt]
      · left
        refine ⟨(τ2, i32 (m + 1)), 100 - (m + 1), by omega, ?_, m + 1, τ2, by omega, by omega, rfl, rfl, fr.trans fr2, fun q q1 q2 => ?_⟩
        · show l_X11_leastMade_2 0 τ (i32 m) = _
          rw [hbody, if_neg hbt]
        · by_cases hqm : q = m
          · rw [hqm]; exact fun z => hbt (hb.mpr z)
          · exact hno q q1 (by omega)
end IMD
