/-! acts kept by both -/
section AC
variable {σ : Mem}
def saB (s : Nat) : Bool := rf s 0 == s + 1 && (rf s 1 == s + 4 && (rf s 2 == s + 15 && (rf (s + 1) 1 == s + 2 && (rf (s + 1) 2 == s + 3 && (ln (s + 2) == 6 && (ln (s + 3) == 216 && (ln (s + 4) == 10 && (ln (s + 15) == 8 && (List.range 10).all (fun r => rf (s + 4) r == s + 5 + r && ln (s + 5 + r) == 6)))))))))
/-- the address of a state -/
def SA (s : Nat) : Prop := rf s 0 = s + 1 ∧ rf s 1 = s + 4 ∧ rf s 2 = s + 15 ∧ RR2 (s + 1) ∧ ln (s + 4) = 10 ∧ ln (s + 15) = 8 ∧ ∀ r, r < 10 → rf (s + 4) r = s + 5 + r ∧ ln (s + 5 + r) = 6
theorem saB_ok {s : Nat} (h : saB s = true) : SA s := by
  unfold saB at h
  simp only [Bool.and_eq_true, beq_iff_eq] at h
  obtain ⟨a1, a2, a3, a4, a5, a6, a7, a8, a9, a10⟩ := h
  refine ⟨a1, a2, a3, ⟨a4, a5, a6, a7⟩, a8, a9, fun r hr => ?_⟩
  have := List.all_eq_true.mp a10 r (List.mem_range.mpr hr)
  simp only [Bool.and_eq_true, beq_iff_eq] at this
  exact this
theorem SA_1 : SA 1 := saB_ok (by decide +kernel)
theorem SA_act {i : Nat} (h : i < 8) : rf 33 i = 178 + 16 * i ∧ SA (178 + 16 * i) := by
  have h1 : (List.range 8).all (fun i => rf 33 i == 178 + 16 * i && saB (178 + 16 * i)) = true := by decide +kernel
  have h2 := List.all_eq_true.mp h1 i (List.mem_range.mpr h)
  rw [Bool.and_eq_true, beq_iff_eq] at h2
  exact ⟨h2.1, saB_ok h2.2⟩
/-- rows within a range have changed alone -/
def FRg (lo hi : Nat) (σ τ : Mem) : Prop := ∀ x, x < lo ∨ hi < x → τ.1 x = σ.1 x ∧ τ.2 x = σ.2 x
theorem c_copyRow {a b : Nat} (ha : ln a = 6) (hb : ln b = 6) : ∃ τ, f_X0_copy σ a b = some τ ∧ OL (fun x => x = b) σ τ ∧ ∀ k, k < 6 → τ.2 b k = σ.2 a k := by
  unfold f_X0_copy
  rw [e_cL6 ha hb]
  refine ⟨_, rfl, ⟨rfl, fun x hx => ?_⟩, fun k hk => ?_⟩
  · funext y; rw [cpL_get, if_neg (fun z => hx z.1)]
  · rw [cpL_get, if_pos ⟨rfl, hk⟩]
theorem c_takeActed {s t : Nat} {X : GR} (hs : SA s) (ht : SA t) (hne : s + 16 ≤ t ∨ t + 16 ≤ s) (h : CB σ s X) : ∃ τ, f_X8_takeActed σ t s = some τ ∧ CB τ t X ∧ FRg (t + 1) (t + 14) σ τ := by
  unfold f_X8_takeActed
  rw [ht.1, hs.1]
  obtain ⟨σ1, e1, l1, i1, _, a0, a1, a2⟩ := c_takeRules (σ := σ) ht.2.2.2.1 hs.2.2.2.1 (by omega)
  rw [e1, e_bs]
  have m1 : CG σ1 (t + 1) X.1 := h.1.copied a0 a1 a2
  have hl := loop_inv (body := fun (z3 : (Mem × Int32)) => l_X8_takeActed_13 t s z3.1 z3.2) (fun n z => ∃ r τ, r ≤ 10 ∧ n = 10 - r ∧ z = (τ, i32 r) ∧ OL (fun x => t + 5 ≤ x ∧ x ≤ t + 14) σ1 τ ∧ ∀ q, q < r → ∀ i, i < 6 → τ.2 (t + 5 + q) i = oi (X.2 q i)) (fun τ => OL (fun x => t + 5 ≤ x ∧ x ≤ t + 14) σ1 τ ∧ ∀ q, q < 10 → ∀ i, i < 6 → τ.2 (t + 5 + q) i = oi (X.2 q i)) ?_ 10 (σ1, 0) ⟨0, σ1, by omega, rfl, rfl, OL.refl, fun q hq => absurd hq (Nat.not_lt_zero _)⟩
  · obtain ⟨τ, e2, o, v⟩ := hl
    refine ⟨τ, e2, ⟨?_, fun r i hr hi => v r hr i hi⟩, fun x hx => ⟨?_, ?_⟩⟩
    · unfold CG
      rw [o.1]
      exact m1
    · rw [o.1, i1 x (by omega) (by omega) (by omega)]
    · rw [o.2 x (by omega), l1]
  · rintro n z ⟨r, τ, hr, rfl, rfl, o, v⟩
    by_cases hr10 : r = 10
    · right
      subst hr10
      refine ⟨τ, ?_, o, v⟩
      show l_X8_takeActed_13 t s τ (i32 10) = _
      unfold l_X8_takeActed_13
      rw [if_pos (by decide)]
    · left
      have hr' : r < 10 := by omega
      obtain ⟨b1, b2⟩ := hs.2.2.2.2.2.2 r hr'
      obtain ⟨d1, d2⟩ := ht.2.2.2.2.2.2 r hr'
      obtain ⟨υ, e3, o3', v3⟩ := c_copyRow (σ := τ) (a := s + 5 + r) (b := t + 5 + r) b2 d2
      refine ⟨(υ, i32 (r + 1)), 10 - (r + 1), by omega, ?_, r + 1, υ, by omega, rfl, rfl, o.trans (o3'.mono (fun x hx => by omega)), fun q hq i hi => ?_⟩
      · show l_X8_takeActed_13 t s τ (i32 r) = _
        unfold l_X8_takeActed_13
        rw [hs.2.1, ht.2.1, i32_10, if_neg (i_nle hr' (by omega)), e_gR hs.2.2.2.2.1 hr' (by omega), b1, e_gR ht.2.2.2.2.1 hr' (by omega), d1, e3, e_bs, i32_1, i32_add]
      · by_cases h1 : q = r
        · rw [h1, v3 i hi, o.2 _ (by omega), l1]
          exact h.2 r i hr' hi
        · rw [o3'.2 _ (by omega)]
          exact v q (by omega) i hi
theorem c_clearRegs {X : GR} : ∃ τ, f_X8_clearRegisters σ 1 = some τ ∧ OL (fun x => 6 ≤ x ∧ x ≤ 15) σ τ ∧ ∀ r i, r < 10 → i < 6 → τ.2 (6 + r) i = 0 := by
  unfold f_X8_clearRegisters
  have hl := loop_inv (body := fun (z2 : (Mem × Int32)) => l_X8_clearRegisters_2 1 z2.1 z2.2) (fun n z => ∃ r τ, r ≤ 10 ∧ n = 10 - r ∧ z = (τ, i32 r) ∧ OL (fun x => 6 ≤ x ∧ x ≤ 15) σ τ ∧ ∀ q, q < r → ∀ i, i < 6 → τ.2 (6 + q) i = 0) (fun τ => OL (fun x => 6 ≤ x ∧ x ≤ 15) σ τ ∧ ∀ q, q < 10 → ∀ i, i < 6 → τ.2 (6 + q) i = 0) ?_ 10 (σ, 0) ⟨0, σ, by omega, rfl, rfl, OL.refl, fun q hq => absurd hq (Nat.not_lt_zero _)⟩
  · obtain ⟨τ, e2, o, v⟩ := hl
    exact ⟨τ, e2, o, fun r i hr hi => v r hr i hi⟩
  · rintro n z ⟨r, τ, hr, rfl, rfl, o, v⟩
    by_cases hr10 : r = 10
    · right
      subst hr10
      refine ⟨τ, ?_, o, v⟩
      show l_X8_clearRegisters_2 1 τ (i32 10) = _
      unfold l_X8_clearRegisters_2
      rw [if_pos (by decide)]
    · left
      have hr' : r < 10 := by omega
      obtain ⟨υ, e3, o3', v3⟩ := fillL (σ := τ) (a := 6 + r) (v := 0) (ln_reg hr') (by omega)
      refine ⟨(υ, i32 (r + 1)), 10 - (r + 1), by omega, ?_, r + 1, υ, by omega, rfl, rfl, o.trans (o3'.mono (fun x hx => by omega)), fun q hq i hi => ?_⟩
      · show l_X8_clearRegisters_2 1 τ (i32 r) = _
        unfold l_X8_clearRegisters_2
        rw [i32_10, if_neg (i_nle hr' (by omega)), show rf 1 1 = 5 from SA_1.2.1, e_gR ln_5 hr' (by omega), rf_5 hr', e3, e_bs, i32_1, i32_add]
      · by_cases h1 : q = r
        · rw [h1]; exact v3 i hi
        · rw [o3'.2 _ (by omega)]
          exact v q (by omega) i hi
/-- the acts, one more -/
def psh (X : GR) (L : List GR) : List GR := (X :: L).take 8
theorem psh_len {X : GR} {L : List GR} : (psh X L).length = min 8 (L.length + 1) := by
  unfold psh
  rw [List.length_take, List.length_cons]
theorem i_mod8 {a : Nat} (h : a < 16) : i32 a - i32 a / 8 * 8 = i32 (a % 8) := by
  have key : (List.range 16).all (fun a => decide (i32 a - i32 a / 8 * 8 = i32 (a % 8))) = true := by decide
  exact of_decide_eq_true (List.all_eq_true.mp key a (List.mem_range.mpr h))
theorem e_min {a b : Nat} (ha : a < 2 ^ 31) (hb : b < 2 ^ 31) : f_J9_min_7cf53 σ (i32 a) (i32 b) = some (i32 (min a b)) := by
  unfold f_J9_min_7cf53
  by_cases h : b < a
  · rw [if_pos (i_lt h ha), Nat.min_eq_right (by omega)]
  · rw [if_neg (i_nlt (by omega) hb), Nat.min_eq_left (by omega)]
/-- what keeping an act changes in the class: the acts' rows and two fields -/
def FAc (σ τ : Mem) : Prop := (∀ x, x ≠ 0 → x < 178 ∨ 305 < x → τ.1 x = σ.1 x) ∧ (∀ x, x < 178 ∨ 305 < x → τ.2 x = σ.2 x) ∧ ∀ c, c ≠ 4 → c ≠ 5 → τ.1 0 c = σ.1 0 c
theorem c_beginAct {X : GR} {L : List GR} (hX : CB σ 1 X) (hL : CActs σ L) (h8 : L.length ≤ 8) : ∃ τ, f_X10_beginAct σ = some τ ∧ CActs τ (psh X L) ∧ FAc σ τ := by
  obtain ⟨hm, nxt, hn8, h5, hA⟩ := hL
  obtain ⟨r33, sa⟩ := SA_act hn8
  unfold f_X10_beginAct
  obtain ⟨σ3, e3, b3, f3⟩ := c_takeActed (σ := σ) SA_1 sa (by omega) hX
  have f30 : σ3.1 0 = σ.1 0 := (f3 0 (by omega)).1
  rw [e_gF, h5, e_gR ln_33 hn8 (by omega), r33, e3, e_bs, e_gF, f30, h5, e_nzI (by decide), i32_1, i32_add, i_mod8 (by omega), e_pF, e_gF, wI_1, if_neg (by omega), f30, hm, i32_add, i32_8, e_min (by omega) (by omega), e_bs, e_pF]
  refine ⟨_, rfl, ⟨?_, (nxt + 1) % 8, by omega, ?_, fun j Y hj => ?_⟩, fun x h0 hx => ?_, fun x hx => ?_, fun c h4 h5 => ?_⟩
  · rw [wI_1, if_pos ⟨rfl, rfl⟩, psh_len, Nat.min_comm]
  · rw [wI_1, if_neg (by omega), wI_1, if_pos ⟨rfl, rfl⟩]
  · have hj8 : j < 8 := by
      have := (List.getElem?_eq_some_iff.mp hj).1
      rw [psh_len] at this
      omega
    unfold psh at hj
    rw [List.getElem?_take, if_pos hj8] at hj
    have base : CB σ3 (cA ((nxt + 1) % 8) j) Y := by
      cases j with
      | zero =>
        cases hj
        have : cA ((nxt + 1) % 8) 0 = 178 + 16 * nxt := by unfold cA; omega
        rw [this]; exact b3
      | succ j =>
        rw [List.getElem?_cons_succ] at hj
        have h1 : cA ((nxt + 1) % 8) (j + 1) = cA nxt j := by unfold cA; omega
        have h2 : cA nxt j + 16 ≤ 178 + 16 * nxt ∨ 178 + 16 * nxt + 16 ≤ cA nxt j := by unfold cA; omega
        rw [h1]
        exact (hA j Y hj).eqs (fun x q1 q2 => (f3 x (by omega)).1) (fun x q1 q2 => (f3 x (by omega)).2)
    refine base.eqs (fun x q1 q2 => ?_) (fun x _ _ => rfl)
    have : x ≠ 0 := by omega
    funext y
    rw [wI_1, if_neg (fun z => this z.1), wI_1, if_neg (fun z => this z.1)]
  · have := (f3 x (by omega)).1
    rw [← this]
    funext y
    rw [wI_1, if_neg (fun z => h0 z.1), wI_1, if_neg (fun z => h0 z.1)]
  · rw [wI_2, wI_2, (f3 x (by omega)).2]
  · rw [wI_1, if_neg (fun z => h4 z.2), wI_1, if_neg (fun z => h5 z.2), f30]
/-! the reference -/
end AC

