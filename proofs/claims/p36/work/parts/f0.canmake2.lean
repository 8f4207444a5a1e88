/-! the reference: whether what is due can be made -/
section CM2
variable {σ : Mem}
theorem r_canMake {C0 : Nat → Nat → Int} {d0 : Nat → Int} {m : Nat} {Bd : Nat → Nat → (Nat → Nat → Int) → (Nat → Int) → Prop} (hm : m ≤ 20) (hC : Cl σ C0 m) (hd : Du σ d0) (h31 : σ.1 306 31 = i32 m) (hB : ∀ k f C d, k < 6 → Alg C0 d0 m k f C d → Bd k f C d → (∀ c, f ≤ c → c < m → Wi (2 ^ 62) (C c k)) ∧ Wi (2 ^ 62) (d k) ∧ ∀ D d' pv, Cln m f k C D → Clo m f k C D d true pv d' → Bd (k + 1) (f + if pv = true then 1 else 0) D d') (h0 : Bd 0 0 C0 d0) : ∃ b τ, f_X11_canMake σ = some (b, τ) ∧ FCm σ τ ∧ (b = true → ∃ f C d, τ.1 306 34 = i32 f ∧ Cl τ C m ∧ Du τ d ∧ Alg C0 d0 m 6 f C d ∧ Bd 6 f C d) ∧ (b = false → ¬ Spn (fun j => j < 6) C0 m d0) := by
  unfold f_X11_canMake
  rw [e_pF]
  have hl := loop_inv (body := fun (z3 : (Mem × Int32)) => l_X11_canMake_7 z3.1 z3.2) (fun n z => ∃ k f C d τ, k ≤ 6 ∧ n = 6 - k ∧ z = (τ, i32 k) ∧ FCm σ τ ∧ τ.1 306 34 = i32 f ∧ Cl τ C m ∧ Du τ d ∧ Alg C0 d0 m k f C d ∧ Bd k f C d) (fun x => ∃ b τ, x = (b, τ) ∧ FCm σ τ ∧ (b = true → ∃ f C d, τ.1 306 34 = i32 f ∧ Cl τ C m ∧ Du τ d ∧ Alg C0 d0 m 6 f C d ∧ Bd 6 f C d) ∧ (b = false → ¬ Spn (fun j => j < 6) C0 m d0)) ?_ 6 (wI σ 306 34 0, 0) ⟨0, 0, C0, d0, wI σ 306 34 0, by omega, rfl, rfl, FCm.fld (by omega), by rw [wI_1, if_pos ⟨rfl, rfl⟩]; rfl, hC, hd, Alg.start, h0⟩
  · obtain ⟨x, e, b, τ, rfl, h1, h2, h3⟩ := hl
    exact ⟨b, τ, e, h1, h2, h3⟩
  · rintro n z ⟨k, f, C, d, τ, hk, rfl, rfl, fr, h34, hC, hd, hA, hBd⟩
    by_cases hk6 : k = 6
    · right
      subst hk6
      refine ⟨_, ?_, true, τ, rfl, fr, fun _ => ⟨f, C, d, h34, hC, hd, hA, hBd⟩, fun q => absurd q (by decide)⟩
      show l_X11_canMake_7 τ (i32 6) = _
      unfold l_X11_canMake_7
      rw [if_pos (by decide)]
    · have hk' : k < 6 := by omega
      obtain ⟨hX, hdk, hnext⟩ := hB k f C d hk' hA hBd
      have hfm : f ≤ m := hA.1
      have g31 : (wI τ 306 33 0).1 306 31 = i32 m := by rw [wI_1, if_neg (by omega), fr.2.1 31 (by omega) (by omega)]; exact h31
      have g34 : (wI τ 306 33 0).1 306 34 = i32 f := by rw [wI_1, if_neg (by omega)]; exact h34
      have g33 : (wI τ 306 33 0).1 306 33 = 0 := by rw [wI_1, if_pos ⟨rfl, rfl⟩]
      obtain ⟨b, pv, τ2, D, d', e, fr2, q34, q33, hD, hcl, hdu, hclo⟩ := r_clearsAt (σ := wI τ 306 33 0) (C := C) (d := d) (f := f) (k := k) hm hfm (by omega) hC hd g31 g33 hX hdk
      have FR : FCm σ τ2 := fr.trans ((FCm.fld (by omega)).trans fr2)
      have h6 : ¬ 6 ≤ i32 k := i_nle (a := 6) hk' (by omega)
      cases b with
      | false =>
        right
        refine ⟨(false, τ2), ?_, false, τ2, rfl, FR, fun q => absurd q (by decide), fun _ => hA.fail hk' hcl hclo⟩
        show l_X11_canMake_7 τ (i32 k) = _
        unfold l_X11_canMake_7
        rw [if_neg h6, e_pF, e_gF, g34, e, e_bq, if_neg (by decide)]
      | true =>
        left
        have hA2 := hA.step hk' hcl hclo
        have hB2 := hnext D d' pv hcl hclo
        rw [g34] at q34
        cases pv with
        | true =>
          rw [if_pos rfl] at hA2 hB2
          have FR3 : FCm σ (wI τ2 306 34 (i32 (f + 1))) := FR.trans (FCm.fld (by omega))
          refine ⟨(wI τ2 306 34 (i32 (f + 1)), i32 (k + 1)), 6 - (k + 1), by omega, ?_, k + 1, f + 1, D, d', _, by omega, rfl, rfl, FR3, by rw [wI_1, if_pos ⟨rfl, rfl⟩], hD, hdu rfl, hA2, hB2⟩
          show l_X11_canMake_7 τ (i32 k) = _
          unfold l_X11_canMake_7
          rw [if_neg h6, e_pF, e_gF, g34, e, e_bq, if_pos rfl, e_gZ q33, if_pos rfl, e_gF, q34, e_pF, e_bs, i32_1, i32_add]
          unfold j_X11_canMake_49
          rw [i32_1, i32_add]
        | false =>
          rw [if_neg (by decide), Nat.add_zero] at hA2 hB2
          refine ⟨(τ2, i32 (k + 1)), 6 - (k + 1), by omega, ?_, k + 1, f, D, d', _, by omega, rfl, rfl, FR, q34, hD, hdu rfl, hA2, hB2⟩
          show l_X11_canMake_7 τ (i32 k) = _
          unfold l_X11_canMake_7
          rw [if_neg h6, e_pF, e_gF, g34, e, e_bq, if_pos rfl, e_gZ q33, if_neg (by decide), e_bs]
          unfold j_X11_canMake_49
          rw [i32_1, i32_add]
/-- bounds that grow by each number that is cleared -/
def bdB (B : Nat → Int) : Nat → Nat → Int
  | 0, j => B j
  | k + 1, j => bdB B k j * (1 + 2 * bdB B k k)
def bdD (B D : Nat → Int) : Nat → Nat → Int
  | 0, j => D j
  | k + 1, j => bdD B D k j + bdD B D k k * bdB B (k + 1) j
theorem bdB_nn {B : Nat → Int} (h : ∀ j, 0 ≤ B j) : ∀ k j, 0 ≤ bdB B k j
  | 0, j => h j
  | k + 1, j => Int.mul_nonneg (bdB_nn h k j) (by have := bdB_nn h k k; omega)
theorem bdD_nn {B D : Nat → Int} (h : ∀ j, 0 ≤ B j) (g : ∀ j, 0 ≤ D j) : ∀ k j, 0 ≤ bdD B D k j
  | 0, j => g j
  | k + 1, j => Int.add_nonneg (bdD_nn h g k j) (Int.mul_nonneg (bdD_nn h g k k) (bdB_nn h (k + 1) j))
/-- a stage within the bounds that grow -/
def Bgr (B D : Nat → Int) (m k f : Nat) (C : Nat → Nat → Int) (d : Nat → Int) : Prop := (∀ c, f ≤ c → c < m → ∀ j, j < 6 → Wi (bdB B k j) (C c j)) ∧ ∀ j, j < 6 → Wi (bdD B D k j) (d j)
theorem cross_wi {A B x y u v : Int} (h1 : Wi A x) (h2 : Wi A y) (h3 : Wi B u) (h4 : Wi B v) : Wi (2 * A * B) (x * v - y * u) := by
  have := (h1.mul h4).sub (h2.mul h3)
  refine this.mono ?_
  have e : 2 * A * B = A * B + A * B := by grind
  omega
theorem Bgr.next {B D0 : Nat → Int} {m k f : Nat} {C D : Nat → Nat → Int} {d d' : Nat → Int} {pv : Bool} (hB : ∀ j, 0 ≤ B j) (hD0 : ∀ j, 0 ≤ D0 j) (hk : k < 6) (h : Bgr B D0 m k f C d) (hc : Cln m f k C D) (ho : Clo m f k C D d true pv d') : Bgr B D0 m (k + 1) (f + if pv = true then 1 else 0) D d' := by
  have nB := bdB_nn hB
  have nD := bdD_nn hB hD0
  have hCj : ∀ j, j < 6 → ∀ c, f ≤ c → c < m → Wi (bdB B (k + 1) j) (D c j) := fun j hj => by
    have b1 := nB k j
    have b2 := nB k k
    have e : bdB B (k + 1) j = bdB B k j + 2 * bdB B k k * bdB B k j := by
      show bdB B k j * (1 + 2 * bdB B k k) = _
      grind
    have p := Int.mul_nonneg (Int.mul_nonneg (show (0 : Int) ≤ 2 by omega) b2) b1
    refine (hc.wi (j := j) (B := bdB B (k + 1) j) (fun c c1 c2 => (h.1 c c1 c2 j hj).mono (by omega)) (fun c e2 c1 c2 e1 e3 => (cross_wi (h.1 c c1 c2 k hk) (h.1 e2 e1 e3 k hk) (h.1 c c1 c2 j hj) (h.1 e2 e1 e3 j hj)).mono (by omega))).1
  refine ⟨fun c c1 c2 j hj => hCj j hj c (by omega) c2, fun j hj => ?_⟩
  have e : bdD B D0 (k + 1) j = bdD B D0 k j + bdD B D0 k k * bdB B (k + 1) j := rfl
  rcases ho with ⟨_, _, _, rfl⟩ | ⟨_, a1, a2, _, _, a5⟩
  · have := Int.mul_nonneg (nD k k) (nB (k + 1) j)
    exact (h.2 j hj).mono (by omega)
  · rw [a5 rfl, e]
    have hw := h.2 k hk
    have hq : ((d k).tdiv (D f k)).natAbs ≤ (d k).natAbs := by
      rw [Int.natAbs_tdiv]
      exact Nat.div_le_self _ _
    have wq : Wi (bdD B D0 k k) ((d k).tdiv (D f k)) := ⟨by have := hw.1; have := hw.2; omega, by have := hw.1; have := hw.2; omega⟩
    exact (h.2 j hj).sub (wq.mul (hCj j hj f (Nat.le_refl _) a1))
/-- making, where the bounds that grow suffice -/
theorem r_canMakeB {C0 : Nat → Nat → Int} {d0 B D : Nat → Int} {m : Nat} (hm : m ≤ 20) (hC : Cl σ C0 m) (hd : Du σ d0) (h31 : σ.1 306 31 = i32 m) (hB : ∀ j, 0 ≤ B j) (hD : ∀ j, 0 ≤ D j) (hCB : ∀ c, c < m → ∀ j, j < 6 → Wi (B j) (C0 c j)) (hdD : ∀ j, j < 6 → Wi (D j) (d0 j)) (hfit : ∀ k, k < 6 → bdB B k k ≤ 2 ^ 62 ∧ bdD B D k k ≤ 2 ^ 62) : ∃ b τ, f_X11_canMake σ = some (b, τ) ∧ FCm σ τ ∧ (b = true → ∃ f C d, τ.1 306 34 = i32 f ∧ Cl τ C m ∧ Du τ d ∧ Alg C0 d0 m 6 f C d ∧ Bgr B D m 6 f C d) ∧ (b = false → ¬ Spn (fun j => j < 6) C0 m d0) := by
  refine r_canMake (Bd := Bgr B D m) hm hC hd h31 (fun k f C d hk _ h => ?_) ⟨fun c _ c2 j hj => hCB c c2 j hj, hdD⟩
  exact ⟨fun c c1 c2 => (h.1 c c1 c2 k hk).mono (hfit k hk).1, (h.2 k hk).mono (hfit k hk).2, fun D d' pv hc ho => h.next hB hD hk hc ho⟩
theorem Alg.made {C0 C : Nat → Nat → Int} {d0 d : Nat → Int} {m f : Nat} (h : Alg C0 d0 m 6 f C d) : Spn (fun j => j < 6) C0 m d0 := by
  obtain ⟨_, _, _, _, h5, z, hz⟩ := h
  refine ⟨z, fun j hj => ?_⟩
  have := hz j (by omega)
  rw [← this]
  show d0 j = d0 j - d j
  rw [h5 j hj, Int.sub_zero]
end CM2
