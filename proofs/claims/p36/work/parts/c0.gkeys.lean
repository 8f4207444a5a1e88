/-! gaps: keys of halves, and sums kept by keys -/
section GK
variable {σ : Mem} {G : GD}
def dk (κ v : Nat) : Nat := κ / 4 ^ (11 - v) % 4
def pr (d : Nat → Nat) (x : Nat → Int) : Int := fo (· * ·) 1 (fun v => bn (d v) (x v)) 12
def Dok (G : GD) (d : Nat → Nat) : Prop := (∀ v, v < 12 → d v ≤ 2 ∧ (d v = 2 → gw G (v % 6) = 1)) ∧ nzc d 12 ≤ 3
def dsum (d : Nat → Nat) (n : Nat) : Nat := fo (· + ·) 0 d n
theorem ky_congr {d e : Nat → Nat} : ∀ n, (∀ v, v < n → d v = e v) → ky d n = ky e n
  | 0, _ => rfl
  | n + 1, h => by
    show 4 * ky d n + d n = 4 * ky e n + e n
    rw [ky_congr n (fun v hv => h v (by omega)), h n (by omega)]
theorem nzc_congr {d e : Nat → Nat} (n : Nat) (h : ∀ v, v < n → d v = e v) : nzc d n = nzc e n := fo_congr n (fun v hv => by rw [h v hv])
theorem pr_congr {d e : Nat → Nat} {x y : Nat → Int} (h : ∀ v, v < 12 → bn (d v) (x v) = bn (e v) (y v)) : pr d x = pr e y := fo_congr 12 h
theorem Dok.congr {d e : Nat → Nat} (hd : Dok G d) (h : ∀ v, v < 12 → d v = e v) : Dok G e := ⟨fun v hv => by rw [← h v hv]; exact hd.1 v hv, by rw [← nzc_congr 12 h]; exact hd.2⟩
theorem dk_ky {d : Nat → Nat} (hd : ∀ v, v < 12 → d v ≤ 3) {v : Nat} (hv : v < 12) : dk (ky d 12) v = d v := ky_get hd hv
/-- halves of a term: the left, the right where it is, the right on the left -/
def hL (d : Nat → Nat) (v : Nat) : Nat := if v < 6 then d v else 0
def hR (d : Nat → Nat) (v : Nat) : Nat := if v < 6 then 0 else d v
def hS (d : Nat → Nat) (v : Nat) : Nat := if v < 6 then d (v + 6) else 0
theorem fo_mulI {f g : Nat → Int} : ∀ n, fo (· * ·) 1 (fun v => f v * g v) n = fo (· * ·) 1 f n * fo (· * ·) 1 g n
  | 0 => rfl
  | n + 1 => by
    show fo (· * ·) 1 (fun v => f v * g v) n * (f n * g n) = fo (· * ·) 1 f n * f n * (fo (· * ·) 1 g n * g n)
    rw [fo_mulI n, Int.mul_assoc, Int.mul_assoc, Int.mul_left_comm (f n)]
theorem bn_0 (x : Int) : bn 0 x = 1 := rfl
theorem pr_halves (d : Nat → Nat) (x : Nat → Int) : pr (hL d) x * pr (hR d) x = pr d x := by
  unfold pr
  rw [← fo_mulI]
  refine fo_congr 12 (fun v _ => ?_)
  unfold hL hR
  by_cases h : v < 6
  · rw [if_pos h, if_pos h, bn_0, Int.mul_one]
  · rw [if_neg h, if_neg h, bn_0, Int.one_mul]
theorem one_fo {f : Nat → Int} : ∀ n, (∀ v, v < n → f v = 1) → fo (· * ·) 1 f n = 1
  | 0, _ => rfl
  | n + 1, h => by
    show fo (· * ·) 1 f n * f n = 1
    rw [one_fo n (fun v hv => h v (by omega)), h n (by omega)]; rfl
theorem pr_shift (d : Nat → Nat) (u w x y : Nat → Int) (hx : ∀ v, v < 6 → x v = w v) (hy : ∀ v, v < 6 → y (6 + v) = w v) : pr (hS d) x = pr (hR d) y := by
  unfold pr
  have e1 := fo_app (op := (· * ·)) (z := (1 : Int)) (fun a b c => Int.mul_assoc a b c) Int.mul_one (f := fun v => bn (hS d v) (x v)) 6 6
  have e2 := fo_app (op := (· * ·)) (z := (1 : Int)) (fun a b c => Int.mul_assoc a b c) Int.mul_one (f := fun v => bn (hR d v) (y v)) 6 6
  show fo _ _ _ (6 + 6) = fo _ _ _ (6 + 6)
  rw [e1, e2, one_fo 6 (f := fun i => bn (hS d (6 + i)) (x (6 + i))) (fun v hv => by show bn (hS d (6 + v)) _ = 1; unfold hS; rw [if_neg (by omega)]; rfl), one_fo 6 (f := fun v => bn (hR d v) (y v)) (fun v hv => by show bn (hR d v) _ = 1; unfold hR; rw [if_pos hv]; rfl)]
  show fo _ _ _ 6 * 1 = 1 * fo _ _ _ 6
  rw [Int.mul_one, Int.one_mul]
  refine fo_congr 6 (fun v hv => ?_)
  show bn (hS d v) (x v) = bn (hR d (6 + v)) (y (6 + v))
  unfold hS hR
  rw [if_pos hv, if_neg (by omega), hx v hv, hy v hv, Nat.add_comm v 6]
theorem fo_le {f g : Nat → Nat} : ∀ n, (∀ v, v < n → f v ≤ g v) → fo (· + ·) 0 f n ≤ fo (· + ·) 0 g n
  | 0, _ => Nat.le_refl _
  | n + 1, h => by
    show fo (· + ·) 0 f n + f n ≤ fo (· + ·) 0 g n + g n
    have := fo_le n (fun v hv => h v (by omega))
    have := h n (by omega)
    omega
theorem fo_nil {f : Nat → Nat} : ∀ n, (∀ v, v < n → f v = 0) → fo (· + ·) 0 f n = 0
  | 0, _ => rfl
  | n + 1, h => by
    show fo (· + ·) 0 f n + f n = 0
    rw [fo_nil n (fun v hv => h v (by omega)), h n (by omega)]
theorem nz_hL (d : Nat → Nat) : nzc (hL d) 12 ≤ nzc d 12 := fo_le 12 (fun v _ => by
  show (if hL d v = 0 then 0 else 1) ≤ (if d v = 0 then 0 else 1)
  unfold hL
  by_cases h : v < 6
  · rw [if_pos h]; exact Nat.le_refl _
  · rw [if_neg h, if_pos rfl]; exact Nat.zero_le _)
theorem nz_hR (d : Nat → Nat) : nzc (hR d) 12 ≤ nzc d 12 := fo_le 12 (fun v _ => by
  show (if hR d v = 0 then 0 else 1) ≤ (if d v = 0 then 0 else 1)
  unfold hR
  by_cases h : v < 6
  · rw [if_pos h, if_pos rfl]; exact Nat.zero_le _
  · rw [if_neg h]; exact Nat.le_refl _)
theorem hS_sum (f : Nat → Nat) (d : Nat → Nat) (h0 : f 0 = 0) : fo (· + ·) 0 (fun v => f (hS d v)) 12 ≤ fo (· + ·) 0 (fun v => f (d v)) 12 := by
  have e1 := fo_app (op := (· + ·)) (z := (0 : Nat)) (fun a b c => Nat.add_assoc a b c) Nat.add_zero (f := fun v => f (hS d v)) 6 6
  have e2 := fo_app (op := (· + ·)) (z := (0 : Nat)) (fun a b c => Nat.add_assoc a b c) Nat.add_zero (f := fun v => f (d v)) 6 6
  show fo _ _ _ (6 + 6) ≤ fo _ _ _ (6 + 6)
  rw [e1, e2, fo_nil 6 (f := fun i => f (hS d (6 + i))) (fun v _ => by show f (hS d (6 + v)) = 0; unfold hS; rw [if_neg (by omega), h0])]
  have e3 : fo (· + ·) 0 (fun v => f (hS d v)) 6 = fo (· + ·) 0 (fun i => f (d (6 + i))) 6 := fo_congr 6 (fun v hv => by unfold hS; rw [if_pos hv, Nat.add_comm v 6])
  show fo _ _ _ 6 + 0 ≤ fo _ _ _ 6 + fo _ _ _ 6
  rw [e3]; omega
theorem nz_hS (d : Nat → Nat) : nzc (hS d) 12 ≤ nzc d 12 := hS_sum (fun x => if x = 0 then 0 else 1) d rfl
theorem Dok.L {d : Nat → Nat} (h : Dok G d) : Dok G (hL d) := ⟨fun v hv => by
  unfold hL
  split
  · exact h.1 v hv
  · exact ⟨by omega, fun q => by omega⟩, Nat.le_trans (nz_hL d) h.2⟩
theorem Dok.R {d : Nat → Nat} (h : Dok G d) : Dok G (hR d) := ⟨fun v hv => by
  unfold hR
  split
  · exact ⟨by omega, fun q => by omega⟩
  · exact h.1 v hv, Nat.le_trans (nz_hR d) h.2⟩
theorem Dok.S {d : Nat → Nat} (h : Dok G d) : Dok G (hS d) := ⟨fun v hv => by
  unfold hS
  split
  · have := h.1 (v + 6) (by omega)
    rw [Nat.add_mod_right] at this
    exact this
  · exact ⟨by omega, fun q => by omega⟩, Nat.le_trans (nz_hS d) h.2⟩
/-- the keys that gaps can have -/
def KL : List Nat := ((List.range 4096).filter (fun m => decide (m / 1024 % 4 + m / 256 % 4 + m / 64 % 4 + m / 16 % 4 + m / 4 % 4 + m % 4 ≤ 3))).map (fun m => m * 4096)
theorem KL_len : KL.length = 84 := by decide +kernel
theorem ky6 {d : Nat → Nat} : ky d 6 = 1024 * d 0 + 256 * d 1 + 64 * d 2 + 16 * d 3 + 4 * d 4 + d 5 := by
  show 4 * (4 * (4 * (4 * (4 * (4 * 0 + d 0) + d 1) + d 2) + d 3) + d 4) + d 5 = _
  omega
theorem ky12 {d : Nat → Nat} : ky d 12 = 4096 * ky d 6 + (1024 * d 6 + 256 * d 7 + 64 * d 8 + 16 * d 9 + 4 * d 10 + d 11) := by
  show 4 * (4 * (4 * (4 * (4 * (4 * ky d 6 + d 6) + d 7) + d 8) + d 9) + d 10) + d 11 = _
  omega
theorem KL_mem {d : Nat → Nat} (h0 : ∀ v, 6 ≤ v → d v = 0) (h3 : dsum d 12 ≤ 3) : ky d 12 ∈ KL := by
  have hs : d 0 + d 1 + d 2 + d 3 + d 4 + d 5 ≤ 3 := by
    have e : dsum d 12 = 0 + d 0 + d 1 + d 2 + d 3 + d 4 + d 5 + d 6 + d 7 + d 8 + d 9 + d 10 + d 11 := rfl
    omega
  have e12 := ky12 (d := d)
  rw [h0 6 (by omega), h0 7 (by omega), h0 8 (by omega), h0 9 (by omega), h0 10 (by omega), h0 11 (by omega)] at e12
  have e6 := ky6 (d := d)
  unfold KL
  rw [List.mem_map]
  refine ⟨ky d 6, List.mem_filter.mpr ⟨List.mem_range.mpr (by omega), decide_eq_true ?_⟩, by omega⟩
  have hk : ∀ v, v < 6 → d v ≤ 3 := fun v hv => by
    rcases (show v = 0 ∨ v = 1 ∨ v = 2 ∨ v = 3 ∨ v = 4 ∨ v = 5 by omega) with z | z | z | z | z | z <;> subst z <;> omega
  have dig : ∀ j v, v + 1 + j = 6 → ky d 6 / 4 ^ j % 4 = d v := fun j v hv => by
    have h1 := ky_div (d := d) j (v + 1) (fun u hu => hk u (by omega))
    rw [hv] at h1
    have := hk v (by omega)
    rw [h1]
    show (4 * ky d v + d v) % 4 = d v
    omega
  have b0 : ky d 6 / 1024 % 4 = d 0 := dig 5 0 rfl
  have b1 : ky d 6 / 256 % 4 = d 1 := dig 4 1 rfl
  have b2 : ky d 6 / 64 % 4 = d 2 := dig 3 2 rfl
  have b3 : ky d 6 / 16 % 4 = d 3 := dig 2 3 rfl
  have b4 : ky d 6 / 4 % 4 = d 4 := dig 1 4 rfl
  have b5 : ky d 6 % 4 = d 5 := by
    have := dig 0 5 rfl
    rw [Nat.pow_zero, Nat.div_one] at this
    exact this
  rw [b0, b1, b2, b3, b4, b5]
  exact hs
theorem sub_len {A : List Nat} : ∀ {B : List Nat}, A.Nodup → (∀ x, x ∈ A → x ∈ B) → A.length ≤ B.length := by
  induction A with
  | nil => intro B _ _; exact Nat.zero_le _
  | cons a A ih =>
    intro B hn hs
    have ha : a ∈ B := hs a (List.mem_cons_self ..)
    have h2 := List.nodup_cons.mp hn
    have h3 := ih (B := B.erase a) h2.2 (fun x hx => by
      refine (List.mem_erase_of_ne (fun q => h2.1 (by rw [← q]; exact hx))).mpr (hs x (List.mem_cons_of_mem _ hx)))
    rw [List.length_erase_of_mem ha] at h3
    have : 0 < B.length := List.length_pos_of_mem ha
    rw [List.length_cons]
    omega
/-- a sum kept in rows from a on -/
def GS (σ : Mem) (a : Nat) (N : List (Nat × Int)) : Prop := σ.1 a 0 = i32 N.length ∧ ∀ (t : Nat) (p : Nat × Int), N[t]? = some p → σ.1 (a + 1) t = i32 p.1 ∧ σ.2 (a + 2) t = oi p.2 ∧ σ.1 (a + 3) t = i32 (pl (dk p.1) 12)
def nsm (g : Nat → Int) : List (Nat × Int) → Int
  | [] => 0
  | p :: N => p.2 * g p.1 + nsm g N
theorem nsm_app {g : Nat → Int} : ∀ A B : List (Nat × Int), nsm g (A ++ B) = nsm g A + nsm g B
  | [], B => by show nsm g B = 0 + nsm g B; omega
  | p :: A, B => by
    show p.2 * g p.1 + nsm g (A ++ B) = p.2 * g p.1 + nsm g A + nsm g B
    rw [nsm_app A B]; omega
theorem nsm_set {g : Nat → Int} : ∀ (N : List (Nat × Int)) (t κ : Nat) (z w : Int), N[t]? = some (κ, z) → nsm g (N.set t (κ, z + w)) = nsm g N + w * g κ
  | [], t, κ, z, w, h => by simp at h
  | p :: N, 0, κ, z, w, h => by
    have : p = (κ, z) := Option.some.inj h
    subst this
    show (z + w) * g κ + nsm g N = z * g κ + nsm g N + w * g κ
    rw [Int.add_mul]; omega
  | p :: N, t + 1, κ, z, w, h => by
    show p.2 * g p.1 + nsm g (N.set t (κ, z + w)) = p.2 * g p.1 + nsm g N + w * g κ
    rw [nsm_set N t κ z w h]; omega
def KOK (G : GD) (κ : Nat) : Prop := Dok G (dk κ) ∧ ky (dk κ) 12 = κ ∧ κ ∈ KL ∧ κ < 4 ^ 12
theorem KOK_of {d : Nat → Nat} (hd : Dok G d) (h0 : ∀ v, 6 ≤ v → d v = 0) (h3 : dsum d 12 ≤ 3) : KOK G (ky d 12) := by
  have hk : ∀ v, v < 12 → d v ≤ 3 := fun v hv => by have := (hd.1 v hv).1; omega
  exact ⟨hd.congr (fun v hv => (dk_ky hk hv).symm), ky_congr 12 (fun v hv => dk_ky hk hv), KL_mem h0 h3, ky_lt 12 hk⟩
/-- a place for a sum: a, its rows of 455 -/
def SP (a : Nat) : Prop := rf a 1 = a + 1 ∧ rf a 2 = a + 2 ∧ rf a 3 = a + 3 ∧ ln (a + 1) = 455 ∧ ln (a + 2) = 455 ∧ ln (a + 3) = 455
theorem SP_gap {k : Nat} (h : k < 6) : SP (104 + 4 * k) ∧ rf 99 k = 104 + 4 * k := by
  have h1 : (List.range 6).all (fun k => rf (104 + 4 * k) 1 == 104 + 4 * k + 1 && (rf (104 + 4 * k) 2 == 104 + 4 * k + 2 && (rf (104 + 4 * k) 3 == 104 + 4 * k + 3 && (ln (104 + 4 * k + 1) == 455 && (ln (104 + 4 * k + 2) == 455 && (ln (104 + 4 * k + 3) == 455 && rf 99 k == 104 + 4 * k)))))) = true := by decide +kernel
  have h2 := List.all_eq_true.mp h1 k (List.mem_range.mpr h)
  simp only [Bool.and_eq_true, beq_iff_eq] at h2
  exact ⟨⟨h2.1, h2.2.1, h2.2.2.1, h2.2.2.2.1, h2.2.2.2.2.1, h2.2.2.2.2.2.1⟩, h2.2.2.2.2.2.2⟩
def FSa (a : Nat) (σ τ : Mem) : Prop := (∀ x, x ≠ a → x ≠ a + 1 → x ≠ a + 3 → τ.1 x = σ.1 x) ∧ ∀ x, x ≠ a + 2 → τ.2 x = σ.2 x
theorem FSa.refl {a : Nat} : FSa a σ σ := ⟨fun _ _ _ _ => rfl, fun _ _ => rfl⟩
theorem FSa.trans {a : Nat} {τ υ : Mem} (h : FSa a σ τ) (k : FSa a τ υ) : FSa a σ υ := ⟨fun x h1 h2 h3 => (k.1 x h1 h2 h3).trans (h.1 x h1 h2 h3), fun x h1 => (k.2 x h1).trans (h.2 x h1)⟩
def NOK (G : GD) (N : List (Nat × Int)) : Prop := (∀ p, p ∈ N → KOK G p.1) ∧ (N.map (fun p => p.1)).Nodup
theorem NOK.len {N : List (Nat × Int)} (h : NOK G N) : N.length ≤ 84 := by
  have := sub_len (B := KL) h.2 (fun x hx => by
    obtain ⟨p, hp, rfl⟩ := List.mem_map.mp hx
    exact (h.1 p hp).2.2.1)
  rw [List.length_map, KL_len] at this
  exact this
theorem c_appendN {a κ : Nat} {z : Int} {N : List (Nat × Int)} (sp : SP a) (hS : GS σ a N) (hN : NOK G N) (hκ : KOK G κ) (hnew : ∀ p, p ∈ N → p.1 ≠ κ) : ∃ τ, f_X9_append σ a (i32 κ) (oi z) = some τ ∧ FSa a σ τ ∧ GS τ a (N ++ [(κ, z)]) ∧ NOK G (N ++ [(κ, z)]) := by
  have hl := hN.len
  obtain ⟨r1, r2, r3, l1, l2, l3⟩ := sp
  have hpl : ∀ τ : Mem, f_X9_placesOf τ (i32 κ) = some (i32 (pl (dk κ) 12)) := fun τ => by
    have := c_placesOf (σ := τ) (d := dk κ) (fun u hu => by have := (hκ.1.1 u hu).1; omega) hκ.1.2
    rw [hκ.2.1] at this
    exact this
  have n1 : ¬ (455 : Int32) ≤ i32 N.length := by rw [show (455 : Int32) = i32 455 from rfl]; exact i_nle (by omega) (by omega)
  unfold f_X9_append
  rw [e_gF, hS.1, if_neg n1, e_gF, hS.1, r1, e_pI l1 (by omega) (by omega), e_gF, wI_1, if_neg (by omega), hS.1, r2, e_pL l2 (by omega) (by omega), e_gF, wL_1, wI_1, if_neg (by omega), hS.1, hpl, e_bs, r3, e_pI l3 (by omega) (by omega), e_gF, wI_1, if_neg (by omega), wL_1, wI_1, if_neg (by omega), hS.1, i32_1, i32_add, e_pF]
  refine ⟨_, rfl, ⟨fun x h1 h2 h3 => ?_, fun x hx => ?_⟩, ⟨?_, fun t p hp => ?_⟩, ⟨fun p hp => ?_, ?_⟩⟩
  · funext y
    rw [wI_1, if_neg (fun z => h1 z.1), wI_1, if_neg (fun z => h3 z.1), wL_1, wI_1, if_neg (fun z => h2 z.1)]
  · funext y
    rw [wI_2, wI_2, wL_2, if_neg (fun z => hx z.1), wI_2]
  · rw [wI_1, if_pos ⟨rfl, rfl⟩, List.length_append, List.length_singleton]
  · by_cases h5 : t < N.length
    · rw [List.getElem?_append_left h5] at hp
      have := hS.2 t p hp
      refine ⟨?_, ?_, ?_⟩
      · rw [wI_1, if_neg (by omega), wI_1, if_neg (by omega), wL_1, wI_1, if_neg (by omega)]; exact this.1
      · rw [wI_2, wI_2, wL_2, if_neg (by omega), wI_2]; exact this.2.1
      · rw [wI_1, if_neg (by omega), wI_1, if_neg (by omega), wL_1, wI_1, if_neg (by omega)]; exact this.2.2
    · rw [List.getElem?_append_right (by omega)] at hp
      obtain ⟨hq3, _⟩ := (List.getElem?_eq_some_iff.mp hp)
      rw [List.length_singleton] at hq3
      have hte : t = N.length := by omega
      subst hte
      have hpe : p = (κ, z) := by
        rw [Nat.sub_self] at hp
        exact (Option.some.inj hp).symm
      subst hpe
      refine ⟨?_, ?_, ?_⟩
      · rw [wI_1, if_neg (by omega), wI_1, if_neg (by omega), wL_1, wI_1, if_pos ⟨rfl, rfl⟩]
      · rw [wI_2, wI_2, wL_2, if_pos ⟨rfl, rfl⟩]
      · rw [wI_1, if_neg (by omega), wI_1, if_pos ⟨rfl, rfl⟩]
  · rw [List.mem_append, List.mem_singleton] at hp
    rcases hp with hp | hp
    · exact hN.1 p hp
    · rw [hp]; exact hκ
  · rw [List.map_append, List.nodup_append]
    refine ⟨hN.2, by simp, fun x hx y hy => ?_⟩
    obtain ⟨p, hp, rfl⟩ := List.mem_map.mp hx
    have : y = κ := by simpa using hy
    rw [this]
    exact hnew p hp
theorem c_merge {a κ : Nat} {z : Int} {N : List (Nat × Int)} (sp : SP a) (hS : GS σ a N) (hN : NOK G N) (hκ : KOK G κ) : ∃ τ N', f_X9_merge σ a (i32 κ) (oi z) = some τ ∧ FSa a σ τ ∧ GS τ a N' ∧ NOK G N' ∧ ∀ g, oi (nsm g N') = oi (nsm g N + z * g κ) := by
  have hl := hN.len
  have sp' := sp
  obtain ⟨r1, r2, r3, l1, l2, l3⟩ := sp
  unfold f_X9_merge
  by_cases hz : oi z = 0
  · rw [if_pos hz]
    exact ⟨σ, N, rfl, FSa.refl, hS, hN, fun g => by rw [← oi_add, ← oi_mul, hz, Int64.zero_mul, Int64.add_zero]⟩
  rw [if_neg hz]
  have hloop := loop_inv (body := fun (z5 : Int32) => l_X9_merge_10 σ a (i32 κ) z5) (fun n s => ∃ t, t ≤ N.length ∧ n = N.length - t ∧ s = i32 t ∧ ∀ (q : Nat) (p : Nat × Int), q < t → N[q]? = some p → p.1 ≠ κ) (fun r => (r = Sum.inr (Sum.inl ()) ∧ ∀ p, p ∈ N → p.1 ≠ κ) ∨ ∃ (t : Nat) (w : Int), N[t]? = some (κ, w) ∧ r = Sum.inl (i32 t)) ?_ N.length 0 ⟨0, by omega, rfl, rfl, fun q p hq => absurd hq (Nat.not_lt_zero _)⟩
  · obtain ⟨r, e, hc⟩ := hloop
    rw [e, e_bs]
    rcases hc with ⟨rfl, hnew⟩ | ⟨t, w, ht, rfl⟩
    · obtain ⟨τ, e2, f2, g2, n2⟩ := c_appendN (z := z) sp' hS hN hκ hnew
      refine ⟨τ, _, ?_, f2, g2, n2, fun g => ?_⟩
      · show (some (Sum.inl ()) : Option (Unit ⊕ Mem)).bind (Sum.elim (fun (z0 : Unit) => j_X9_merge_48 σ a (i32 κ) (oi z)) some) = _
        rw [e_bs]
        show j_X9_merge_48 σ a (i32 κ) (oi z) = _
        unfold j_X9_merge_48
        rw [e2, e_bs]
      · rw [nsm_app]
        show oi (nsm g N + (z * g κ + 0)) = _
        rw [Int.add_zero]
    · have htl : t < N.length := (List.getElem?_eq_some_iff.mp ht).1
      have hrow := hS.2 t _ ht
      refine ⟨wL σ (a + 2) t (oi w + oi z), N.set t (κ, w + z), ?_, ⟨fun x _ _ _ => rfl, fun x hx => by funext y; rw [wL_2, if_neg (fun q => hx q.1)]⟩, ⟨?_, fun q p hq => ?_⟩, ⟨fun p hp => ?_, ?_⟩, fun g => congrArg oi (nsm_set N t κ w z ht)⟩
      · show ((j_X9_merge_30 σ a (oi z) (i32 t)) : Option (Unit ⊕ Mem)).bind (Sum.elim (fun (z0 : Unit) => j_X9_merge_48 σ a (i32 κ) (oi z)) some) = _
        unfold j_X9_merge_30
        rw [r2, e_gL l2 (by omega) (by omega), hrow.2.1, e_pL l2 (by omega) (by omega), e_bs]
        rfl
      · rw [List.length_set]; exact hS.1
      · rw [List.getElem?_set] at hq
        by_cases hqt : t = q
        · subst hqt
          rw [if_pos rfl, if_pos htl] at hq
          have : p = (κ, w + z) := (Option.some.inj hq).symm
          subst this
          refine ⟨hrow.1, ?_, hrow.2.2⟩
          rw [wL_2, if_pos ⟨rfl, rfl⟩, oi_add]
        · rw [if_neg hqt] at hq
          have := hS.2 q p hq
          refine ⟨this.1, ?_, this.2.2⟩
          rw [wL_2, if_neg (fun q => hqt q.2.symm)]
          exact this.2.1
      · rcases List.mem_or_eq_of_mem_set hp with h | h
        · exact hN.1 p h
        · rw [h]; exact hκ
      · have : (N.set t (κ, w + z)).map (fun p => p.1) = N.map (fun p => p.1) := by
          rw [List.map_set]
          refine List.ext_getElem? (fun i => ?_)
          rw [List.getElem?_set, List.getElem?_map]
          by_cases hti : t = i
          · subst hti
            rw [if_pos rfl, if_pos (by rw [List.length_map]; exact htl), ht]
            rfl
          · rw [if_neg hti]
        rw [this]
        exact hN.2
  · rintro n s ⟨t, ht, rfl, rfl, hd⟩
    by_cases htn : t = N.length
    · right
      subst htn
      refine ⟨_, ?_, Or.inl ⟨rfl, fun p hp => ?_⟩⟩
      · unfold l_X9_merge_10
        rw [e_gF, hS.1, if_pos (i_le (Nat.le_refl _) (by omega))]
      · obtain ⟨q, hq, rfl⟩ := List.mem_iff_getElem.mp hp
        exact hd q _ hq (List.getElem?_eq_getElem hq)
    · have ht1 : t < N.length := by omega
      have hget : N[t]? = some N[t] := List.getElem?_eq_getElem ht1
      have hrow := hS.2 t _ hget
      have hk1 := (hN.1 N[t] (List.getElem_mem ht1)).2.2.2
      have hbody : l_X9_merge_10 σ a (i32 κ) (i32 t) = if i32 N[t].1 = i32 κ then some (Sum.inr (Sum.inl (i32 t))) else some (Sum.inl (i32 t + 1)) := by
        unfold l_X9_merge_10
        rw [e_gF, hS.1, if_neg (i_nle ht1 (by omega)), r1, e_gI l1 (by omega) (by omega), hrow.1]
      have hk2 := hκ.2.2.2
      by_cases he : N[t].1 = κ
      · right
        refine ⟨Sum.inl (i32 t), ?_, Or.inr ⟨t, N[t].2, ?_, rfl⟩⟩
        · rw [hbody, he, if_pos rfl]
        · rw [hget, ← he]
      · left
        refine ⟨i32 (t + 1), N.length - (t + 1), by omega, ?_, t + 1, by omega, rfl, rfl, fun q p hq hp => ?_⟩
        · rw [hbody, if_neg (i_ne he (by omega) (by omega)), i32_1, i32_add]
        · by_cases hqt : q = t
          · subst hqt
            rw [hget] at hp
            rw [← Option.some.inj hp]
            exact he
          · exact hd q p (by omega) hp
end GK
