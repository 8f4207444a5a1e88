/-! the class's terms at a point -/
section AP
variable {G : GD} {σ : Mem}
/-- a point's word -/
def pwd (d : Nat → Nat) (n : Nat) : List Nat := fo (fun (a b : List Nat) => a ++ b) [] (fun v => List.replicate (d v) (v % 6)) n
theorem wd_succ {d : Nat → Nat} {n : Nat} : pwd d (n + 1) = pwd d n ++ List.replicate (d n) (n % 6) := rfl
theorem wordU_fo {b : Nat → Nat} : ∀ K, wordU b K = fo (fun (a b : List Nat) => a ++ b) [] (fun i => List.replicate (b i) i) K := by
  intro K
  induction K with
  | zero => rfl
  | succ K ih =>
    show wordU b K ++ List.replicate (b K) K = fo _ _ _ K ++ List.replicate (b K) K
    rw [ih]
theorem wd12 (hG : GOK G) {e : List Nat} : pwd (dg G e) 12 = wordU (fun i => e.getD i 0) (gn G) ++ wordU (fun i => e.getD (gn G + i) 0) (gn G) := by
  have hn := hG.2.1
  unfold pwd
  rw [fo12 hG (op := fun (a b : List Nat) => a ++ b) List.append_assoc List.append_nil (fun v hv h => by rw [dg_out hv h]; rfl), wordU_fo, wordU_fo]
  have h1 := fo_app (op := fun (a b : List Nat) => a ++ b) (z := []) List.append_assoc List.append_nil (f := fun p => List.replicate (dg G e (vp G p)) (vp G p % 6)) (gn G) (gn G)
  rw [show gn G + gn G = 2 * gn G by omega] at h1
  rw [h1]
  congr 1
  · exact fo_congr _ (fun i hi => by rw [dg_vp hG (by omega)]; unfold vp; rw [if_pos hi, Nat.mod_eq_of_lt (by omega)])
  · exact fo_congr _ (fun i hi => by rw [dg_vp hG (by omega)]; unfold vp; rw [if_neg (by omega), show (6 + (gn G + i - gn G)) % 6 = i by omega])
theorem wd_len {d : Nat → Nat} : ∀ n, (pwd d n).length = fo (· + ·) 0 d n := by
  intro n
  induction n with
  | zero => rfl
  | succ n ih =>
    rw [wd_succ, List.length_append, List.length_replicate, ih]
    rfl
theorem wd_mono {d : Nat → Nat} : ∀ j n, (pwd d n).length ≤ (pwd d (n + j)).length := by
  intro j
  induction j with
  | zero => intro n; exact Nat.le_refl _
  | succ j ih =>
    intro n
    have := ih n
    rw [show n + (j + 1) = (n + j) + 1 by omega, wd_succ, List.length_append]
    omega
theorem deg_wt : ∀ (W e : List Nat), (∀ w, w ∈ W → 1 ≤ w) → e.length = W.length → fo (· + ·) 0 (fun p => e.getD p 0) e.length ≤ pwt W e := by
  intro W
  induction W with
  | nil =>
    intro e _ hl
    have : e = [] := List.length_eq_zero_iff.mp hl
    subst this; exact Nat.le_refl 0
  | cons w W ih =>
    intro e hw hl
    cases e with
    | nil => simp at hl
    | cons d e =>
      have h1 := ih e (fun x hx => hw x (List.mem_cons_of_mem _ hx)) (by simpa using hl)
      have h2 := hw w (List.mem_cons_self ..)
      rw [List.length_cons, fo_front (fun a b c => Nat.add_assoc a b c) Nat.add_zero Nat.zero_add]
      show d + fo (· + ·) 0 (fun i => (d :: e).getD (i + 1) 0) e.length ≤ d * w + pwt W e
      have h3 : (fun i => (d :: e).getD (i + 1) 0) = fun i => e.getD i 0 := funext (fun i => by rw [List.getD_cons_succ])
      have h4 := Nat.le_mul_of_pos_right d h2
      rw [h3]
      omega
theorem wd_len3 (hG : GOK G) {L : Nat} {e : List Nat} (he : e ∈ pts (wl G) L) : (pwd (dg G e) 12).length ≤ L := by
  have h1 := (pts_mem _ _ _ (wl_pos hG)).mp he
  have h2 := deg_wt (wl G) e (wl_pos hG) h1.1
  rw [wd_len, fo12 hG (fun a b c => Nat.add_assoc a b c) Nat.add_zero (fun v hv h => dg_out hv h)]
  rw [h1.1, wl_len] at h2
  have e1 : fo (· + ·) 0 (fun p => dg G e (vp G p)) (2 * gn G) = fo (· + ·) 0 (fun p => e.getD p 0) (2 * gn G) := fo_congr _ (fun p hp => dg_vp hG hp)
  exact Nat.le_trans (Nat.le_of_eq e1) (Nat.le_trans h2 h1.2)
theorem wd_col (hG : GOK G) {w : List Nat} (hl : w.length ≤ 3) (hm : ∀ x, x ∈ w → x < gn G) : ∃ S e, col G 1000 [] w 0 = some (S, e) := by
  have h1 := hG.1
  have key : ∃ a b c, a < gn G ∧ b < gn G ∧ c < gn G ∧ w.Sublist [a, b, c] := by
    match w, hl, hm with
    | [], _, _ => exact ⟨0, 0, 0, by omega, by omega, by omega, List.nil_sublist _⟩
    | [a], _, hm => exact ⟨a, 0, 0, hm a (List.mem_cons_self ..), by omega, by omega, (List.nil_sublist _).cons₂ a⟩
    | [a, b], _, hm => exact ⟨a, b, 0, hm a (List.mem_cons_self ..), hm b (List.mem_cons_of_mem _ (List.mem_cons_self ..)), by omega, ((List.nil_sublist _).cons₂ b).cons₂ a⟩
    | [a, b, c], _, hm => exact ⟨a, b, c, hm a (List.mem_cons_self ..), hm b (List.mem_cons_of_mem _ (List.mem_cons_self ..)), hm c (List.mem_cons_of_mem _ (List.mem_cons_of_mem _ (List.mem_cons_self ..))), List.Sublist.refl _⟩
    | _ :: _ :: _ :: _ :: _, hl, _ => simp only [List.length_cons] at hl; omega
  obtain ⟨a, b, c, ha, hb, hc, hs⟩ := key
  exact col_three hG ha hb hc hs (by omega)
theorem ints_getD {e : List Nat} {p : Nat} : (ints e).getD p 0 = (e.getD p 0 : Int) := by
  unfold ints
  rw [List.getD_eq_getElem?_getD, List.getElem?_map, List.getD_eq_getElem?_getD]
  cases e[p]? <;> rfl
theorem xl_ints (hG : GOK G) {e : List Nat} (he : e.length = 2 * gn G) : xl G (fun v => (dg G e v : Int)) = ints e := by
  refine List.ext_getElem (by rw [xl_len]; unfold ints; rw [List.length_map, he]) (fun p h1 h2 => ?_)
  rw [xl_len] at h1
  have e1 := xl_get (G := G) (x := fun v => (dg G e v : Int)) h1
  have e2 := ints_getD (e := e) (p := p)
  rw [List.getD_eq_getElem?_getD, List.getElem?_eq_getElem (by rw [xl_len]; exact h1)] at e1
  rw [List.getD_eq_getElem?_getD, List.getElem?_eq_getElem h2] at e2
  rw [dg_vp hG h1] at e1
  exact e1.trans e2.symm
/-- what a point's word is collected to -/
theorem wd_val (hG : GOK G) {e : List Nat} {k : Nat} (hk : k < gn G) : TLs G O (pwd (dg G e) 12) k = Fk G k (ints e) := by
  rw [wd12 hG, point_mul hG k hk]
  unfold Fk
  exact mul_congr (fun i _ => by rw [ints_getD]) (fun i _ => by rw [ints_getD]) hk
theorem wd_mem (hG : GOK G) {e : List Nat} : ∀ x, x ∈ pwd (dg G e) 12 → x < gn G := by
  intro x hx
  rw [wd12 hG] at hx
  rcases List.mem_append.mp hx with h | h <;> exact wordU_mem _ x h
/-- collector's word, table 46 -/
def FP (σ τ : Mem) : Prop := (∀ x, x ≠ 35 → x ≠ 36 → τ.1 x = σ.1 x) ∧ (∀ c, c ≠ 1 → τ.1 35 c = σ.1 35 c) ∧ ∀ x, x ≠ 46 → τ.2 x = σ.2 x
theorem FP.refl : FP σ σ := ⟨fun _ _ _ => rfl, fun _ _ => rfl, fun _ _ => rfl⟩
theorem FP.trans {τ υ : Mem} (h : FP σ τ) (k : FP τ υ) : FP σ υ := ⟨fun x h1 h2 => (k.1 x h1 h2).trans (h.1 x h1 h2), fun c h1 => (k.2.1 c h1).trans (h.2.1 c h1), fun x h1 => (k.2.2 x h1).trans (h.2.2 x h1)⟩
theorem FA.fp {τ : Mem} (h : FA σ τ) : FP σ τ := ⟨h.2.1, h.2.2, fun x _ => by rw [h.1]⟩
theorem OL.fp {τ : Mem} (h : OL (fun x => x = 46) σ τ) : FP σ τ := ⟨fun x _ _ => by rw [h.1], fun c _ => by rw [h.1], fun x hx => h.2 x hx⟩
theorem i_mod6 {v : Nat} (hv : v < 12) : i32 v - i32 v / 6 * 6 = i32 (v % 6) := r_mod (n := 6) hv (by omega) (by omega)
theorem c_addPoint {v t : Nat} {w : List Nat} (hv : v < 12) (ht : t ≤ 3) (hp : σ.1 45 v = i32 t) (hw : CW σ w) (hl : w.length + 3 < 64) :
    ∃ τ, loopO (fun (z27 : (Mem × Int32)) => l_X4_findTermsAtPoint_47 (i32 v) z27.1 z27.2) (σ, 0) = some τ ∧ FA σ τ ∧ CW τ (w ++ List.replicate t (v % 6)) := by
  refine loop_inv (body := fun (z27 : (Mem × Int32)) => l_X4_findTermsAtPoint_47 (i32 v) z27.1 z27.2) (fun n z => ∃ q τ, q ≤ t ∧ n = t - q ∧ z = (τ, i32 q) ∧ FA σ τ ∧ CW τ (w ++ List.replicate q (v % 6))) _ ?_ t (σ, 0) ⟨0, σ, Nat.zero_le _, rfl, rfl, FA.refl, by rw [List.replicate_zero, List.append_nil]; exact hw⟩
  rintro n z ⟨q, τ, hq, rfl, rfl, f, c⟩
  have hpt : τ.1 45 v = i32 t := by rw [f.2.1 45 (by omega) (by omega)]; exact hp
  by_cases hqt : q = t
  · right
    subst hqt
    refine ⟨τ, ?_, f, c⟩
    show l_X4_findTermsAtPoint_47 (i32 v) τ (i32 q) = _
    unfold l_X4_findTermsAtPoint_47
    rw [e_gI ln_45 hv (by omega), hpt, if_pos (i_le (Nat.le_refl _) (by omega))]
  · left
    obtain ⟨υ, e, f2, c2⟩ := c_add (σ := τ) (x := v % 6) c (by rw [List.length_append, List.length_replicate]; omega) (by omega)
    refine ⟨(υ, i32 (q + 1)), t - (q + 1), by omega, ?_, q + 1, υ, by omega, rfl, rfl, f.trans f2, ?_⟩
    · show l_X4_findTermsAtPoint_47 (i32 v) τ (i32 q) = _
      unfold l_X4_findTermsAtPoint_47
      rw [e_gI ln_45 hv (by omega), hpt, if_neg (i_nle (by omega) (by omega)), e_nzI (by decide), i_mod6 hv, e, e_bs, i32_1, i32_add]
    · rw [List.append_assoc, ← List.replicate_succ'] at c2
      exact c2
theorem c_load12 {d : Nat → Nat} (hd : ∀ v, v < 12 → d v ≤ 3) (hp : ∀ v, v < 12 → σ.1 45 v = i32 (d v)) (hl : (pwd d 12).length ≤ 3) (hw : CW σ []) :
    ∃ τ, loopO (fun (z20 : (Mem × Int32 × Int32)) => l_X4_findTermsAtPoint_11 z20.1 z20.2.1 z20.2.2) (σ, 0, 0) = some (τ, i32 (ky d 12)) ∧ FP σ τ ∧ CW τ (pwd d 12) ∧ ∀ v, v < 12 → τ.2 46 (4 * v) = oi 1 ∧ τ.2 46 (4 * v + 1) = oi (d v : Int) ∧ τ.2 46 (4 * v + 2) = oi (two (d v : Int)) := by
  have hl' := loop_inv (body := fun (z20 : (Mem × Int32 × Int32)) => l_X4_findTermsAtPoint_11 z20.1 z20.2.1 z20.2.2) (fun n z => ∃ v τ, v ≤ 12 ∧ n = 12 - v ∧ z = (τ, i32 (ky d v), i32 v) ∧ FP σ τ ∧ CW τ (pwd d v) ∧ ∀ u, u < v → τ.2 46 (4 * u) = oi 1 ∧ τ.2 46 (4 * u + 1) = oi (d u : Int) ∧ τ.2 46 (4 * u + 2) = oi (two (d u : Int))) (fun r => ∃ τ, r = (τ, i32 (ky d 12)) ∧ FP σ τ ∧ CW τ (pwd d 12) ∧ ∀ v, v < 12 → τ.2 46 (4 * v) = oi 1 ∧ τ.2 46 (4 * v + 1) = oi (d v : Int) ∧ τ.2 46 (4 * v + 2) = oi (two (d v : Int))) ?_ 12 (σ, 0, 0) ⟨0, σ, Nat.zero_le _, rfl, rfl, FP.refl, hw, fun u hu => absurd hu (Nat.not_lt_zero _)⟩
  · obtain ⟨r, e, τ, rfl, f, c, t⟩ := hl'
    exact ⟨τ, e, f, c, t⟩
  · rintro n z ⟨v, τ, hv, rfl, rfl, f, c, t⟩
    by_cases hv12 : v = 12
    · right
      subst hv12
      refine ⟨_, ?_, τ, rfl, f, c, t⟩
      show l_X4_findTermsAtPoint_11 τ (i32 (ky d 12)) (i32 12) = _
      unfold l_X4_findTermsAtPoint_11
      rw [if_pos (by decide)]
    · left
      have hv' : v < 12 := by omega
      have hd3 := hd v hv'
      have hpv : τ.1 45 v = i32 (d v) := by rw [f.1 45 (by omega) (by omega)]; exact hp v hv'
      let G1 : GD := (1, fun _ => 1, fun _ _ _ => 0)
      obtain ⟨τ2, e2, o2, s2, r2⟩ := c_put (G := G1) (σ := τ) (t := 46) (v := v) (y := (d v : Int)) ln_46 hv' (fun _ => ⟨by omega, by omega⟩)
      have F2 := f.trans o2.fp
      have hpv2 : τ2.1 45 v = i32 (d v) := by rw [F2.1 45 (by omega) (by omega)]; exact hp v hv'
      have c2 : CW τ2 (pwd d v) := by unfold CW; rw [o2.1]; exact c
      have hlv := wd_mono (d := d) (12 - v) v
      rw [show v + (12 - v) = 12 by omega] at hlv
      obtain ⟨τ3, e3, f3, c3⟩ := c_addPoint (σ := τ2) hv' hd3 hpv2 c2 (by omega)
      have hk := ky_lt (d := d) v (fun u hu => hd u (by omega))
      have hk2 : ky d v < 4 ^ 11 := Nat.lt_of_lt_of_le hk (Nat.pow_le_pow_right (by omega) (by omega))
      refine ⟨(τ3, i32 (ky d (v + 1)), i32 (v + 1)), 12 - (v + 1), by omega, ?_, v + 1, τ3, by omega, rfl, rfl, F2.trans f3.fp, c3, fun u hu => ?_⟩
      · show l_X4_findTermsAtPoint_11 τ (i32 (ky d v)) (i32 v) = _
        unfold l_X4_findTermsAtPoint_11
        have e64 : (i32 (d v)).toInt64 = oi (d v : Int) := by rw [i32_64 (by omega)]; rfl
        rw [show (12 : Int32) = i32 12 from rfl, if_neg (i_nle hv' (by omega)), e_gI ln_45 hv' (by omega), hpv, e64, e2, e_bs, e_gI ln_45 hv' (by omega), hpv2, i_key (by omega) (by omega), e_bd, e3, e_bs]
        unfold j_X4_findTermsAtPoint_74
        rw [i32_1, i32_add]
        rfl
      · rw [f3.1]
        by_cases h1 : u = v
        · subst h1; exact ⟨s2.1, s2.2.1, s2.2.2 rfl⟩
        · obtain ⟨q1, q2, q3⟩ := r2 u h1
          rw [q1, q2, q3]
          exact t u (by omega)
end AP

