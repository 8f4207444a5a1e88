/-! the reference clears a number: by the least, until the others are 0 there -/
section CLR
variable {σ : Mem}
theorem oi_is0 {x : Int} (h : Wi (2 ^ 62) x) : oi x = 0 ↔ x = 0 := by
  constructor
  · intro e
    have h1 := h.1
    have h2 := h.2
    have e2 := congrArg Int64.toInt e
    rw [oi_toInt (by omega) (by omega)] at e2
    exact e2
  · intro e
    rw [e]
    rfl
theorem oi_quo {x p : Int} (hx : Wi (2 ^ 62) x) (hp : Wi (2 ^ 62) p) : oi x / oi p = oi (x.tdiv p) := by
  have h1 := hx.1
  have h2 := hx.2
  have h3 := hp.1
  have h4 := hp.2
  have h5 : (x.tdiv p).natAbs ≤ x.natAbs := by
    rw [Int.natAbs_tdiv]
    exact Nat.div_le_self _ _
  rw [← Int64.toInt_inj, Int64.toInt_div, oi_toInt (by omega) (by omega), oi_toInt (by omega) (by omega), oi_toInt (by omega) (by omega)]
  apply Int.bmod_eq_of_le <;> omega
theorem oi_lew {a b : Int} (ha : Wi (2 ^ 62) a) (hb : Wi (2 ^ 62) b) : oi a ≤ oi b ↔ a ≤ b := by
  have h1 := ha.1
  have h2 := ha.2
  have h3 := hb.1
  have h4 := hb.2
  rw [Int64.le_iff_toInt_le, oi_toInt (by omega) (by omega), oi_toInt (by omega) (by omega)]
theorem oi_absL {x : Int} (h : Wi (2 ^ 62) x) : f_J9_abs_067f4 σ (oi x) = some (oi (x.natAbs : Int)) := by
  unfold f_J9_abs_067f4
  have h0 : Wi (2 ^ 62) 0 := ⟨by omega, by omega⟩
  have hz : (0 : Int64) ≤ oi x ↔ 0 ≤ x := oi_lew h0 h
  by_cases hx : 0 ≤ x
  · rw [if_pos (hz.mpr hx), show (x.natAbs : Int) = x by omega]
  · rw [if_neg (fun q => hx (hz.mp q)), oi_neg, show (x.natAbs : Int) = -x by omega]
theorem Wi.na {x : Int} (h : Wi (2 ^ 62) x) : Wi (2 ^ 62) (x.natAbs : Int) := ⟨by have := h.1; have := h.2; omega, by have := h.1; have := h.2; omega⟩
/-- the columns behind f less the column f, up to i -/
def rndC (C : Nat → Nat → Int) (f k i : Nat) : Nat → Nat → Int := fun c j => if f < c ∧ c < i then C c j - (C c k).tdiv (C f k) * C f j else C c j
theorem rnd_les {C : Nat → Nat → Int} {f k i : Nat} (h : f < i) : lesC (rndC C f k i) i f ((C i k).tdiv (C f k)) = rndC C f k (i + 1) := by
  funext c j
  unfold lesC
  by_cases h1 : c = i
  · subst h1
    rw [if_pos rfl]
    unfold rndC
    rw [if_neg (by omega), if_neg (by omega), if_pos (by omega)]
  · rw [if_neg h1]
    unfold rndC
    by_cases h2 : f < c ∧ c < i
    · rw [if_pos h2, if_pos (by omega)]
    · rw [if_neg h2, if_neg (by omega)]
theorem rnd_at {C : Nat → Nat → Int} {f k i c j : Nat} (h : ¬ (f < c ∧ c < i)) : rndC C f k i c j = C c j := if_neg h
theorem rnd_in {C : Nat → Nat → Int} {f k i c j : Nat} (h : f < c ∧ c < i) : rndC C f k i c j = C c j - (C c k).tdiv (C f k) * C f j := if_pos h
/-- what clearing may make of columns -/
def Cln (m f k : Nat) (C D : Nat → Nat → Int) : Prop := ∀ I : (Nat → Nat → Int) → Prop, (∀ E b, f ≤ b → b < m → I E → I (swpC E b f)) → (∀ E, E f k ≠ 0 → (∀ c, f ≤ c → c < m → E c k ≠ 0 → (E f k).natAbs ≤ (E c k).natAbs) → I E → I (rndC E f k m)) → I C → I D
theorem Cln.refl {m f k : Nat} {C : Nat → Nat → Int} : Cln m f k C C := fun _ _ _ h => h
theorem Cln.trans {m f k : Nat} {C D E : Nat → Nat → Int} (h : Cln m f k C D) (g : Cln m f k D E) : Cln m f k C E := fun I h1 h2 h3 => g I h1 h2 (h I h1 h2 h3)
/-- the least that is not 0 -/
def Bst (C : Nat → Nat → Int) (f i k : Nat) (r : Int32) : Prop := (r = -1 ∧ ∀ c, f ≤ c → c < i → C c k = 0) ∨ ∃ b, r = i32 b ∧ f ≤ b ∧ b < i ∧ C b k ≠ 0 ∧ ∀ c, f ≤ c → c < i → C c k ≠ 0 → (C b k).natAbs ≤ (C c k).natAbs
theorem r_best {C : Nat → Nat → Int} {m f k : Nat} (hm : m ≤ 20) (hfm : f ≤ m) (hk : k < 18) (hC : Cl σ C m) (h31 : σ.1 306 31 = i32 m) (hX : ∀ c, f ≤ c → c < m → Wi (2 ^ 62) (C c k)) : ∃ r, loopO (fun (z33 : (Int32 × Int32)) => l_X11_clearsAt_12 (i32 k) σ z33.1 z33.2) (-1, i32 f) = some r ∧ Bst C f m k r := by
  refine loop_inv (body := fun (z33 : (Int32 × Int32)) => l_X11_clearsAt_12 (i32 k) σ z33.1 z33.2) (fun n z => ∃ i r, f ≤ i ∧ i ≤ m ∧ n = m - i ∧ z = (r, i32 i) ∧ Bst C f i k r) _ ?_ (m - f) (-1, i32 f) ⟨f, -1, Nat.le_refl _, hfm, rfl, rfl, Or.inl ⟨rfl, fun c h1 h2 => by omega⟩⟩
  rintro n z ⟨i, r, h1, h2, rfl, rfl, hb⟩
  by_cases him : i = m
  · right
    subst him
    refine ⟨r, ?_, hb⟩
    show l_X11_clearsAt_12 (i32 k) σ r (i32 i) = _
    unfold l_X11_clearsAt_12
    rw [e_gF, h31, if_pos (i_le (Nat.le_refl _) (by omega))]
  · left
    have v := hC i k (by omega) hk
    have wi := hX i h1 (by omega)
    have go : ∀ r', Bst C f (i + 1) k r' → l_X11_clearsAt_12 (i32 k) σ r (i32 i) = some (Sum.inl (r', i32 (i + 1))) → ∃ s' n', n' < m - i ∧ l_X11_clearsAt_12 (i32 k) σ (r, i32 i).1 (r, i32 i).2 = some (Sum.inl s') ∧ ∃ i r, f ≤ i ∧ i ≤ m ∧ n' = m - i ∧ s' = (r, i32 i) ∧ Bst C f i k r := fun r' hb' e => ⟨(r', i32 (i + 1)), m - (i + 1), by omega, e, i + 1, r', by omega, by omega, rfl, rfl, hb'⟩
    have body : ∀ r', (if oi (C i k) = 0 then (some r) else ((if r = (-1) then (some (Sum.inl ())) else ((some (oi (C i k)) : Option Int64).bind (fun (v37 : Int64) => (f_J9_abs_067f4 σ v37).bind (fun (v38 : Int64) => (f_X11_ofColumn σ r (i32 k)).bind (fun (v39 : Int64) => (f_J9_abs_067f4 σ v39).bind (fun (v40 : Int64) => if v40 ≤ v38 then (some (Sum.inr r)) else (some (Sum.inl ()))))))) : Option (Unit ⊕ Int32)).bind (Sum.elim (fun (z36 : Unit) => j_X11_clearsAt_61 (i32 i)) some)) : Option Int32) = some r' → l_X11_clearsAt_12 (i32 k) σ r (i32 i) = some (Sum.inl (r', i32 (i + 1))) := fun r' e => by
      unfold l_X11_clearsAt_12
      rw [e_gF, h31, if_neg (i_nle (by omega) (by omega)), r_ofColumn (by omega) hk, e_bs, v, e, e_bs]
      unfold j_X11_clearsAt_64
      rw [i32_1, i32_add]
    by_cases x0 : C i k = 0
    · refine go r ?_ (body r (by rw [if_pos ((oi_is0 wi).mpr x0)]))
      rcases hb with ⟨rfl, hz⟩ | ⟨b, rfl, b1, b2, b3, b4⟩
      · refine Or.inl ⟨rfl, fun c c1 c2 => ?_⟩
        by_cases hci : c = i
        · rw [hci]; exact x0
        · exact hz c c1 (by omega)
      · refine Or.inr ⟨b, rfl, b1, by omega, b3, fun c c1 c2 c3 => ?_⟩
        by_cases hci : c = i
        · rw [hci] at c3; exact absurd x0 c3
        · exact b4 c c1 (by omega) c3
    · have hne : ¬ oi (C i k) = 0 := fun q => x0 ((oi_is0 wi).mp q)
      rcases hb with ⟨rfl, hz⟩ | ⟨b, rfl, b1, b2, b3, b4⟩
      · refine go (i32 i) (Or.inr ⟨i, rfl, h1, by omega, x0, fun c c1 c2 c3 => ?_⟩) (body _ ?_)
        · by_cases hci : c = i
          · rw [hci]; exact Nat.le_refl _
          · exact absurd (hz c c1 (by omega)) c3
        · rw [if_neg hne, if_pos rfl, e_bs]
          rfl
      · have wb := hX b b1 (by omega)
        have cmp : (if i32 b = (-1) then (some (Sum.inl ())) else ((some (oi (C i k)) : Option Int64).bind (fun (v37 : Int64) => (f_J9_abs_067f4 σ v37).bind (fun (v38 : Int64) => (f_X11_ofColumn σ (i32 b) (i32 k)).bind (fun (v39 : Int64) => (f_J9_abs_067f4 σ v39).bind (fun (v40 : Int64) => if v40 ≤ v38 then (some (Sum.inr (i32 b))) else (some (Sum.inl ()))))))) : Option (Unit ⊕ Int32)) = if (C b k).natAbs ≤ (C i k).natAbs then some (Sum.inr (i32 b)) else some (Sum.inl ()) := by
          rw [if_neg (ne_m1 (by omega)), e_bs, oi_absL wi, e_bs, r_ofColumn (by omega) hk, e_bs, hC b k (by omega) hk, oi_absL wb, e_bs]
          by_cases hle : (C b k).natAbs ≤ (C i k).natAbs
          · rw [if_pos ((oi_lew wb.na wi.na).mpr (by omega)), if_pos hle]
          · rw [if_neg (fun q => hle (by have := (oi_lew wb.na wi.na).mp q; omega)), if_neg hle]
        by_cases hle : (C b k).natAbs ≤ (C i k).natAbs
        · refine go (i32 b) (Or.inr ⟨b, rfl, b1, by omega, b3, fun c c1 c2 c3 => ?_⟩) (body _ ?_)
          · by_cases hci : c = i
            · rw [hci]; exact hle
            · exact b4 c c1 (by omega) c3
          · rw [if_neg hne, cmp, if_pos hle, e_bs]
            rfl
        · refine go (i32 i) (Or.inr ⟨i, rfl, h1, by omega, x0, fun c c1 c2 c3 => ?_⟩) (body _ ?_)
          · by_cases hci : c = i
            · rw [hci]; exact Nat.le_refl _
            · have := b4 c c1 (by omega) c3
              omega
          · rw [if_neg hne, cmp, if_neg hle, e_bs]
            rfl
/-- nothing but columns has changed -/
def FC0 (σ τ : Mem) : Prop := τ.1 = σ.1 ∧ ∀ x, x ≠ 320 → τ.2 x = σ.2 x
theorem FC0.refl : FC0 σ σ := ⟨rfl, fun _ _ => rfl⟩
theorem FC0.trans {τ υ : Mem} (h : FC0 σ τ) (k : FC0 τ υ) : FC0 σ υ := ⟨k.1.trans h.1, fun x hx => (k.2 x hx).trans (h.2 x hx)⟩
theorem FC0.rw {f : Nat → Int64} : FC0 σ (rwL σ 320 f) := ⟨rfl, fun x hx => rwL_x hx⟩
theorem Cl.congr {C D : Nat → Nat → Int} {m : Nat} (h : Cl σ C m) (e : ∀ c j, c < m → j < 18 → D c j = C c j) : Cl σ D m := fun c j hc hj => by rw [e c j hc hj]; exact h c j hc hj
theorem r_round {C : Nat → Nat → Int} {m f k : Nat} (hm : m ≤ 20) (hfm : f < m) (hk : k < 18) (hC : Cl σ C m) (h31 : σ.1 306 31 = i32 m) (hX : ∀ c, f ≤ c → c < m → Wi (2 ^ 62) (C c k)) (h0 : C f k ≠ 0) : ∃ mo τ, loopO (fun (z25 : (Mem × Int32 × Int32)) => l_X11_clearsAt_106 (i32 f) (i32 k) z25.1 z25.2.1 z25.2.2) (σ, 0, i32 (f + 1)) = some (τ, b2i mo) ∧ FC0 σ τ ∧ Cl τ (rndC C f k m) m ∧ (mo = true ↔ ∃ c, f < c ∧ c < m ∧ rndC C f k m c k ≠ 0) := by
  have hl := loop_inv (body := fun (z25 : (Mem × Int32 × Int32)) => l_X11_clearsAt_106 (i32 f) (i32 k) z25.1 z25.2.1 z25.2.2) (fun n z => ∃ i τ mo, f < i ∧ i ≤ m ∧ n = m - i ∧ z = (τ, b2i mo, i32 i) ∧ FC0 σ τ ∧ Cl τ (rndC C f k i) m ∧ (mo = true ↔ ∃ c, f < c ∧ c < i ∧ rndC C f k i c k ≠ 0)) (fun x => ∃ mo τ, x = (τ, b2i mo) ∧ FC0 σ τ ∧ Cl τ (rndC C f k m) m ∧ (mo = true ↔ ∃ c, f < c ∧ c < m ∧ rndC C f k m c k ≠ 0)) ?_ (m - (f + 1)) (σ, 0, i32 (f + 1)) ⟨f + 1, σ, false, by omega, by omega, rfl, rfl, FC0.refl, hC.congr (fun c j _ _ => rnd_at (by omega)), fun z => absurd z (by decide), fun ⟨c, c1, c2, _⟩ => by omega⟩
  · obtain ⟨x, e, mo, τ, rfl, h1, h2, h3⟩ := hl
    exact ⟨mo, τ, e, h1, h2, h3⟩
  · rintro n z ⟨i, τ, mo, h1, h2, rfl, rfl, fr, hc, hmo⟩
    have g31 : τ.1 306 31 = i32 m := by rw [fr.1]; exact h31
    by_cases him : i = m
    · right
      subst him
      refine ⟨_, ?_, mo, τ, rfl, fr, hc, hmo⟩
      show l_X11_clearsAt_106 (i32 f) (i32 k) τ (b2i mo) (i32 i) = _
      unfold l_X11_clearsAt_106
      rw [e_gF, g31, if_pos (i_le (Nat.le_refl _) (by omega))]
    · left
      have i20 : i < 20 := by omega
      have wi := hX i (by omega) (by omega)
      have wf := hX f (Nat.le_refl _) hfm
      have vi : τ.2 320 (18 * i + k) = oi (C i k) := by rw [hc i k (by omega) hk, rnd_at (by omega)]
      have vf : τ.2 320 (18 * f + k) = oi (C f k) := by rw [hc f k (by omega) hk, rnd_at (by omega)]
      have hlc := hc.les (e := i) (p := f) (q := (C i k).tdiv (C f k)) (by omega) (by omega)
      rw [rnd_les h1] at hlc
      have e1 := r_lessens (σ := τ) (c := i) (p := f) (t := oi ((C i k).tdiv (C f k))) (by omega) (by omega) (by omega)
      have fr2 : FC0 σ (rwL τ 320 (lsF (τ.2 320) i f (oi ((C i k).tdiv (C f k))) 18)) := fr.trans FC0.rw
      generalize rwL τ 320 (lsF (τ.2 320) i f (oi ((C i k).tdiv (C f k))) 18) = τ2 at *
      have v31 : τ2.2 320 (18 * i + k) = oi (rndC C f k (i + 1) i k) := hlc i k (by omega) hk
      have hr : rndC C f k (i + 1) i k = C i k - (C i k).tdiv (C f k) * C f k := rnd_in (by omega)
      have hmod := (tmod_btw (x := C i k) h0).2
      have wr : Wi (2 ^ 62) (rndC C f k (i + 1) i k) := by
        rw [hr]
        have := wf.1
        have := wf.2
        exact ⟨by omega, by omega⟩
      have hold : ∀ c, f < c → c < i → rndC C f k (i + 1) c k = rndC C f k i c k := fun c c1 c2 => by rw [rnd_in ⟨c1, by omega⟩, rnd_in ⟨c1, c2⟩]
      have hbody : ∀ mo', ((if b2i mo = 0 then ((f_X11_ofColumn τ2 (i32 i) (i32 k)).bind (fun (v31 : Int64) => if v31 = 0 then (some (Sum.inr false)) else (some (Sum.inl ())))) else (some (Sum.inl ())) : Option (Unit ⊕ Bool)).bind (Sum.elim (fun (z30 : Unit) => j_X11_clearsAt_153) some) : Option Bool) = some mo' → l_X11_clearsAt_106 (i32 f) (i32 k) τ (b2i mo) (i32 i) = some (Sum.inl (τ2, b2i mo', i32 (i + 1))) := fun mo' e => by
        unfold l_X11_clearsAt_106
        rw [e_gF, g31, if_neg (i_nle (by omega) (by omega)), r_ofColumn (by omega) hk, e_bs, r_ofColumn (by omega) hk, e_bs, vi, vf, e_nzL (fun q => h0 ((oi_is0 wf).mp q)), oi_quo wi wf, e1, e_bs, e, e_bs]
        unfold j_X11_clearsAt_158
        rw [i32_1, i32_add]
      have fin : ∀ mo', (mo' = true ↔ mo = true ∨ rndC C f k (i + 1) i k ≠ 0) → l_X11_clearsAt_106 (i32 f) (i32 k) τ (b2i mo) (i32 i) = some (Sum.inl (τ2, b2i mo', i32 (i + 1))) → ∃ s' n', n' < m - i ∧ l_X11_clearsAt_106 (i32 f) (i32 k) (τ, b2i mo, i32 i).1 (τ, b2i mo, i32 i).2.1 (τ, b2i mo, i32 i).2.2 = some (Sum.inl s') ∧ ∃ i τ mo, f < i ∧ i ≤ m ∧ n' = m - i ∧ s' = (τ, b2i mo, i32 i) ∧ FC0 σ τ ∧ Cl τ (rndC C f k i) m ∧ (mo = true ↔ ∃ c, f < c ∧ c < i ∧ rndC C f k i c k ≠ 0) := fun mo' hm' e => by
        refine ⟨(τ2, b2i mo', i32 (i + 1)), m - (i + 1), by omega, e, i + 1, τ2, mo', by omega, by omega, rfl, rfl, fr2, hlc, ?_⟩
        rw [hm', hmo]
        constructor
        · rintro (⟨c, c1, c2, c3⟩ | q)
          · exact ⟨c, c1, by omega, by rw [hold c c1 c2]; exact c3⟩
          · exact ⟨i, h1, by omega, q⟩
        · rintro ⟨c, c1, c2, c3⟩
          by_cases hci : c = i
          · rw [hci] at c3; exact Or.inr c3
          · exact Or.inl ⟨c, c1, by omega, by rw [← hold c c1 (by omega)]; exact c3⟩
      cases mo with
      | true =>
        refine fin true ⟨fun _ => Or.inl rfl, fun _ => rfl⟩ (hbody true ?_)
        rw [if_neg (by decide), e_bs]
        rfl
      | false =>
        by_cases hz : rndC C f k (i + 1) i k = 0
        · refine fin false ⟨fun q => absurd q (by decide), fun q => by rcases q with q | q; exact absurd q (by decide); exact absurd hz q⟩ (hbody false ?_)
          rw [if_pos (show b2i false = 0 from rfl), r_ofColumn i20 hk, e_bs, v31, if_pos ((oi_is0 wr).mpr hz), e_bs]
          rfl
        · refine fin true ⟨fun _ => Or.inr hz, fun _ => rfl⟩ (hbody true ?_)
          rw [if_pos (show b2i false = 0 from rfl), r_ofColumn i20 hk, e_bs, v31, if_neg (fun q => hz ((oi_is0 wr).mp q)), e_bs]
          rfl
end CLR
