/-! register: by how short a word -/
section RG2
variable {σ : Mem} {G : GD}
theorem fnd_pre (hG : GOK G) {l : Nat} (hl : l ≤ 4) {x : Nat → Int} : fnd G (lvl G l).2 x < (lvl G l).2.length ↔ fnd G (lvl G 4).2 x < (lvl G l).2.length := by
  obtain ⟨T, hT⟩ := lvl_pre (G := G) (4 - l) l
  rw [show l + (4 - l) = 4 by omega] at hT
  have F4 := (lvl_facts hG 4).2.2.2.1
  have Fl := (lvl_facts hG l).2.2.2.1
  have hlen : (lvl G 4).2.length = (lvl G l).2.length + T.length := by rw [hT, List.length_append]
  constructor
  · intro h
    obtain ⟨y, hy, hyx⟩ := fnd_hit h
    have h4 : (lvl G 4).2[fnd G (lvl G l).2 x]? = some y := by rw [hT, List.getElem?_append_left h]; exact hy
    rw [fnd_eq F4 h4 hyx]
    exact h
  · intro h
    obtain ⟨y, hy, hyx⟩ := fnd_hit (G := G) (M := (lvl G 4).2) (x := x) (by omega)
    have hl2 : (lvl G l).2[fnd G (lvl G 4).2 x]? = some y := by
      rw [hT, List.getElem?_append_left (by rw [← hT]; exact h), ← hT] at hy
      exact hy
    rw [fnd_eq Fl hl2 hyx]
    exact h
/-- the length of the shortest word, from a length on -/
def shF (G : GD) (A : Nat → Int) : Nat → Nat → Int32
  | 0, _ => -1
  | n + 1, l => if (lvl G l).2.length ≤ 1000 then (if fnd G (lvl G l).2 A < (lvl G l).2.length then i32 l else shF G A n (l + 1)) else -1
theorem c_level {c : Nat} {S : AS} (hc : c < 520) (h : ICls c S σ) (ok : OKS S) (hcons : Cons (aG S)) {p : Nat} (hp : p < 10) : ∃ τ, f_X1_levelOf σ (6 + p) = some (shF (aG S) (aR S p) 5 0, τ) ∧ ICls c S τ ∧ HI σ τ := by
  have hG : GOK (aG S) := ok.1.1
  have hn : gn (aG S) ≤ 6 := hG.2.1
  obtain ⟨τ, e, hb, f, he⟩ := c_find hG hc h.law hcons
  have hI := h.fbf f hb he
  have L4 := lvl_facts hG 4
  refine ⟨τ, ?_, hI, f.hi⟩
  obtain ⟨q0, hq0, e2, hcase⟩ := c_slotOf (σ := τ) (a := 6 + p) (x := aR S p) (M := (lvl (aG S) 4).2) hn (ln_reg hp) (c_reg hI hp) ⟨hb.1, hb.2.2.1, hb.2.2.2⟩ L4.2.1 L4.2.2.2.1 (fun y hy => (L4.2.2.2.2 y hy).zb) (fun k hk => ok.1.2.2 p k hk)
  have hloop : ∀ v : Nat, v ≤ (lvl (aG S) 4).2.length → fnd (aG S) (lvl (aG S) 4).2 (aR S p) = v → v < (lvl (aG S) 4).2.length → loopO (fun (z5 : Int32) => l_X1_levelOf_19 τ (i32 v) z5) 0 = some (shF (aG S) (aR S p) 5 0, τ) := by
    intro v hv hf hlt
    have key : ∀ n l, l + n = 5 → loopO (fun (z5 : Int32) => l_X1_levelOf_19 τ (i32 v) z5) (i32 l) = some (shF (aG S) (aR S p) n l, τ) := by
      intro n
      induction n with
      | zero =>
        intro l hl
        have : l = 5 := by omega
        subst this
        refine lp_end ?_
        unfold l_X1_levelOf_19
        rw [if_pos (by decide)]
        rfl
      | succ n ih =>
        intro l hl
        have hl4 : l ≤ 4 := by omega
        have hln := (lvl_facts hG l).2.1
        have hbody : l_X1_levelOf_19 τ (i32 v) (i32 l) = if (lvl (aG S) l).2.length ≤ 1000 then (if fnd (aG S) (lvl (aG S) l).2 (aR S p) < (lvl (aG S) l).2.length then some (Sum.inr (i32 l, τ)) else some (Sum.inl (i32 (l + 1)))) else some (Sum.inr (-1, τ)) := by
          unfold l_X1_levelOf_19
          rw [if_neg (show ¬ 4 < i32 l from i_nlt (a := 4) (by omega) (by omega)), if_neg (show ¬ i32 v < 0 from i_nlt (b := 0) (by omega) (by omega)), e_gI ln_129 (by omega) (by omega), e_gI ln_129 (by omega) (by omega), hb.2.1 l hl4]
          by_cases h1 : (lvl (aG S) l).2.length ≤ 1000
          · rw [if_pos h1, if_pos h1, if_neg (ne_m1 (by omega))]
            by_cases h2 : v < (lvl (aG S) l).2.length
            · rw [if_neg (i_nle h2 (by omega)), if_pos ((fnd_pre hG hl4).mpr (by rw [hf]; exact h2))]
            · rw [if_pos (i_le (by omega) (by omega)), if_neg (fun z => h2 (by have := (fnd_pre hG hl4).mp z; rw [hf] at this; exact this)), i32_1, i32_add]
          · rw [if_neg h1, if_neg h1, if_pos rfl]
        by_cases h1 : (lvl (aG S) l).2.length ≤ 1000
        · by_cases h2 : fnd (aG S) (lvl (aG S) l).2 (aR S p) < (lvl (aG S) l).2.length
          · rw [if_pos h1, if_pos h2] at hbody
            rw [lp_end hbody]
            show _ = some ((if (lvl (aG S) l).2.length ≤ 1000 then (if fnd (aG S) (lvl (aG S) l).2 (aR S p) < (lvl (aG S) l).2.length then i32 l else shF (aG S) (aR S p) n (l + 1)) else -1), τ)
            rw [if_pos h1, if_pos h2]
          · rw [if_pos h1, if_neg h2] at hbody
            rw [lp_go hbody, ih (l + 1) (by omega)]
            show _ = some ((if (lvl (aG S) l).2.length ≤ 1000 then (if fnd (aG S) (lvl (aG S) l).2 (aR S p) < (lvl (aG S) l).2.length then i32 l else shF (aG S) (aR S p) n (l + 1)) else -1), τ)
            rw [if_pos h1, if_neg h2]
        · rw [if_neg h1] at hbody
          rw [lp_end hbody]
          show _ = some ((if (lvl (aG S) l).2.length ≤ 1000 then (if fnd (aG S) (lvl (aG S) l).2 (aR S p) < (lvl (aG S) l).2.length then i32 l else shF (aG S) (aR S p) n (l + 1)) else -1), τ)
          rw [if_neg h1]
    exact key 5 0 rfl
  unfold f_X1_levelOf
  rw [e, e_bs, e2, e_bs, e_gI ln_131 hq0 (by omega)]
  have hl4 := L4.2.1
  rcases hcase with ⟨v, hv, hlt, hs⟩ | ⟨hv, hs, _⟩
  · rw [hs, e_bd, i32_1, i32_sub (by omega), Nat.add_sub_cancel]
    exact hloop v (by omega) hv hlt
  · rw [hs, e_bd]
    have hno : ∀ n l, l + n = 5 → shF (aG S) (aR S p) n l = -1 := by
      intro n
      induction n with
      | zero => intro l _; rfl
      | succ n ih =>
        intro l hl
        show (if (lvl (aG S) l).2.length ≤ 1000 then (if fnd (aG S) (lvl (aG S) l).2 (aR S p) < (lvl (aG S) l).2.length then i32 l else shF (aG S) (aR S p) n (l + 1)) else -1) = -1
        have hnf : ¬ fnd (aG S) (lvl (aG S) l).2 (aR S p) < (lvl (aG S) l).2.length := fun z => by
          have h1 := (fnd_pre hG (by omega)).mp z
          obtain ⟨T, hT⟩ := lvl_pre (G := aG S) (4 - l) l
          rw [show l + (4 - l) = 4 by omega] at hT
          have hlen : (lvl (aG S) 4).2.length = (lvl (aG S) l).2.length + T.length := by rw [hT, List.length_append]
          omega
        rw [if_neg hnf, ih (l + 1) (by omega)]
        split <;> rfl
    rw [hno 5 0 rfl]
    refine lp_end (body := fun (z5 : Int32) => l_X1_levelOf_19 τ (0 - 1) z5) ?_
    unfold l_X1_levelOf_19
    rw [if_neg (by decide), if_pos (by decide)]
theorem r_short {f : SF} {A : Nat → Int} (hG : GOK G) (hM : MG σ G) (h0 : M0 σ) (hf : f 0 = A) : ∃ τ g, f_X11_shortOf (PS σ f) 0 = some (shF G A 5 0, PS τ g) ∧ FRm σ τ := by
  have key : ∀ n l (ρ : Mem) (g : SF), l + n = 5 → FRm σ ρ → MG ρ G → M0 ρ → g 0 = A → ∃ τ g', loopO (fun (z2 : (Mem × Int32)) => l_X11_shortOf_2 0 z2.1 z2.2) (PS ρ g, i32 l) = some (shF G A n l, PS τ g') ∧ FRm σ τ := by
    intro n
    induction n with
    | zero =>
      intro l ρ g hl fr hM h0 hg
      have : l = 5 := by omega
      subst this
      refine ⟨ρ, g, lp_end (body := fun (z2 : (Mem × Int32)) => l_X11_shortOf_2 0 z2.1 z2.2) ?_, fr⟩
      show l_X11_shortOf_2 0 (PS ρ g) (i32 5) = _
      unfold l_X11_shortOf_2
      rw [if_pos (by decide)]
      rfl
    | succ n ih =>
      intro l ρ g hl fr hM h0 hg
      obtain ⟨ρ2, g2, e2, c2, fr2, k2⟩ := r_laysBall (σ := ρ) (f := g) (l := l) hG hM h0 (by omega)
      have hM2 : MG ρ2 G := by unfold MG; rw [fr2.1 307 (by omega)]; exact hM
      have h02 : M0 ρ2 := h0.frm fr2
      have hg2 : g2 0 = A := by rw [k2 0 (by omega)]; exact hg
      have hlf := lvl_facts hG l
      have e3 : f_X11_place (PS ρ2 g2) 0 = some (i32 (fnd G (lvl G l).2 (g2 0))) := r_place (σ := ρ2) (f := g2) (s := 0) hG hM2 (by omega) c2 hlf.2.1 hlf.2.2.2.1
      rw [hg2] at e3
      have g29 : (PS ρ2 g2).1 306 29 = i32 (lvl G l).2.length := c2.1
      have hfl : fnd G (lvl G l).2 A ≤ (lvl G l).2.length := fnd_le
      have hl1 := hlf.2.1
      have hbody : l_X11_shortOf_2 0 (PS ρ g) (i32 l) = if (lvl G l).2.length ≤ 1000 then (if fnd G (lvl G l).2 A < (lvl G l).2.length then some (Sum.inr (i32 l, PS ρ2 g2)) else some (Sum.inl (PS ρ2 g2, i32 (l + 1)))) else some (Sum.inr (-1, PS ρ2 g2)) := by
        unfold l_X11_shortOf_2
        rw [if_neg (show ¬ 4 < i32 l from i_nlt (a := 4) (by omega) (by omega)), e2, e_bq]
        by_cases h1 : (lvl G l).2.length ≤ 1000
        · rw [if_pos (show i32 (lvl G l).2.length ≤ 1000 from i_le (b := 1000) h1 (by omega)), if_pos h1, e3, e_bs, e_gF, g29]
          by_cases h2 : fnd G (lvl G l).2 A < (lvl G l).2.length
          · rw [if_neg (i_nle h2 (by omega)), if_pos h2]
          · rw [if_pos (i_le (by omega) (by omega)), if_neg h2, i32_1, i32_add]
        · rw [if_neg (show ¬ i32 (lvl G l).2.length ≤ 1000 from i_nle (b := 1000) (by omega) (by omega)), if_neg h1]
      have hsh : shF G A (n + 1) l = (if (lvl G l).2.length ≤ 1000 then (if fnd G (lvl G l).2 A < (lvl G l).2.length then i32 l else shF G A n (l + 1)) else -1) := rfl
      by_cases h1 : (lvl G l).2.length ≤ 1000
      · by_cases h2 : fnd G (lvl G l).2 A < (lvl G l).2.length
        · rw [if_pos h1, if_pos h2] at hbody
          refine ⟨ρ2, g2, ?_, fr.trans fr2⟩
          have hv : shF G A (n + 1) l = i32 l := by rw [hsh, if_pos h1, if_pos h2]
          rw [hv]
          exact lp_end (body := fun (z2 : (Mem × Int32)) => l_X11_shortOf_2 0 z2.1 z2.2) (s := (PS ρ g, i32 l)) hbody
        · rw [if_pos h1, if_neg h2] at hbody
          obtain ⟨τ, g', b1, b2⟩ := ih (l + 1) ρ2 g2 (by omega) (fr.trans fr2) hM2 h02 hg2
          refine ⟨τ, g', ?_, b2⟩
          have hv : shF G A (n + 1) l = shF G A n (l + 1) := by rw [hsh, if_pos h1, if_neg h2]
          rw [hv]
          exact (lp_go (body := fun (z2 : (Mem × Int32)) => l_X11_shortOf_2 0 z2.1 z2.2) (s := (PS ρ g, i32 l)) hbody).trans b1
      · rw [if_neg h1] at hbody
        refine ⟨ρ2, g2, ?_, fr.trans fr2⟩
        have hv : shF G A (n + 1) l = -1 := by rw [hsh, if_neg h1]
        rw [hv]
        exact lp_end (body := fun (z2 : (Mem × Int32)) => l_X11_shortOf_2 0 z2.1 z2.2) (s := (PS ρ g, i32 l)) hbody
  unfold f_X11_shortOf
  exact key 5 0 σ f rfl FRm.refl hM h0 hf
end RG2
