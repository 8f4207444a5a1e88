theorem lw_first_0 {I J : Nat → Mem → Prop} (h : Ok_0 I) (hI : ∀ σ, J 0 σ → I 0 σ) (hJ : ∀ τ, J 1 τ) : ∀ (c : Nat) (σ : Mem) (x0 : Int32) (x1 : Int32), c < 1 → J c σ → ∃ (r : Bool) (σ1 : Mem) (σ2 : Mem), f_X10_group σ x0 x1 = some (r, σ1) ∧ f_X11_group σ1 x0 x1 = some (r, σ2) ∧ J (c + 1) σ2 := fun c σ x0 x1 hc hj => by
  have h0 : c = 0 := by omega
  subst h0
  obtain ⟨r, σ1, σ2, e1, e2, _⟩ := h 0 σ x0 x1 (by omega) (hI σ hj)
  exact ⟨r, σ1, σ2, e1, e2, hJ _⟩
theorem lw_first_1 {I J : Nat → Mem → Prop} (h : Ok_1 I) (hI : ∀ σ, J 0 σ → I 0 σ) (hJ : ∀ τ, J 1 τ) : ∀ (c : Nat) (σ : Mem) (x0 : Int32) (x1 : Int32) (x2 : Int32) (x3 : Int32), c < 1 → J c σ → ∃ (r : Bool) (σ1 : Mem) (σ2 : Mem), f_X10_tail σ x0 x1 x2 x3 = some (r, σ1) ∧ f_X11_tail_ σ1 x0 x1 x2 x3 = some (r, σ2) ∧ J (c + 1) σ2 := fun c σ x0 x1 x2 x3 hc hj => by
  have h0 : c = 0 := by omega
  subst h0
  obtain ⟨r, σ1, σ2, e1, e2, _⟩ := h 0 σ x0 x1 x2 x3 (by omega) (hI σ hj)
  exact ⟨r, σ1, σ2, e1, e2, hJ _⟩
theorem lw_first_2 {I J : Nat → Mem → Prop} (h : Ok_2 I) (hI : ∀ σ, J 0 σ → I 0 σ) (hJ : ∀ τ, J 1 τ) : ∀ (c : Nat) (σ : Mem) (x0 : Int32), c < 1 → J c σ → ∃ (r : Bool) (σ1 : Mem) (σ2 : Mem), f_X10_kind σ x0 = some (r, σ1) ∧ f_X11_kind σ1 x0 = some (r, σ2) ∧ J (c + 1) σ2 := fun c σ x0 hc hj => by
  have h0 : c = 0 := by omega
  subst h0
  obtain ⟨r, σ1, σ2, e1, e2, _⟩ := h 0 σ x0 (by omega) (hI σ hj)
  exact ⟨r, σ1, σ2, e1, e2, hJ _⟩
theorem lw_first_3 {I J : Nat → Mem → Prop} (h : Ok_3 I) (hI : ∀ σ, J 0 σ → I 0 σ) (hJ : ∀ τ, J 1 τ) : ∀ (c : Nat) (σ : Mem) (x0 : Int32) (x1 : Int32) (x2 : Int32), c < 1 → J c σ → ∃ (r : Bool) (σ1 : Mem) (σ2 : Mem), f_X10_set σ x0 x1 x2 = some (r, σ1) ∧ f_X11_set σ1 x0 x1 x2 = some (r, σ2) ∧ J (c + 1) σ2 := fun c σ x0 x1 x2 hc hj => by
  have h0 : c = 0 := by omega
  subst h0
  obtain ⟨r, σ1, σ2, e1, e2, _⟩ := h 0 σ x0 x1 x2 (by omega) (hI σ hj)
  exact ⟨r, σ1, σ2, e1, e2, hJ _⟩
theorem lw_first_4 {I J : Nat → Mem → Prop} (h : Ok_4 I) (hI : ∀ σ, J 0 σ → I 0 σ) (hJ : ∀ τ, J 1 τ) : ∀ (c : Nat) (σ : Mem) (x0 : Int32) (x1 : Int32) (x2 : Int32), c < 1 → J c σ → ∃ (r : Bool) (σ1 : Mem) (σ2 : Mem), f_X10_multiply σ x0 x1 x2 = some (r, σ1) ∧ f_X11_multiply σ1 x0 x1 x2 = some (r, σ2) ∧ J (c + 1) σ2 := fun c σ x0 x1 x2 hc hj => by
  have h0 : c = 0 := by omega
  subst h0
  obtain ⟨r, σ1, σ2, e1, e2, _⟩ := h 0 σ x0 x1 x2 (by omega) (hI σ hj)
  exact ⟨r, σ1, σ2, e1, e2, hJ _⟩
theorem lw_first_5 {I J : Nat → Mem → Prop} (h : Ok_5 I) (hI : ∀ σ, J 0 σ → I 0 σ) (hJ : ∀ τ, J 1 τ) : ∀ (c : Nat) (σ : Mem) (x0 : Int32) (x1 : Int32), c < 1 → J c σ → ∃ (r : Bool) (σ1 : Mem) (σ2 : Mem), f_X10_invert σ x0 x1 = some (r, σ1) ∧ f_X11_invert σ1 x0 x1 = some (r, σ2) ∧ J (c + 1) σ2 := fun c σ x0 x1 hc hj => by
  have h0 : c = 0 := by omega
  subst h0
  obtain ⟨r, σ1, σ2, e1, e2, _⟩ := h 0 σ x0 x1 (by omega) (hI σ hj)
  exact ⟨r, σ1, σ2, e1, e2, hJ _⟩
theorem lw_first_6 {I J : Nat → Mem → Prop} (h : Ok_6 I) (hI : ∀ σ, J 0 σ → I 0 σ) (hJ : ∀ τ, J 1 τ) : ∀ (c : Nat) (σ : Mem) (x0 : Int32) (x1 : Int32) (x2 : Int32), c < 1 → J c σ → ∃ (r : Bool) (σ1 : Mem) (σ2 : Mem), f_X10_power σ x0 x1 x2 = some (r, σ1) ∧ f_X11_power σ1 x0 x1 x2 = some (r, σ2) ∧ J (c + 1) σ2 := fun c σ x0 x1 x2 hc hj => by
  have h0 : c = 0 := by omega
  subst h0
  obtain ⟨r, σ1, σ2, e1, e2, _⟩ := h 0 σ x0 x1 x2 (by omega) (hI σ hj)
  exact ⟨r, σ1, σ2, e1, e2, hJ _⟩
theorem lw_first_7 {I J : Nat → Mem → Prop} (h : Ok_7 I) (hI : ∀ σ, J 0 σ → I 0 σ) (hJ : ∀ τ, J 1 τ) : ∀ (c : Nat) (σ : Mem) (x0 : Int32) (x1 : Int32) (x2 : Int32), c < 1 → J c σ → ∃ (r : Bool) (σ1 : Mem) (σ2 : Mem), f_X10_commute σ x0 x1 x2 = some (r, σ1) ∧ f_X11_commute σ1 x0 x1 x2 = some (r, σ2) ∧ J (c + 1) σ2 := fun c σ x0 x1 x2 hc hj => by
  have h0 : c = 0 := by omega
  subst h0
  obtain ⟨r, σ1, σ2, e1, e2, _⟩ := h 0 σ x0 x1 x2 (by omega) (hI σ hj)
  exact ⟨r, σ1, σ2, e1, e2, hJ _⟩
theorem lw_first_8 {I J : Nat → Mem → Prop} (h : Ok_8 I) (hI : ∀ σ, J 0 σ → I 0 σ) (hJ : ∀ τ, J 1 τ) : ∀ (c : Nat) (σ : Mem) (x0 : Int32) (x1 : Int32) (x2 : Int32), c < 1 → J c σ → ∃ (r : Bool) (σ1 : Mem) (σ2 : Mem), f_X10_conjugate σ x0 x1 x2 = some (r, σ1) ∧ f_X11_conjugate σ1 x0 x1 x2 = some (r, σ2) ∧ J (c + 1) σ2 := fun c σ x0 x1 x2 hc hj => by
  have h0 : c = 0 := by omega
  subst h0
  obtain ⟨r, σ1, σ2, e1, e2, _⟩ := h 0 σ x0 x1 x2 (by omega) (hI σ hj)
  exact ⟨r, σ1, σ2, e1, e2, hJ _⟩
theorem lw_first_9 {I J : Nat → Mem → Prop} (h : Ok_9 I) (hI : ∀ σ, J 0 σ → I 0 σ) (hJ : ∀ τ, J 1 τ) : ∀ (c : Nat) (σ : Mem) (x0 : Int32) (x1 : Int32) (x2 : Int32), c < 1 → J c σ → ∃ (r : Bool) (σ1 : Mem) (σ2 : Mem), f_X10_root σ x0 x1 x2 = some (r, σ1) ∧ f_X11_root σ1 x0 x1 x2 = some (r, σ2) ∧ J (c + 1) σ2 := fun c σ x0 x1 x2 hc hj => by
  have h0 : c = 0 := by omega
  subst h0
  obtain ⟨r, σ1, σ2, e1, e2, _⟩ := h 0 σ x0 x1 x2 (by omega) (hI σ hj)
  exact ⟨r, σ1, σ2, e1, e2, hJ _⟩
theorem lw_first_10 {I J : Nat → Mem → Prop} (h : Ok_10 I) (hI : ∀ σ, J 0 σ → I 0 σ) (hJ : ∀ τ, J 1 τ) : ∀ (c : Nat) (σ : Mem) (x0 : Int32) (x1 : Int32) (x2 : Int32) (x3 : Int32), c < 1 → J c σ → ∃ (r : Bool) (σ1 : Mem) (σ2 : Mem), f_X10_seek σ x0 x1 x2 x3 = some (r, σ1) ∧ f_X11_seek σ1 x0 x1 x2 x3 = some (r, σ2) ∧ J (c + 1) σ2 := fun c σ x0 x1 x2 x3 hc hj => by
  have h0 : c = 0 := by omega
  subst h0
  obtain ⟨r, σ1, σ2, e1, e2, _⟩ := h 0 σ x0 x1 x2 x3 (by omega) (hI σ hj)
  exact ⟨r, σ1, σ2, e1, e2, hJ _⟩
theorem lw_first_11 {I J : Nat → Mem → Prop} (h : Ok_11 I) (hI : ∀ σ, J 0 σ → I 0 σ) (hJ : ∀ τ, J 1 τ) : ∀ (c : Nat) (σ : Mem) (x0 : Int32) (x1 : Int32) (x2 : Int32) (x3 : Int32) (x4 : Int32), c < 1 → J c σ → ∃ (r : Int32) (σ1 : Mem) (σ2 : Mem), f_X10_feed σ x0 x1 x2 x3 x4 = some (r, σ1) ∧ f_X11_feed σ1 x0 x1 x2 x3 x4 = some (r, σ2) ∧ J (c + 1) σ2 := fun c σ x0 x1 x2 x3 x4 hc hj => by
  have h0 : c = 0 := by omega
  subst h0
  obtain ⟨r, σ1, σ2, e1, e2, _⟩ := h 0 σ x0 x1 x2 x3 x4 (by omega) (hI σ hj)
  exact ⟨r, σ1, σ2, e1, e2, hJ _⟩
theorem lw_first_12 {I J : Nat → Mem → Prop} (h : Ok_12 I) (hI : ∀ σ, J 0 σ → I 0 σ) (hJ : ∀ τ, J 1 τ) : ∀ (c : Nat) (σ : Mem) (x0 : Int32), c < 1 → J c σ → ∃ (r : Bool) (σ1 : Mem) (σ2 : Mem), f_X10_end σ x0 = some (r, σ1) ∧ f_X11_end σ1 x0 = some (r, σ2) ∧ J (c + 1) σ2 := fun c σ x0 hc hj => by
  have h0 : c = 0 := by omega
  subst h0
  obtain ⟨r, σ1, σ2, e1, e2, _⟩ := h 0 σ x0 (by omega) (hI σ hj)
  exact ⟨r, σ1, σ2, e1, e2, hJ _⟩
theorem lw_first_13 {I J : Nat → Mem → Prop} (h : Ok_13 I) (hI : ∀ σ, J 0 σ → I 0 σ) (hJ : ∀ τ, J 1 τ) : ∀ (c : Nat) (σ : Mem) (x0 : Int32), c < 1 → J c σ → ∃ (r : Bool) (σ1 : Mem) (σ2 : Mem), f_X10_text σ x0 = some (r, σ1) ∧ f_X11_text σ1 x0 = some (r, σ2) ∧ J (c + 1) σ2 := fun c σ x0 hc hj => by
  have h0 : c = 0 := by omega
  subst h0
  obtain ⟨r, σ1, σ2, e1, e2, _⟩ := h 0 σ x0 (by omega) (hI σ hj)
  exact ⟨r, σ1, σ2, e1, e2, hJ _⟩
theorem lw_first_14 {I J : Nat → Mem → Prop} (h : Ok_14 I) (hI : ∀ σ, J 0 σ → I 0 σ) (hJ : ∀ τ, J 1 τ) : ∀ (c : Nat) (σ : Mem) (x0 : Int32), c < 1 → J c σ → ∃ (r : Int32) (σ2 : Mem), f_X10_fault σ x0 = some r ∧ f_X11_fault σ x0 = some (r, σ2) ∧ J (c + 1) σ2 := fun c σ x0 hc hj => by
  have h0 : c = 0 := by omega
  subst h0
  obtain ⟨r, σ2, e1, e2, _⟩ := h 0 σ x0 (by omega) (hI σ hj)
  exact ⟨r, σ2, e1, e2, hJ _⟩
theorem lw_first_15 {I J : Nat → Mem → Prop} (h : Ok_15 I) (hI : ∀ σ, J 0 σ → I 0 σ) (hJ : ∀ τ, J 1 τ) : ∀ (c : Nat) (σ : Mem), c < 1 → J c σ → ∃ (r : Int32) (σ1 : Mem) (σ2 : Mem), f_X10_collect σ = some (r, σ1) ∧ f_X11_collect σ1 = some (r, σ2) ∧ J (c + 1) σ2 := fun c σ hc hj => by
  have h0 : c = 0 := by omega
  subst h0
  obtain ⟨r, σ1, σ2, e1, e2, _⟩ := h 0 σ (by omega) (hI σ hj)
  exact ⟨r, σ1, σ2, e1, e2, hJ _⟩
theorem lw_first_16 {I J : Nat → Mem → Prop} (h : Ok_16 I) (hI : ∀ σ, J 0 σ → I 0 σ) (hJ : ∀ τ, J 1 τ) : ∀ (c : Nat) (σ : Mem) (x0 : Int32), c < 1 → J c σ → ∃ (r : Int32) (σ2 : Mem), f_X10_collected σ x0 = some r ∧ f_X11_collected σ x0 = some (r, σ2) ∧ J (c + 1) σ2 := fun c σ x0 hc hj => by
  have h0 : c = 0 := by omega
  subst h0
  obtain ⟨r, σ2, e1, e2, _⟩ := h 0 σ x0 (by omega) (hI σ hj)
  exact ⟨r, σ2, e1, e2, hJ _⟩
theorem lw_first_17 {I J : Nat → Mem → Prop} (h : Ok_17 I) (hI : ∀ σ, J 0 σ → I 0 σ) (hJ : ∀ τ, J 1 τ) : ∀ (c : Nat) (σ : Mem), c < 1 → J c σ → ∃ (r : Int32) (σ2 : Mem), f_X10_consistent σ = some r ∧ f_X11_consistent σ = some (r, σ2) ∧ J (c + 1) σ2 := fun c σ hc hj => by
  have h0 : c = 0 := by omega
  subst h0
  obtain ⟨r, σ2, e1, e2, _⟩ := h 0 σ (by omega) (hI σ hj)
  exact ⟨r, σ2, e1, e2, hJ _⟩
theorem lw_first_18 {I J : Nat → Mem → Prop} (h : Ok_18 I) (hI : ∀ σ, J 0 σ → I 0 σ) (hJ : ∀ τ, J 1 τ) : ∀ (c : Nat) (σ : Mem) (x0 : Int32) (x1 : Int32), c < 1 → J c σ → ∃ (r : Int32) (σ2 : Mem), f_X10_exponent σ x0 x1 = some r ∧ f_X11_exponent σ x0 x1 = some (r, σ2) ∧ J (c + 1) σ2 := fun c σ x0 x1 hc hj => by
  have h0 : c = 0 := by omega
  subst h0
  obtain ⟨r, σ2, e1, e2, _⟩ := h 0 σ x0 x1 (by omega) (hI σ hj)
  exact ⟨r, σ2, e1, e2, hJ _⟩
theorem lw_first_19 {I J : Nat → Mem → Prop} (h : Ok_19 I) (hI : ∀ σ, J 0 σ → I 0 σ) (hJ : ∀ τ, J 1 τ) : ∀ (c : Nat) (σ : Mem) (x0 : Int32) (x1 : Int32), c < 1 → J c σ → ∃ (r : Int32) (σ2 : Mem), f_X10_generator σ x0 x1 = some r ∧ f_X11_generator σ x0 x1 = some (r, σ2) ∧ J (c + 1) σ2 := fun c σ x0 x1 hc hj => by
  have h0 : c = 0 := by omega
  subst h0
  obtain ⟨r, σ2, e1, e2, _⟩ := h 0 σ x0 x1 (by omega) (hI σ hj)
  exact ⟨r, σ2, e1, e2, hJ _⟩
theorem lw_first_20 {I J : Nat → Mem → Prop} (h : Ok_20 I) (hI : ∀ σ, J 0 σ → I 0 σ) (hJ : ∀ τ, J 1 τ) : ∀ (c : Nat) (σ : Mem) (x0 : Int32) (x1 : Int32) (x2 : Int32), c < 1 → J c σ → ∃ (r : Int32) (σ2 : Mem), f_X10_tailOf σ x0 x1 x2 = some r ∧ f_X11_tailOf σ x0 x1 x2 = some (r, σ2) ∧ J (c + 1) σ2 := fun c σ x0 x1 x2 hc hj => by
  have h0 : c = 0 := by omega
  subst h0
  obtain ⟨r, σ2, e1, e2, _⟩ := h 0 σ x0 x1 x2 (by omega) (hI σ hj)
  exact ⟨r, σ2, e1, e2, hJ _⟩
theorem lw_first_21 {I J : Nat → Mem → Prop} (h : Ok_21 I) (hI : ∀ σ, J 0 σ → I 0 σ) (hJ : ∀ τ, J 1 τ) : ∀ (c : Nat) (σ : Mem) (x0 : Int32), c < 1 → J c σ → ∃ (r : Int32) (σ2 : Mem), f_X10_terms σ x0 = some r ∧ f_X11_terms σ x0 = some (r, σ2) ∧ J (c + 1) σ2 := fun c σ x0 hc hj => by
  have h0 : c = 0 := by omega
  subst h0
  obtain ⟨r, σ2, e1, e2, _⟩ := h 0 σ x0 (by omega) (hI σ hj)
  exact ⟨r, σ2, e1, e2, hJ _⟩
theorem lw_first_22 {I J : Nat → Mem → Prop} (h : Ok_22 I) (hI : ∀ σ, J 0 σ → I 0 σ) (hJ : ∀ τ, J 1 τ) : ∀ (c : Nat) (σ : Mem) (x0 : Int32) (x1 : Int32) (x2 : Int32), c < 1 → J c σ → ∃ (r : Int32) (σ2 : Mem), f_X10_term σ x0 x1 x2 = some r ∧ f_X11_term σ x0 x1 x2 = some (r, σ2) ∧ J (c + 1) σ2 := fun c σ x0 x1 x2 hc hj => by
  have h0 : c = 0 := by omega
  subst h0
  obtain ⟨r, σ2, e1, e2, _⟩ := h 0 σ x0 x1 x2 (by omega) (hI σ hj)
  exact ⟨r, σ2, e1, e2, hJ _⟩
theorem lw_first_23 {I J : Nat → Mem → Prop} (h : Ok_23 I) (hI : ∀ σ, J 0 σ → I 0 σ) (hJ : ∀ τ, J 1 τ) : ∀ (c : Nat) (σ : Mem) (x0 : Int32) (x1 : Int32), c < 1 → J c σ → ∃ (r : Int32) (σ1 : Mem) (σ2 : Mem), f_X10_register σ x0 x1 = some (r, σ1) ∧ f_X11_register σ1 x0 x1 = some (r, σ2) ∧ J (c + 1) σ2 := fun c σ x0 x1 hc hj => by
  have h0 : c = 0 := by omega
  subst h0
  obtain ⟨r, σ1, σ2, e1, e2, _⟩ := h 0 σ x0 x1 (by omega) (hI σ hj)
  exact ⟨r, σ1, σ2, e1, e2, hJ _⟩
theorem lw_first_24 {I J : Nat → Mem → Prop} (h : Ok_24 I) (hI : ∀ σ, J 0 σ → I 0 σ) (hJ : ∀ τ, J 1 τ) : ∀ (c : Nat) (σ : Mem) (x0 : Int32) (x1 : Int32) (x2 : Int32), c < 1 → J c σ → ∃ (r : Int32) (σ1 : Mem) (σ2 : Mem), f_X10_both σ x0 x1 x2 = some (r, σ1) ∧ f_X11_both σ1 x0 x1 x2 = some (r, σ2) ∧ J (c + 1) σ2 := fun c σ x0 x1 x2 hc hj => by
  have h0 : c = 0 := by omega
  subst h0
  obtain ⟨r, σ1, σ2, e1, e2, _⟩ := h 0 σ x0 x1 x2 (by omega) (hI σ hj)
  exact ⟨r, σ1, σ2, e1, e2, hJ _⟩
theorem lw_first_25 {I J : Nat → Mem → Prop} (h : Ok_25 I) (hI : ∀ σ, J 0 σ → I 0 σ) (hJ : ∀ τ, J 1 τ) : ∀ (c : Nat) (σ : Mem) (x0 : Int32) (x1 : Int32), c < 1 → J c σ → ∃ (r : Int32) (σ1 : Mem) (σ2 : Mem), f_X10_alike σ x0 x1 = some (r, σ1) ∧ f_X11_alike σ1 x0 x1 = some (r, σ2) ∧ J (c + 1) σ2 := fun c σ x0 x1 hc hj => by
  have h0 : c = 0 := by omega
  subst h0
  obtain ⟨r, σ1, σ2, e1, e2, _⟩ := h 0 σ x0 x1 (by omega) (hI σ hj)
  exact ⟨r, σ1, σ2, e1, e2, hJ _⟩
theorem lw_first_26 {I J : Nat → Mem → Prop} (h : Ok_26 I) (hI : ∀ σ, J 0 σ → I 0 σ) (hJ : ∀ τ, J 1 τ) : ∀ (c : Nat) (σ : Mem) (x0 : Int32) (x1 : Int32), c < 1 → J c σ → ∃ (r : Int32) (σ2 : Mem), f_X10_shape σ x0 x1 = some r ∧ f_X11_shape σ x0 x1 = some (r, σ2) ∧ J (c + 1) σ2 := fun c σ x0 x1 hc hj => by
  have h0 : c = 0 := by omega
  subst h0
  obtain ⟨r, σ2, e1, e2, _⟩ := h 0 σ x0 x1 (by omega) (hI σ hj)
  exact ⟨r, σ2, e1, e2, hJ _⟩
theorem lw_first_27 {I J : Nat → Mem → Prop} (h : Ok_27 I) (hI : ∀ σ, J 0 σ → I 0 σ) (hJ : ∀ τ, J 1 τ) : ∀ (c : Nat) (σ : Mem) (x0 : Int32) (x1 : Int32) (x2 : Int32), c < 1 → J c σ → ∃ (r : Int64) (σ1 : Mem) (σ2 : Mem), f_X10_powers σ x0 x1 x2 = some (r, σ1) ∧ f_X11_powers σ1 x0 x1 x2 = some (r, σ2) ∧ J (c + 1) σ2 := fun c σ x0 x1 x2 hc hj => by
  have h0 : c = 0 := by omega
  subst h0
  obtain ⟨r, σ1, σ2, e1, e2, _⟩ := h 0 σ x0 x1 x2 (by omega) (hI σ hj)
  exact ⟨r, σ1, σ2, e1, e2, hJ _⟩
theorem lw_first_28 {I J : Nat → Mem → Prop} (h : Ok_28 I) (hI : ∀ σ, J 0 σ → I 0 σ) (hJ : ∀ τ, J 1 τ) : ∀ (c : Nat) (σ : Mem) (x0 : Int32) (x1 : Int32) (x2 : Int32), c < 1 → J c σ → ∃ (r : Int32) (σ1 : Mem) (σ2 : Mem), f_X10_associates σ x0 x1 x2 = some (r, σ1) ∧ f_X11_associates σ1 x0 x1 x2 = some (r, σ2) ∧ J (c + 1) σ2 := fun c σ x0 x1 x2 hc hj => by
  have h0 : c = 0 := by omega
  subst h0
  obtain ⟨r, σ1, σ2, e1, e2, _⟩ := h 0 σ x0 x1 x2 (by omega) (hI σ hj)
  exact ⟨r, σ1, σ2, e1, e2, hJ _⟩
theorem lw_first_29 {I J : Nat → Mem → Prop} (h : Ok_29 I) (hI : ∀ σ, J 0 σ → I 0 σ) (hJ : ∀ τ, J 1 τ) : ∀ (c : Nat) (σ : Mem) (x0 : Int32), c < 1 → J c σ → ∃ (r : Int32) (σ1 : Mem) (σ2 : Mem), f_X10_ball σ x0 = some (r, σ1) ∧ f_X11_ball σ1 x0 = some (r, σ2) ∧ J (c + 1) σ2 := fun c σ x0 hc hj => by
  have h0 : c = 0 := by omega
  subst h0
  obtain ⟨r, σ1, σ2, e1, e2, _⟩ := h 0 σ x0 (by omega) (hI σ hj)
  exact ⟨r, σ1, σ2, e1, e2, hJ _⟩
theorem lw_first_30 {I J : Nat → Mem → Prop} (h : Ok_30 I) (hI : ∀ σ, J 0 σ → I 0 σ) (hJ : ∀ τ, J 1 τ) : ∀ (c : Nat) (σ : Mem), c < 1 → J c σ → ∃ (r : Int32) (σ1 : Mem) (σ2 : Mem), f_X10_undo σ = some (r, σ1) ∧ f_X11_undo σ1 = some (r, σ2) ∧ J (c + 1) σ2 := fun c σ hc hj => by
  have h0 : c = 0 := by omega
  subst h0
  obtain ⟨r, σ1, σ2, e1, e2, _⟩ := h 0 σ (by omega) (hI σ hj)
  exact ⟨r, σ1, σ2, e1, e2, hJ _⟩
theorem lw_first_31 {I J : Nat → Mem → Prop} (h : Ok_31 I) (hI : ∀ σ, J 0 σ → I 0 σ) (hJ : ∀ τ, J 1 τ) : ∀ (c : Nat) (σ : Mem) (x0 : Bool), c < 1 → J c σ → ∃ (r : Bool) (σ1 : Mem) (σ2 : Mem), f_X10_image σ x0 = some (r, σ1) ∧ f_X11_image σ1 x0 = some (r, σ2) ∧ J (c + 1) σ2 := fun c σ x0 hc hj => by
  have h0 : c = 0 := by omega
  subst h0
  obtain ⟨r, σ1, σ2, e1, e2, _⟩ := h 0 σ x0 (by omega) (hI σ hj)
  exact ⟨r, σ1, σ2, e1, e2, hJ _⟩
theorem lw_first_32 {I J : Nat → Mem → Prop} (h : Ok_32 I) (hI : ∀ σ, J 0 σ → I 0 σ) (hJ : ∀ τ, J 1 τ) : ∀ (c : Nat) (σ : Mem) (x0 : Int32), c < 1 → J c σ → ∃ (r : Int32) (σ2 : Mem), f_X10_look σ x0 = some r ∧ f_X11_look σ x0 = some (r, σ2) ∧ J (c + 1) σ2 := fun c σ x0 hc hj => by
  have h0 : c = 0 := by omega
  subst h0
  obtain ⟨r, σ2, e1, e2, _⟩ := h 0 σ x0 (by omega) (hI σ hj)
  exact ⟨r, σ2, e1, e2, hJ _⟩
