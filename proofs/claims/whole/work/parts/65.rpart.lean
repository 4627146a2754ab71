/-! 65: the search for a homomorphism (the reference): one component -/
def adB (bn : Int32) (ld : Nat → Int32) (v t : Nat) : Bool := !decide (nI t = bn) && (decide (ld v < 0) || decide (ld v = nI t))
/-- what a place asks of its image -/
def pO (Ex Ey : Nat → Nat → Int32) (tn : Nat → Nat) (ad : Nat → Nat → Bool) (fr : Nat) (a : Nat → Nat) (i : Nat) : Prop := ad (tn i) (a i) = true ∧ ∀ j, fr ≤ j → j ≤ i → ¬ Ex (tn i) (tn j) = 0 → ¬ Ey (a i) (a j) = 0
theorem pO.cg {Ex Ey : Nat → Nat → Int32} {tn : Nat → Nat} {ad : Nat → Nat → Bool} {fr : Nat} {a b : Nat → Nat} {i : Nat} (hi : fr ≤ i) (h : pO Ex Ey tn ad fr a i) (e : ∀ j, fr ≤ j → j ≤ i → b j = a j) : pO Ex Ey tn ad fr b i := by
  obtain ⟨h1, h2⟩ := h
  refine ⟨?_, fun j h3 h4 h5 => ?_⟩
  · rw [e i hi (Nat.le_refl _)]; exact h1
  · rw [e i hi (Nat.le_refl _), e j h3 h4]; exact h2 j h3 h4 h5
def pS (Ex Ey : Nat → Nat → Int32) (M : Nat) (tn : Nat → Nat) (ad : Nat → Nat → Bool) (fr to : Nat) (a : Nat → Nat) : Prop := ∀ i, fr ≤ i → i < to → a i < M ∧ pO Ex Ey tn ad fr a i
theorem s_goes {μ : HMem} {kx ky : Nat} {X Y : HG} (hkx : kx < 6) (hky : ky < 6) (hX : X.1 ≤ 8) (hY : Y.1 ≤ 8) (h1 : RG (μ.1 126) (73 * kx) X) (h2 : RG (μ.1 126) (73 * ky) Y) {bn : Int32} {tn a : Nat → Nat} {fr k : Nat} (hk : fr ≤ k) (hk8 : k < 8) (ht : ∀ p, fr ≤ p → p ≤ k → μ.1 134 p = nI (tn p) ∧ tn p < X.1) (hi : ∀ p, fr ≤ p → p ≤ k → μ.1 133 (tn p) = nI (a p) ∧ a p < Y.1) {Q : Int32 → HMem → Prop} (hQ : ∀ b, (b = true ↔ pO X.2.2 Y.2.2 tn (adB bn (μ.1 135)) fr a k) → Q (bI b) μ) : wp (f_Model_goes (nI kx) (nI ky) (nI fr) (nI k) bn μ) Q := by
  obtain ⟨t1, t2⟩ := ht k hk (Nat.le_refl _)
  obtain ⟨i1, i2⟩ := hi k hk (Nat.le_refl _)
  unfold f_Model_goes f_Model_goes_J52 f_Model_goes_J48 f_Model_goes_J53
  refine w_chk (in_8 hk8 rfl) ?_
  refine w_let ?_
  rw [cl_8 (by omega), t1]
  refine w_chk (in_N (by rw [show h_len 133 = 9 from rfl]; omega) (by decide)) ?_
  rw [cl_8 (by omega), i1]
  have loop : ∀ b0, (b0 = true ↔ adB bn (μ.1 135) (tn k) (a k) = true) → wp (f_Model_goes_L58 f_Model_goes_J127 h_fuel (nI kx) (nI ky) (nI k) (nI (tn k)) (bI b0) (nI fr) μ) Q := by
    intro b0 hb0
    refine w_for (fun f j (b : Bool) => wp (f_Model_goes_L58 f_Model_goes_J127 f (nI kx) (nI ky) (nI k) (nI (tn k)) (bI b) (nI j) μ) Q) (fun j b => fr ≤ j ∧ (b = true ↔ adB bn (μ.1 135) (tn k) (a k) = true ∧ ∀ j', fr ≤ j' → j' < j → ¬ X.2.2 (tn k) (tn j') = 0 → ¬ Y.2.2 (a k) (a j') = 0)) (k + 1) ?_ ?_ fr b0 (by omega) (by omega) ⟨Nat.le_refl _, by rw [hb0]; exact ⟨fun h => ⟨h, fun j' h1 h2 => by omega⟩, fun h => h.1⟩⟩
    · rintro f b ⟨_, hb⟩
      show wp (f_Model_goes_L58_b f_Model_goes_J127 (f_Model_goes_L58 f_Model_goes_J127 f) (nI kx) (nI ky) (nI k) (nI (tn k)) (bI b) (nI (k + 1)) μ) Q
      unfold f_Model_goes_L58_b f_Model_goes_J127
      refine w_t (nI_lt (by omega) (by omega)) ?_
      rw [e_J]
      exact w_ret (hQ b (hb.trans ⟨fun h => ⟨h.1, fun j h3 h4 => h.2 j h3 (by omega)⟩, fun h => ⟨h.1, fun j h3 h4 => h.2 j h3 (by omega)⟩⟩))
    · rintro f j b hj ⟨hfj, hb⟩ ih
      show wp (f_Model_goes_L58_b f_Model_goes_J127 (f_Model_goes_L58 f_Model_goes_J127 f) (nI kx) (nI ky) (nI k) (nI (tn k)) (bI b) (nI j) μ) Q
      unfold f_Model_goes_L58_b f_Model_goes_J114 f_Model_goes_J119 f_Model_goes_J127
      refine w_f (nI_nlt (by omega) (by omega)) ?_
      rw [e_J]
      refine w_if (fun h0 => ?_) (fun h0 => ?_)
      · rw [bI_0] at h0
        refine w_ret (hQ b ?_)
        rw [hb]
        refine ⟨fun h => ?_, fun h => ⟨h.1, fun j' h3 h4 => h.2 j' h3 (by omega)⟩⟩
        rw [hb.mpr h] at h0
        cases h0
      · rw [bI_n] at h0
        have hb1 := hb.mp h0
        obtain ⟨u1, u2⟩ := ht j hfj (by omega)
        obtain ⟨v1, v2⟩ := hi j hfj (by omega)
        refine w_chk (in_8 (by omega) rfl) ?_
        rw [cl_8 (by omega), u1]
        refine w_bde (e_isNear hkx hX h1 t2 u2) ?_
        refine w_if (fun h3 => ?_) (fun h3 => ?_)
        · rw [bI_0, Bool.not_eq_false', decide_eq_true_iff] at h3
          refine w_let ?_
          rw [nI_1, show (1 : Int32) = bI true from rfl]
          refine ih true ⟨by omega, ⟨fun _ => ⟨hb1.1, fun j' h4 h5 => ?_⟩, fun _ => rfl⟩⟩
          rcases Nat.lt_or_ge j' j with h6 | h6
          · exact hb1.2 j' h4 h6
          · have : j' = j := by omega
            subst this
            exact fun h7 => absurd h3 h7
        · rw [bI_n, Bool.not_eq_true', decide_eq_false_iff_not] at h3
          refine w_chk (in_N (by rw [show h_len 133 = 9 from rfl]; omega) (by decide)) ?_
          refine w_chk (in_8 (by omega) rfl) ?_
          rw [u1]
          refine w_chk (in_N (by rw [show h_len 133 = 9 from rfl]; omega) (by decide)) ?_
          rw [cl_8 (u := tn k) (by omega), cl_8 (u := tn j) (by omega), i1, v1]
          refine w_bde (e_isNear hky hY h2 i2 v2) ?_
          refine w_if (fun h4 => ?_) (fun h4 => ?_)
          · rw [bI_0, Bool.not_eq_false', decide_eq_true_iff] at h4
            refine w_let ?_
            rw [nI_1, show (0 : Int32) = bI false from rfl]
            exact ih false ⟨by omega, ⟨fun h => (by cases h), fun h => absurd h4 (h.2 j hfj (by omega) h3)⟩⟩
          · rw [bI_n, Bool.not_eq_true', decide_eq_false_iff_not] at h4
            refine w_let ?_
            rw [nI_1, show (1 : Int32) = bI true from rfl]
            refine ih true ⟨by omega, ⟨fun _ => ⟨hb1.1, fun j' h5 h6 => ?_⟩, fun _ => rfl⟩⟩
            rcases Nat.lt_or_ge j' j with h7 | h7
            · exact hb1.2 j' h5 h7
            · have : j' = j := by omega
              subst this
              exact fun _ => h4
  refine w_if (fun h3 => ?_) (fun h3 => ?_)
  · rw [show (0 : Int32) = bI false from rfl]; exact loop false ⟨fun h => (by cases h), fun h => by unfold adB at h; rw [decide_eq_true h3] at h; cases h⟩
  · refine w_chk (in_8 (by omega) rfl) ?_
    refine w_if (fun h4 => ?_) (fun h4 => ?_)
    · rw [show (1 : Int32) = bI true from rfl]; exact loop true ⟨fun _ => by unfold adB; rw [decide_eq_false h3, decide_eq_true h4]; rfl, fun _ => rfl⟩
    · refine w_chk (in_8 (by omega) rfl) ?_
      refine w_chk (in_N (by rw [show h_len 133 = 9 from rfl]; omega) (by decide)) ?_
      refine w_if (fun h5 => ?_) (fun h5 => ?_)
      · rw [show (0 : Int32) = bI false from rfl]; exact loop false ⟨fun h => (by cases h), fun h => by unfold adB at h; rw [decide_eq_false h3, decide_eq_false h4, decide_eq_false h5] at h; cases h⟩
      · have h5 := Classical.not_not.mp h5
        rw [show (1 : Int32) = bI true from rfl]
        exact loop true ⟨fun _ => by unfold adB; rw [decide_eq_false h3, decide_eq_true h5]; simp, fun _ => rfl⟩
