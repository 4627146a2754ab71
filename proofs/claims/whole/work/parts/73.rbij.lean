/-! 73: bijections (the reference) -/
def lk (X Y : HG) (a : Nat → Nat) (k : Nat) : Prop := X.2.1 k = Y.2.1 (a k) ∧ ∀ j, j ≤ k → (j = k ∨ ¬ a j = a k) ∧ X.2.2 k j = Y.2.2 (a k) (a j)
noncomputable def lkB (X Y : HG) (a : Nat → Nat) (k : Nat) : Bool := @decide (lk X Y a k) (Classical.propDecidable _)
theorem lkB_t {X Y : HG} {a : Nat → Nat} {k : Nat} : lkB X Y a k = true ↔ lk X Y a k := ⟨fun h => @of_decide_eq_true _ (Classical.propDecidable _) h, fun h => @decide_eq_true _ (Classical.propDecidable _) h⟩
theorem lk_cg {X Y : HG} {a b : Nat → Nat} {k : Nat} (h : ∀ j, j ≤ k → a j = b j) (hl : lk X Y a k) : lk X Y b k := by
  obtain ⟨h1, h2⟩ := hl
  refine ⟨by rw [← h k (Nat.le_refl _)]; exact h1, fun j hj => ?_⟩
  rw [← h k (Nat.le_refl _), ← h j hj]
  exact h2 j hj
theorem lk_loc (X Y : HG) : Loc (lkB X Y) := fun a b k h => by
  cases h1 : lkB X Y b k with
  | true => exact lkB_t.mpr (lk_cg (fun j hj => (h j hj).symm) (lkB_t.mp h1))
  | false =>
    cases h2 : lkB X Y a k with
    | false => rfl
    | true =>
      have := lkB_t.mpr (lk_cg h (lkB_t.mp h2))
      rw [h1] at this
      cases this
theorem s_isLike {μ : HMem} {kx ky : Nat} {X Y : HG} (hkx : kx < 6) (hky : ky < 6) (hX : X.1 ≤ 8) (hY : Y.1 ≤ 8) (h1 : RG (μ.1 126) (73 * kx) X) (h2 : RG (μ.1 126) (73 * ky) Y) {a : Nat → Nat} {k : Nat} (hk : k < X.1) (hi : ∀ p, p ≤ k → μ.1 133 p = nI (a p) ∧ a p < Y.1) {Q : Int32 → HMem → Prop} (hQ : Q (bI (lkB X Y a k)) μ) : wp (f_Model_isLike (nI kx) (nI ky) (nI k) μ) Q := by
  obtain ⟨i1, i2⟩ := hi k (Nat.le_refl _)
  unfold f_Model_isLike f_Model_isLike_J25
  refine w_bde (e_mweight hkx hX h1 hk) ?_
  refine w_chk (in_N (by rw [show h_len 133 = 9 from rfl]; omega) (by decide)) ?_
  rw [cl_8 (by omega), i1]
  refine w_bde (e_mweight hky hY h2 i2) ?_
  have loop : ∀ b0, (b0 = true ↔ X.2.1 k = Y.2.1 (a k)) → wp (f_Model_isLike_L30 f_Model_isLike_J105 h_fuel (nI kx) (nI ky) (nI k) (bI b0) (nI 0) μ) Q := by
    intro b0 hb0
    refine w_for (fun f j (b : Bool) => wp (f_Model_isLike_L30 f_Model_isLike_J105 f (nI kx) (nI ky) (nI k) (bI b) (nI j) μ) Q) (fun j b => b = true ↔ X.2.1 k = Y.2.1 (a k) ∧ ∀ j', j' < j → (j' = k ∨ ¬ a j' = a k) ∧ X.2.2 k j' = Y.2.2 (a k) (a j')) (k + 1) ?_ ?_ 0 b0 (by omega) (by omega) (by rw [hb0]; exact ⟨fun h => ⟨h, fun j' h2 => absurd h2 (Nat.not_lt_zero _)⟩, fun h => h.1⟩)
    · rintro f b hb
      show wp (f_Model_isLike_L30_b f_Model_isLike_J105 (f_Model_isLike_L30 f_Model_isLike_J105 f) (nI kx) (nI ky) (nI k) (bI b) (nI (k + 1)) μ) Q
      unfold f_Model_isLike_L30_b f_Model_isLike_J105
      refine w_t (nI_lt (by omega) (by omega)) ?_
      rw [e_J]
      have : b = lkB X Y a k := by
        have h3 : b = true ↔ lkB X Y a k = true := by
          rw [lkB_t, hb]
          exact ⟨fun h => ⟨h.1, fun j hj => h.2 j (by omega)⟩, fun h => ⟨h.1, fun j hj => h.2 j (by omega)⟩⟩
        revert h3
        cases b <;> cases lkB X Y a k <;> simp
      rw [this]
      exact w_ret hQ
    · rintro f j b hj hb ih
      show wp (f_Model_isLike_L30_b f_Model_isLike_J105 (f_Model_isLike_L30 f_Model_isLike_J105 f) (nI kx) (nI ky) (nI k) (bI b) (nI j) μ) Q
      unfold f_Model_isLike_L30_b f_Model_isLike_J96 f_Model_isLike_J63 f_Model_isLike_J97 f_Model_isLike_J96 f_Model_isLike_J97 f_Model_isLike_J105
      refine w_f (nI_nlt (by omega) (by omega)) ?_
      rw [e_J]
      refine w_if (fun h0 => ?_) (fun h0 => ?_)
      · rw [bI_0] at h0
        subst h0
        have : lkB X Y a k = false := by
          cases h3 : lkB X Y a k with
          | false => rfl
          | true =>
            have h4 := lkB_t.mp h3
            have := hb.mpr ⟨h4.1, fun j' hj' => h4.2 j' (by omega)⟩
            cases this
        rw [this] at hQ
        exact w_ret hQ
      · rw [bI_n] at h0
        have hb1 := hb.mp h0
        obtain ⟨v1, v2⟩ := hi j (by omega)
        have step : (j = k ∨ ¬ a j = a k) → wp (h_bd (f_Model_between (nI kx) (nI k) (nI j) μ) (fun r68 μ_68 => h_chk (nI k) (h_len 133) (h_chk (nI j) (h_len 133) (h_bd (f_Model_between (nI ky) (μ_68.1 133 (Int32.toNatClampNeg (nI k))) (μ_68.1 133 (Int32.toNatClampNeg (nI j))) μ_68) (fun r86 μ_86 => if ¬ r68 = r86 then h_let (nI j + 1) (fun v5_99 => f_Model_isLike_L30 (fun v4 μ => if v4 &&& 1 = v4 then some (v4, μ) else none) f (nI kx) (nI ky) (nI k) 0 v5_99 μ_86) else h_let (nI j + 1) (fun v5_99 => f_Model_isLike_L30 (fun v4 μ => if v4 &&& 1 = v4 then some (v4, μ) else none) f (nI kx) (nI ky) (nI k) 1 v5_99 μ_86)))))) Q := by
          intro hne
          refine w_bde (e_mbetween hkx hX h1 hk (by omega)) ?_
          refine w_chk (in_N (by rw [show h_len 133 = 9 from rfl]; omega) (by decide)) ?_
          refine w_chk (in_N (by rw [show h_len 133 = 9 from rfl]; omega) (by decide)) ?_
          rw [cl_8 (u := k) (by omega), cl_8 (u := j) (by omega), i1, v1]
          refine w_bde (e_mbetween hky hY h2 i2 v2) ?_
          refine w_if (fun h3 => ?_) (fun h3 => ?_)
          · refine w_let ?_
            rw [nI_1]
            exact ih false ⟨fun h => (by cases h), fun h => absurd (h.2 j (by omega)).2 h3⟩
          · have h3 := Classical.not_not.mp h3
            refine w_let ?_
            rw [nI_1]
            refine ih true ⟨fun _ => ⟨hb1.1, fun j' h5 => ?_⟩, fun _ => rfl⟩
            rcases Nat.lt_or_ge j' j with h7 | h7
            · exact hb1.2 j' h7
            · have : j' = j := by omega
              subst this
              exact ⟨hne, h3⟩
        refine w_if (fun h3 => ?_) (fun h3 => ?_)
        · exact step (Or.inl ((nI_eq (by omega) (by omega)).mp h3))
        · refine w_chk (in_N (by rw [show h_len 133 = 9 from rfl]; omega) (by decide)) ?_
          refine w_chk (in_N (by rw [show h_len 133 = 9 from rfl]; omega) (by decide)) ?_
          refine w_if (fun h4 => ?_) (fun h4 => ?_)
          · rw [cl_8 (u := k) (by omega), cl_8 (u := j) (by omega), i1, v1, nI_eq (by omega) (by omega)] at h4
            refine w_let ?_
            rw [nI_1]
            refine ih false ⟨fun h => (by cases h), fun h => ?_⟩
            rcases (h.2 j (by omega)).1 with h5 | h5
            · exact absurd ((nI_eq (by omega) (by omega)).mpr h5) h3
            · exact absurd h4 h5
          · rw [cl_8 (u := k) (by omega), cl_8 (u := j) (by omega), i1, v1, nI_eq (by omega) (by omega)] at h4
            exact step (Or.inr h4)
  refine w_if (fun h3 => ?_) (fun h3 => ?_)
  · exact loop false ⟨fun h => (by cases h), fun h => absurd h h3⟩
  · exact loop true ⟨fun _ => Classical.not_not.mp h3, fun _ => rfl⟩
abbrev BS : Type := Nat × (Nat → Nat) × Nat × Nat × HMem
theorem ds_leaf {n : Nat} {a : Nat → Nat} {t : Nat} : dsF 0 n n a (a (n - 1) + 1) ≤ dsF 0 n (n + 1) a t := by
  cases n with
  | zero => exact Nat.zero_le _
  | succ k =>
    show sm (fun i => (8 - a (0 + i)) * 10 ^ (8 - i)) k + (if k < k + 1 then (9 - (a k + 1)) * 10 ^ (8 - k) else 0) ≤ sm (fun i => (8 - a (0 + i)) * 10 ^ (8 - i)) k + (8 - a (0 + k)) * 10 ^ (8 - k) + (if k + 1 < k + 1 then (9 - t) * 10 ^ (8 - (k + 1)) else 0)
    rw [if_pos (by omega), if_neg (by omega), Nat.zero_add, show 9 - (a k + 1) = 8 - a k by omega]
    omega
theorem s_bijectionsOf {μ : HMem} {kx ky : Nat} {X Y : HG} (hkx : kx < 6) (hky : ky < 6) (hX : X.1 ≤ 8) (hY : Y.1 ≤ 8) (h1 : RG (μ.1 126) (73 * kx) X) (h2 : RG (μ.1 126) (73 * ky) Y) {Q : Int32 → HMem → Prop} (hQ : ∀ μ', Fr 133 134 μ μ' → Q (nI (if X.1 = Y.1 then tr (lkB X Y) X.1 X.1 (fun _ => 0) 0 else 0)) μ') : wp (f_Model_bijectionsOf (nI kx) (nI ky) μ) Q := by
  unfold f_Model_bijectionsOf f_Model_bijectionsOf_J23
  refine w_bde (e_msize hkx h1) ?_
  refine w_bde (e_msize hky h2) ?_
  refine w_if (fun h0 => ?_) (fun h0 => ?_)
  · have h0 : ¬ X.1 = Y.1 := fun h => h0 (by rw [h])
    rw [if_neg h0] at hQ
    refine w_chk (in_N (u := 0) (by decide) (by decide)) ?_
    refine w_let ?_
    have : ∀ f, 0 < f → wp (f_Model_bijectionsOf_L32 f (nI kx) (nI ky) (nI X.1) 0 (-1) (h_wi μ 133 (Int32.toNatClampNeg 0) (-1))) Q := by
      intro f hf
      cases f with
      | zero => exact absurd hf (Nat.lt_irrefl 0)
      | succ f =>
        show wp (f_Model_bijectionsOf_L32_b (f_Model_bijectionsOf_L32 f) (nI kx) (nI ky) (nI X.1) 0 (-1) (h_wi μ 133 (Int32.toNatClampNeg 0) (-1))) Q
        unfold f_Model_bijectionsOf_L32_b
        exact w_t (by decide) (w_ret (hQ _ (Fr.wi (by omega) (by omega))))
    exact this h_fuel (by unfold h_fuel; omega)
  · have h0 : X.1 = Y.1 := (nI_eq (by omega) (by omega)).mp (Classical.not_not.mp h0)
    rw [if_pos h0] at hQ
    have hC := lk_loc X Y
    generalize hn : X.1 = n at *
    refine w_chk (in_N (u := 0) (by decide) (by decide)) ?_
    refine w_let ?_
    rw [show (0 : Int32).toNatClampNeg = 0 by decide]
    have e0 : ∀ z z' : Int32, z = nI 0 → z' = nI 1 - 1 → wp (f_Model_bijectionsOf_L32 h_fuel (nI kx) (nI ky) (nI n) z z' (h_wi μ 133 0 (-1))) Q := ?_
    · exact e0 0 0 rfl (by decide)
    rintro z z' rfl rfl
    refine w_loopF (fun f (s : BS) => wp (f_Model_bijectionsOf_L32 f (nI kx) (nI ky) (nI n) (nI s.2.2.2.1) (nI s.1 - 1) s.2.2.2.2) Q) (fun s => s.1 ≤ n + 1 ∧ Fr 133 134 μ s.2.2.2.2 ∧ (∀ i, i + 1 < s.1 → s.2.2.2.2.1 133 i = nI (s.2.1 i) ∧ s.2.1 i < n) ∧ (0 < s.1 → s.1 ≤ n → s.2.2.1 ≤ n ∧ s.2.2.2.2.1 133 (s.1 - 1) = nI s.2.2.1 - 1) ∧ s.2.2.2.1 + rm (lkB X Y) n n s.1 s.2.1 s.2.2.1 = tr (lkB X Y) n n (fun _ => 0) 0) (fun s => 2 * dsF 0 n s.1 s.2.1 s.2.2.1 + (if s.1 = n + 1 then 1 else 0)) ?_ (1, fun _ => 0, 0, 0, h_wi μ 133 0 (-1)) ⟨by show 1 ≤ n + 1; omega, Fr.wi (by omega) (by omega), fun i hi2 => by replace hi2 : i + 1 < 1 := hi2; omega, fun _ _ => ⟨Nat.zero_le _, ?_⟩, ?_⟩ ?_
    · rintro f ⟨j, a, t, found, m⟩ ⟨g1, g2, g3, g4, g5⟩ ih
      show wp (f_Model_bijectionsOf_L32_b (f_Model_bijectionsOf_L32 f) (nI kx) (nI ky) (nI n) (nI found) (nI j - 1) m) Q
      replace g1 : j ≤ n + 1 := g1
      replace g2 : Fr 133 134 μ m := g2
      replace g3 : ∀ i, i + 1 < j → m.1 133 i = nI (a i) ∧ a i < n := g3
      replace g4 : 0 < j → j ≤ n → t ≤ n ∧ m.1 133 (j - 1) = nI t - 1 := g4
      replace g5 : found + rm (lkB X Y) n n j a t = tr (lkB X Y) n n (fun _ => 0) 0 := g5
      unfold f_Model_bijectionsOf_L32_b
      cases j with
      | zero =>
        refine w_t dn0 ?_
        have e : found = tr (lkB X Y) n n (fun _ => 0) 0 := g5
        rw [e]
        exact w_ret (hQ m g2)
      | succ k =>
        refine w_f (dnS (by omega)) ?_
        rw [nI_pred]
        rcases Nat.lt_or_ge k n with hk | hk
        · obtain ⟨g4a, g4b⟩ := g4 (by omega) (by omega)
          replace g4b : m.1 133 k = nI t - 1 := g4b
          refine w_t (fun h => by have := (nI_eq (by omega) (by omega)).mp h; omega) ?_
          refine w_chk (in_N (by rw [show h_len 133 = 9 from rfl]; omega) (by decide)) ?_
          refine w_chk (in_N (by rw [show h_len 133 = 9 from rfl]; omega) (by decide)) ?_
          refine w_let ?_
          rw [cl_8 (by omega), g4b, show nI t - 1 + 1 = nI t by rw [← dn, Int32.add_assoc, show (-1 : Int32) + 1 = 0 by decide, Int32.add_zero]]
          refine w_for (fun f2 s (m2 : HMem) => wp (f_Model_bijectionsOf_L63 (f_Model_bijectionsOf_J99 (f_Model_bijectionsOf_L32 f)) f2 (nI kx) (nI ky) (nI n) (nI found) (nI k) m2) Q) (fun s m2 => t ≤ s ∧ Fr 133 134 m m2 ∧ m2.1 133 k = nI s ∧ (∀ i, i < k → m2.1 133 i = nI (a i)) ∧ ∀ s', t ≤ s' → s' < s → lkB X Y (ly a k s') k = false) n ?_ ?_ t _ g4a (by omega) ⟨Nat.le_refl _, Fr.wi (by omega) (by omega), wi_s _ _ _ _, fun i hi => by rw [wi_n _ _ (Or.inr (by omega))]; exact (g3 i (by omega)).1, fun s' h3 h4 => by omega⟩
          · rintro f2 m2 ⟨k1, k2, k3, k4, k5⟩
            show wp (f_Model_bijectionsOf_L63_b (f_Model_bijectionsOf_J99 (f_Model_bijectionsOf_L32 f)) (f_Model_bijectionsOf_L63 (f_Model_bijectionsOf_J99 (f_Model_bijectionsOf_L32 f)) f2) (nI kx) (nI ky) (nI n) (nI found) (nI k) m2) Q
            unfold f_Model_bijectionsOf_L63_b f_Model_bijectionsOf_J99
            refine w_chk (in_N (by rw [show h_len 133 = 9 from rfl]; omega) (by decide)) ?_
            rw [cl_8 (by omega), k3]
            refine w_t (nI_le (Nat.le_refl _) (by omega)) ?_
            refine w_chk (in_N (by rw [show h_len 133 = 9 from rfl]; omega) (by decide)) ?_
            refine w_t (nI_le (Nat.le_refl _) (by omega)) ?_
            refine w_let ?_
            rw [dn]
            refine ih (k, a, a (k - 1) + 1, found, m2) ⟨by show k ≤ n + 1; omega, g2.trans k2 (by omega) (by omega) (by omega) (by omega), fun i hi => ?_, fun h3 h4 => ?_, ?_⟩ ?_
            · replace hi : i + 1 < k := hi
              exact ⟨k4 i (by omega), (g3 i (by omega)).2⟩
            · replace h3 : 0 < k := h3
              obtain ⟨q1, q2⟩ := g3 (k - 1) (by omega)
              refine ⟨by show a (k - 1) + 1 ≤ n; omega, ?_⟩
              show m2.1 133 (k - 1) = nI (a (k - 1) + 1) - 1
              rw [nI_pred]
              exact k4 _ (by omega)
            · show found + rm (lkB X Y) n n k a (a (k - 1) + 1) = _
              rw [← rm_up hk g4a (fun s h3 h4 => k5 s h3 h4)]
              exact g5
            · show 2 * dsF 0 n k a (a (k - 1) + 1) + (if k = n + 1 then 1 else 0) < 2 * dsF 0 n (k + 1) a t + (if k + 1 = n + 1 then 1 else 0)
              have := dsz_up (fr := 0) (L := n) (j := k) (t := t) (a := a) hk (by omega) (by omega)
              rw [Nat.zero_add] at this
              rw [if_neg (by omega), if_neg (by omega)]
              omega
          · rintro f2 s m2 hs ⟨k1, k2, k3, k4, k5⟩ ih2
            show wp (f_Model_bijectionsOf_L63_b (f_Model_bijectionsOf_J99 (f_Model_bijectionsOf_L32 f)) (f_Model_bijectionsOf_L63 (f_Model_bijectionsOf_J99 (f_Model_bijectionsOf_L32 f)) f2) (nI kx) (nI ky) (nI n) (nI found) (nI k) m2) Q
            unfold f_Model_bijectionsOf_L63_b
            refine w_chk (in_N (by rw [show h_len 133 = 9 from rfl]; omega) (by decide)) ?_
            rw [cl_8 (by omega), k3]
            refine w_f (nI_ge hs (by omega)) ?_
            refine w_bdk (s_isLike (X := X) (Y := Y) (a := ly a k s) hkx hky (by omega) hY (by rw [k2.i (by omega), g2.i (by omega)]; exact h1) (by rw [k2.i (by omega), g2.i (by omega)]; exact h2) (by omega) (fun p hp => ?_) ?_)
            · by_cases e : p = k
              · rw [e, ly_eq]
                exact ⟨k3, by omega⟩
              · rw [ly_lt (by omega)]
                exact ⟨k4 p (by omega), by rw [← h0]; exact (g3 p (by omega)).2⟩
            · refine w_if (fun h3 => ?_) (fun h3 => ?_)
              · rw [bI_n] at h3
                unfold f_Model_bijectionsOf_J99
                refine w_chk (in_N (by rw [show h_len 133 = 9 from rfl]; omega) (by decide)) ?_
                rw [cl_8 (by omega), k3]
                refine w_f (nI_ge hs (by omega)) ?_
                refine w_let ?_
                rw [nI_1]
                refine w_chk (in_N (by rw [show h_len 133 = 9 from rfl]; omega) (by decide)) ?_
                refine w_let ?_
                rw [cl_8 (by omega), show nI (k + 1) = nI (k + 2) - 1 from (nI_pred (k + 1)).symm]
                refine ih (k + 2, ly a k s, 0, found, h_wi m2 133 (k + 1) (-1)) ⟨by show k + 2 ≤ n + 1; omega, (g2.trans k2 (by omega) (by omega) (by omega) (by omega) : Fr 133 134 μ m2).trans (Fr.wi (a := 133) (b := 134) (by omega) (by omega)) (by omega) (by omega) (by omega) (by omega), fun i hi => ?_, fun _ _ => ⟨Nat.zero_le _, ?_⟩, ?_⟩ ?_
                · replace hi : i + 1 < k + 2 := hi
                  show (h_wi m2 133 (k + 1) (-1)).1 133 i = nI (ly a k s i) ∧ ly a k s i < n
                  rw [wi_n _ _ (Or.inr (by omega))]
                  by_cases e : i = k
                  · rw [e, ly_eq]
                    exact ⟨k3, hs⟩
                  · rw [ly_lt (by omega)]
                    exact ⟨k4 i (by omega), (g3 i (by omega)).2⟩
                · show (h_wi m2 133 (k + 1) (-1)).1 133 (k + 2 - 1) = nI 0 - 1
                  rw [show k + 2 - 1 = k + 1 by omega, wi_s]
                  decide
                · show found + rm (lkB X Y) n n (k + 2) (ly a k s) 0 = _
                  rw [← rm_down hC hk k1 hs (fun s' h5 h6 => k5 s' h5 h6) h3]
                  exact g5
                · show 2 * dsF 0 n (k + 2) (ly a k s) 0 + (if k + 2 = n + 1 then 1 else 0) < 2 * dsF 0 n (k + 1) a t + (if k + 1 = n + 1 then 1 else 0)
                  have := dsz_down (fr := 0) (L := n) (j := k) (t := t) (t1 := s) (a := a) (a2 := ly a k s) hk (by omega) k1 (by omega) (fun i hi => by rw [Nat.zero_add]; exact ly_lt hi) (by rw [Nat.zero_add]; exact ly_eq)
                  by_cases e : k + 2 = n + 1
                  · rw [if_pos e, if_neg (by omega)]
                    omega
                  · rw [if_neg e, if_neg (by omega)]
                    omega
              · have h3 := Classical.not_not.mp h3
                rw [bI_0] at h3
                refine w_chk (in_N (by rw [show h_len 133 = 9 from rfl]; omega) (by decide)) ?_
                refine w_chk (in_N (by rw [show h_len 133 = 9 from rfl]; omega) (by decide)) ?_
                refine w_let ?_
                rw [k3, nI_1]
                refine ih2 _ ⟨by omega, k2.trans (Fr.wi (a := 133) (b := 134) (by omega) (by omega)) (by omega) (by omega) (by omega) (by omega), wi_s _ _ _ _, fun i h4 => ?_, fun s' h4 h5 => ?_⟩
                · rw [wi_n _ _ (Or.inr (by omega))]
                  exact k4 i h4
                · rcases Nat.lt_or_ge s' s with h6 | h6
                  · exact k5 s' h4 h6
                  · have : s' = s := by omega
                    rw [this]
                    exact h3
        · have ek : k = n := by omega
          subst ek
          refine w_f (fun h => h rfl) ?_
          refine w_let ?_
          refine w_let ?_
          rw [dn, nI_1]
          refine ih (k, a, a (k - 1) + 1, found + 1, m) ⟨by show k ≤ k + 1; omega, g2, fun i hi => ?_, fun h3 h4 => ?_, ?_⟩ ?_
          · replace hi : i + 1 < k := hi
            exact g3 i (by omega)
          · replace h3 : 0 < k := h3
            obtain ⟨q1, q2⟩ := g3 (k - 1) (by omega)
            refine ⟨by show a (k - 1) + 1 ≤ k; omega, ?_⟩
            show m.1 133 (k - 1) = nI (a (k - 1) + 1) - 1
            rw [nI_pred]
            exact q1
          · show found + 1 + rm (lkB X Y) k k k a (a (k - 1) + 1) = _
            rw [← g5, rm_leaf]
            omega
          · show 2 * dsF 0 k k a (a (k - 1) + 1) + (if k = k + 1 then 1 else 0) < 2 * dsF 0 k (k + 1) a t + (if k + 1 = k + 1 then 1 else 0)
            have := ds_leaf (n := k) (a := a) (t := t)
            rw [if_neg (by omega), if_pos rfl]
            omega
    · show (h_wi μ 133 0 (-1)).1 133 0 = nI 0 - 1
      rw [wi_s]
      decide
    · show 0 + rm (lkB X Y) n n 1 (fun _ => 0) 0 = _
      rw [rm_0, Nat.zero_add]
    · show 2 * (0 + (if 0 < n then (9 - 0) * 10 ^ (8 - 0) else 0)) + (if 1 = n + 1 then 1 else 0) < _
      have e1 : (if 0 < n then (9 - 0) * 10 ^ (8 - 0) else 0) ≤ 900000000 := by
        by_cases h : 0 < n
        · rw [if_pos h]; decide
        · rw [if_neg h]; decide
      have e2 : (if 1 = n + 1 then 1 else 0) ≤ 1 := by
        by_cases h : 1 = n + 1
        · rw [if_pos h]; decide
        · rw [if_neg h]; decide
      omega
