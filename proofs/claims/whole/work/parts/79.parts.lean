/-! 79: partitions (the reference) -/
theorem s_isApart {μ : HMem} {kx : Nat} {X : HG} (hkx : kx < 6) (hX : X.1 ≤ 8) (h1 : RG (μ.1 126) (73 * kx) X) {a : Nat → Nat} {k : Nat} (hk : k < X.1) (hi : ∀ p, p ≤ k → μ.1 133 p = nI (a p) ∧ a p < 100) {Q : Int32 → HMem → Prop} (hQ : Q (bI (aP X a k)) μ) : wp (f_Model_isApart (nI kx) (nI k) μ) Q := by
  obtain ⟨i1, i2⟩ := hi k (Nat.le_refl _)
  unfold f_Model_isApart f_Model_isApart_J15
  refine w_bde (e_isNear hkx hX h1 hk hk) ?_
  have loop : ∀ b0, (b0 = true ↔ X.2.2 k k = 0) → wp (f_Model_isApart_L19 f_Model_isApart_J68 h_fuel (nI kx) (nI k) (bI b0) (nI 0) μ) Q := by
    intro b0 hb0
    refine w_for (fun f j (b : Bool) => wp (f_Model_isApart_L19 f_Model_isApart_J68 f (nI kx) (nI k) (bI b) (nI j) μ) Q) (fun j b => b = true ↔ X.2.2 k k = 0 ∧ ∀ j', j' < j → a j' = a k → X.2.2 k j' = 0) k ?_ ?_ 0 b0 (by omega) (by omega) (by rw [hb0]; exact ⟨fun h => ⟨h, fun j' h2 => absurd h2 (Nat.not_lt_zero _)⟩, fun h => h.1⟩)
    · rintro f b hb
      show wp (f_Model_isApart_L19_b f_Model_isApart_J68 (f_Model_isApart_L19 f_Model_isApart_J68 f) (nI kx) (nI k) (bI b) (nI k) μ) Q
      unfold f_Model_isApart_L19_b f_Model_isApart_J68
      refine w_t (nI_le (Nat.le_refl _) (by omega)) ?_
      rw [e_J]
      have : b = aP X a k := by
        have h3 : b = true ↔ aP X a k = true := by rw [aP_t, hb]
        revert h3
        cases b <;> cases aP X a k <;> simp
      rw [this]
      exact w_ret hQ
    · rintro f j b hj hb ih
      show wp (f_Model_isApart_L19_b f_Model_isApart_J68 (f_Model_isApart_L19 f_Model_isApart_J68 f) (nI kx) (nI k) (bI b) (nI j) μ) Q
      unfold f_Model_isApart_L19_b f_Model_isApart_J56 f_Model_isApart_J61 f_Model_isApart_J68
      refine w_f (nI_ge hj (by omega)) ?_
      rw [e_J]
      refine w_if (fun h0 => ?_) (fun h0 => ?_)
      · rw [bI_0] at h0
        subst h0
        have : aP X a k = false := by
          cases h3 : aP X a k with
          | false => rfl
          | true =>
            have h4 := aP_t.mp h3
            have := hb.mpr ⟨h4.1, fun j' hj' => h4.2 j' (by omega)⟩
            cases this
        rw [this] at hQ
        exact w_ret hQ
      · rw [bI_n] at h0
        have hb1 := hb.mp h0
        obtain ⟨v1, v2⟩ := hi j (by omega)
        refine w_chk (in_N (by rw [show h_len 133 = 9 from rfl]; omega) (by decide)) ?_
        refine w_chk (in_N (by rw [show h_len 133 = 9 from rfl]; omega) (by decide)) ?_
        rw [cl_8 (u := j) (by omega), cl_8 (u := k) (by omega), v1, i1]
        have yes : (a j = a k → X.2.2 k j = 0) → wp (h_let (nI j + 1) (fun v4_62 => f_Model_isApart_L19 (fun v3 μ => if v3 &&& 1 = v3 then some (v3, μ) else none) f (nI kx) (nI k) 1 v4_62 μ)) Q := by
          intro hs
          refine w_let ?_
          rw [nI_1]
          refine ih true ⟨fun _ => ⟨hb1.1, fun j' h5 => ?_⟩, fun _ => rfl⟩
          rcases Nat.lt_or_ge j' j with h7 | h7
          · exact hb1.2 j' h7
          · have : j' = j := by omega
            rw [this]
            exact hs
        refine w_if (fun h3 => ?_) (fun h3 => ?_)
        · rw [nI_eq (by omega) (by omega)] at h3
          exact yes (fun h => absurd h h3)
        · rw [nI_eq (by omega) (by omega)] at h3
          have h3 := Classical.not_not.mp h3
          refine w_bde (e_isNear hkx hX h1 hk (by omega)) ?_
          refine w_if (fun h4 => ?_) (fun h4 => ?_)
          · rw [bI_n, Bool.not_eq_true', decide_eq_false_iff_not] at h4
            refine w_let ?_
            rw [nI_1]
            exact ih false ⟨fun h => (by cases h), fun h => absurd (h.2 j (by omega) h3) h4⟩
          · have h4 := Classical.not_not.mp h4
            rw [bI_0, Bool.not_eq_false', decide_eq_true_iff] at h4
            exact yes (fun _ => h4)
  refine w_if (fun h3 => ?_) (fun h3 => ?_)
  · rw [bI_n, Bool.not_eq_true', decide_eq_false_iff_not] at h3
    exact loop false ⟨fun h => (by cases h), fun h => absurd h h3⟩
  · have h3 := Classical.not_not.mp h3
    rw [bI_0, Bool.not_eq_false', decide_eq_true_iff] at h3
    exact loop true ⟨fun _ => h3, fun _ => rfl⟩
abbrev PS : Type := Nat × (Nat → Nat) × Nat × (Nat → Nat) × HMem
def PI (X : HG) (μ : HMem) (s : PS) : Prop := s.1 ≤ X.1 + 1 ∧ Fr 133 140 μ s.2.2.2.2 ∧ (∀ i, i + 1 < s.1 → s.2.2.2.2.1 133 i = nI (s.2.1 i) ∧ s.2.1 i < mP s.2.1 i) ∧ (0 < s.1 → s.1 ≤ X.1 → s.2.2.1 ≤ mP s.2.1 (s.1 - 1) ∧ s.2.2.2.2.1 133 (s.1 - 1) = nI s.2.2.1 - 1) ∧ (∀ p, p < s.1 → s.2.2.2.2.1 139 p = nI (mn s.2.1 p)) ∧ (∀ K, K < 9 → s.2.2.2.2.2 138 K = lN (s.2.2.2.1 K)) ∧ ∀ K, s.2.2.2.1 K + rmg (aP X) mP (wP X.1 K) X.1 s.1 s.2.1 s.2.2.1 = gt (aP X) mP (wP X.1 K) X.1 (fun _ => 0) 0
theorem s_partitions {μ : HMem} {kx : Nat} {X : HG} (hkx : kx < 6) (hX : X.1 ≤ 8) (h1 : RG (μ.1 126) (73 * kx) X) {Q : Unit → HMem → Prop} (hQ : ∀ μ', (∀ K, K < 9 → μ'.2 138 K = lN (gt (aP X) mP (wP X.1 K) X.1 (fun _ => 0) 0)) → Fr 133 140 μ μ' → Q () μ') : wp (f_Model_partitions (nI kx) μ) Q := by
  unfold f_Model_partitions
  refine w_bde (e_msize hkx h1) ?_
  refine w_for (fun f k (m : HMem) => wp (f_Model_partitions_L8 f_Model_partitions_J27 f (nI kx) (nI X.1) (nI k) m) Q) (fun k m => Fr 133 140 μ m ∧ ∀ K, K < k → m.2 138 K = 0) 9 ?_ ?_ 0 μ (by omega) (by omega) ⟨Fr.refl _ _ _, fun K hK => absurd hK (Nat.not_lt_zero _)⟩
  · rintro f0 m0 ⟨z1, z2⟩
    show wp (f_Model_partitions_L8_b f_Model_partitions_J27 (f_Model_partitions_L8 f_Model_partitions_J27 f0) (nI kx) (nI X.1) (nI 9) m0) Q
    unfold f_Model_partitions_L8_b f_Model_partitions_J27
    refine w_t (by decide) ?_
    refine w_chk (in_N (u := 0) (by decide) (by decide)) ?_
    refine w_let ?_
    refine w_chk (in_N (u := 0) (by decide) (by decide)) ?_
    refine w_let ?_
    rw [show (0 : Int32).toNatClampNeg = 0 by decide]
    have e0 : ∀ z', z' = nI 1 - 1 → wp (f_Model_partitions_L43 h_fuel (nI kx) (nI X.1) z' (h_wi (h_wi m0 133 0 (-1)) 139 0 0)) Q := ?_
    · exact e0 0 (by decide)
    rintro z' rfl
    have fi : Fr 133 140 μ (h_wi (h_wi m0 133 0 (-1)) 139 0 0) := (z1.trans (Fr.wi (a := 133) (b := 140) (by omega) (by omega)) (by omega) (by omega) (by omega) (by omega) : Fr 133 140 μ (h_wi m0 133 0 (-1))).trans (Fr.wi (a := 133) (b := 140) (by omega) (by omega)) (by omega) (by omega) (by omega) (by omega)
    refine w_loopF (fun f (s : PS) => wp (f_Model_partitions_L43 f (nI kx) (nI X.1) (nI s.1 - 1) s.2.2.2.2) Q) (PI X μ) (fun s => 2 * dsF 0 X.1 s.1 s.2.1 s.2.2.1 + (if s.1 = X.1 + 1 then 1 else 0)) ?_ (1, fun _ => 0, 0, fun _ => 0, h_wi (h_wi m0 133 0 (-1)) 139 0 0) ⟨by show 1 ≤ X.1 + 1; omega, fi, fun i hi2 => by replace hi2 : i + 1 < 1 := hi2; omega, fun _ _ => ⟨Nat.zero_le _, ?_⟩, fun p hp => ?_, fun K hK => ?_, fun K => ?_⟩ ?_
    · rintro f ⟨j, a, t, S, m⟩ ⟨g1, g2, g3, g4, g5, g6, g7⟩ ih
      show wp (f_Model_partitions_L43_b (f_Model_partitions_L43 f) (nI kx) (nI X.1) (nI j - 1) m) Q
      replace g1 : j ≤ X.1 + 1 := g1
      replace g2 : Fr 133 140 μ m := g2
      replace g3 : ∀ i, i + 1 < j → m.1 133 i = nI (a i) ∧ a i < mP a i := g3
      replace g4 : 0 < j → j ≤ X.1 → t ≤ mP a (j - 1) ∧ m.1 133 (j - 1) = nI t - 1 := g4
      replace g5 : ∀ p, p < j → m.1 139 p = nI (mn a p) := g5
      replace g6 : ∀ K, K < 9 → m.2 138 K = lN (S K) := g6
      replace g7 : ∀ K, S K + rmg (aP X) mP (wP X.1 K) X.1 j a t = gt (aP X) mP (wP X.1 K) X.1 (fun _ => 0) 0 := g7
      unfold f_Model_partitions_L43_b
      cases j with
      | zero =>
        refine w_t dn0 ?_
        refine w_ret (hQ m (fun K hK => ?_) g2)
        rw [g6 K hK]
        exact congrArg lN (g7 K)
      | succ k =>
        refine w_f (dnS (by omega)) ?_
        rw [nI_pred]
        have hmn := mn_le (a := a) k
        rcases Nat.lt_or_ge k X.1 with hk | hk
        · obtain ⟨g4a, g4b⟩ := g4 (by omega) (by omega)
          replace g4b : m.1 133 k = nI t - 1 := g4b
          replace g4a : t ≤ mn a k + 1 := g4a
          refine w_t (fun h => by have := (nI_eq (by omega) (by omega)).mp h; omega) ?_
          refine w_chk (in_N (by rw [show h_len 133 = 9 from rfl]; omega) (by decide)) ?_
          refine w_chk (in_N (by rw [show h_len 133 = 9 from rfl]; omega) (by decide)) ?_
          refine w_let ?_
          rw [cl_8 (by omega), g4b, show nI t - 1 + 1 = nI t by rw [← dn, Int32.add_assoc, show (-1 : Int32) + 1 = 0 by decide, Int32.add_zero]]
          refine w_for (fun f2 s (m2 : HMem) => wp (f_Model_partitions_L83 (f_Model_partitions_J120 (f_Model_partitions_L43 f)) f2 (nI kx) (nI X.1) (nI k) m2) Q) (fun s m2 => t ≤ s ∧ Fr 133 134 m m2 ∧ m2.1 133 k = nI s ∧ (∀ i, i < k → m2.1 133 i = nI (a i)) ∧ ∀ s', t ≤ s' → s' < s → aP X (ly a k s') k = false) (mn a k + 1) ?_ ?_ t _ g4a (by omega) ⟨Nat.le_refl _, Fr.wi (by omega) (by omega), wi_s _ _ _ _, fun i hi => by rw [wi_n _ _ (Or.inr (by omega))]; exact (g3 i (by omega)).1, fun s' h3 h4 => by omega⟩
          · rintro f2 m2 ⟨k1, k2, k3, k4, k5⟩
            show wp (f_Model_partitions_L83_b (f_Model_partitions_J120 (f_Model_partitions_L43 f)) (f_Model_partitions_L83 (f_Model_partitions_J120 (f_Model_partitions_L43 f)) f2) (nI kx) (nI X.1) (nI k) m2) Q
            unfold f_Model_partitions_L83_b f_Model_partitions_J120
            have k6 : m2.1 139 k = nI (mn a k) := by rw [k2.i (by omega)]; exact g5 k (by omega)
            refine w_chk (in_N (by rw [show h_len 133 = 9 from rfl]; omega) (by decide)) ?_
            refine w_chk (in_N (by rw [show h_len 139 = 10 from rfl]; omega) (by decide)) ?_
            rw [cl_8 (by omega), k3, k6]
            refine w_t (nI_lt (by omega) (by omega)) ?_
            refine w_chk (in_N (by rw [show h_len 133 = 9 from rfl]; omega) (by decide)) ?_
            refine w_chk (in_N (by rw [show h_len 139 = 10 from rfl]; omega) (by decide)) ?_
            refine w_t (nI_lt (by omega) (by omega)) ?_
            refine w_let ?_
            rw [dn]
            refine ih (k, a, a (k - 1) + 1, S, m2) ⟨by show k ≤ X.1 + 1; omega, g2.trans k2 (by omega) (by omega) (by omega) (by omega), fun i hi => ?_, fun h3 h4 => ?_, fun p hp => ?_, fun K hK => ?_, fun K => ?_⟩ ?_
            · replace hi : i + 1 < k := hi
              exact ⟨k4 i (by omega), (g3 i (by omega)).2⟩
            · replace h3 : 0 < k := h3
              obtain ⟨q1, q2⟩ := g3 (k - 1) (by omega)
              refine ⟨q2, ?_⟩
              show m2.1 133 (k - 1) = nI (a (k - 1) + 1) - 1
              rw [nI_pred]
              exact k4 _ (by omega)
            · replace hp : p < k := hp
              show m2.1 139 p = _
              rw [k2.i (by omega)]
              exact g5 p (by omega)
            · show m2.2 138 K = _
              rw [k2.l (by omega)]
              exact g6 K hK
            · show S K + rmg (aP X) mP (wP X.1 K) X.1 k a (a (k - 1) + 1) = _
              rw [← rmg_up (t := t) hk g4a (fun s h3 h4 => k5 s h3 h4)]
              exact g7 K
            · show 2 * dsF 0 X.1 k a (a (k - 1) + 1) + (if k = X.1 + 1 then 1 else 0) < 2 * dsF 0 X.1 (k + 1) a t + (if k + 1 = X.1 + 1 then 1 else 0)
              have := dsz_up (fr := 0) (L := X.1) (j := k) (t := t) (a := a) hk (by omega) (by omega)
              rw [Nat.zero_add] at this
              rw [if_neg (by omega), if_neg (by omega)]
              omega
          · rintro f2 s m2 hs ⟨k1, k2, k3, k4, k5⟩ ih2
            show wp (f_Model_partitions_L83_b (f_Model_partitions_J120 (f_Model_partitions_L43 f)) (f_Model_partitions_L83 (f_Model_partitions_J120 (f_Model_partitions_L43 f)) f2) (nI kx) (nI X.1) (nI k) m2) Q
            unfold f_Model_partitions_L83_b
            have k6 : m2.1 139 k = nI (mn a k) := by rw [k2.i (by omega)]; exact g5 k (by omega)
            refine w_chk (in_N (by rw [show h_len 133 = 9 from rfl]; omega) (by decide)) ?_
            refine w_chk (in_N (by rw [show h_len 139 = 10 from rfl]; omega) (by decide)) ?_
            rw [cl_8 (by omega), k3, k6]
            refine w_f (nI_nlt (by omega) (by omega)) ?_
            refine w_bdk (s_isApart (X := X) (a := ly a k s) hkx hX (by rw [k2.i (by omega), g2.i (by omega)]; exact h1) hk (fun p hp => ?_) ?_)
            · by_cases e : p = k
              · rw [e, ly_eq]
                exact ⟨k3, by omega⟩
              · rw [ly_lt (by omega)]
                have := (g3 p (by omega)).2
                have := mn_le (a := a) p
                unfold mP at *
                exact ⟨k4 p (by omega), by omega⟩
            · refine w_if (fun h3 => ?_) (fun h3 => ?_)
              · rw [bI_n] at h3
                unfold f_Model_partitions_J120
                refine w_chk (in_N (by rw [show h_len 133 = 9 from rfl]; omega) (by decide)) ?_
                refine w_chk (in_N (by rw [show h_len 139 = 10 from rfl]; omega) (by decide)) ?_
                rw [cl_8 (by omega), k3, k6]
                refine w_f (nI_nlt (by omega) (by omega)) ?_
                refine w_chk (in_N (by rw [show h_len 133 = 9 from rfl]; omega) (by decide)) ?_
                refine w_chk (in_N (by rw [show h_len 139 = 10 from rfl]; omega) (by decide)) ?_
                have emn : mn (ly a k s) (k + 1) = if s = mn a k then mn a k + 1 else mn a k := by
                  show (if ly a k s k = mn (ly a k s) k then mn (ly a k s) k + 1 else mn (ly a k s) k) = _
                  rw [mn_cg (a := ly a k s) (b := a) (fun j hj => ly_lt hj), ly_eq]
                have go : ∀ w : Int32, w = nI (mn (ly a k s) (k + 1)) → wp (f_Model_partitions_J174 (f_Model_partitions_L43 f) (nI kx) (nI X.1) (nI k) w (nI k + 1) m2) Q := by
                  rintro w rfl
                  unfold f_Model_partitions_J174
                  rw [nI_1]
                  refine w_chk (in_N (by rw [show h_len 139 = 10 from rfl]; omega) (by decide)) ?_
                  refine w_let ?_
                  refine w_let ?_
                  refine w_chk (in_N (by rw [show h_len 133 = 9 from rfl]; omega) (by decide)) ?_
                  refine w_let ?_
                  rw [cl_8 (by omega), show nI (k + 1) = nI (k + 2) - 1 from (nI_pred (k + 1)).symm]
                  have f2' : Fr 133 140 μ (h_wi (h_wi m2 139 (k + 1) (nI (mn (ly a k s) (k + 1)))) 133 (k + 1) (-1)) := ((g2.trans k2 (by omega) (by omega) (by omega) (by omega) : Fr 133 140 μ m2).trans (Fr.wi (a := 133) (b := 140) (by omega) (by omega)) (by omega) (by omega) (by omega) (by omega) : Fr 133 140 μ (h_wi m2 139 (k + 1) (nI (mn (ly a k s) (k + 1))))).trans (Fr.wi (a := 133) (b := 140) (by omega) (by omega)) (by omega) (by omega) (by omega) (by omega)
                  refine ih (k + 2, ly a k s, 0, S, h_wi (h_wi m2 139 (k + 1) (nI (mn (ly a k s) (k + 1)))) 133 (k + 1) (-1)) ⟨by show k + 2 ≤ X.1 + 1; omega, f2', fun i hi => ?_, fun _ _ => ⟨Nat.zero_le _, ?_⟩, fun p hp => ?_, fun K hK => (by show m2.2 138 K = lN (S K); rw [k2.l (by omega)]; exact g6 K hK), fun K => ?_⟩ ?_
                  · replace hi : i + 1 < k + 2 := hi
                    show (h_wi (h_wi m2 139 (k + 1) (nI (mn (ly a k s) (k + 1)))) 133 (k + 1) (-1)).1 133 i = nI (ly a k s i) ∧ ly a k s i < mP (ly a k s) i
                    rw [wi_n _ _ (Or.inr (by omega)), wi_o _ _ (by omega)]
                    have em : mP (ly a k s) i = mP a i := mP_loc _ _ _ (fun j hj => ly_lt (by omega))
                    rw [em]
                    by_cases e : i = k
                    · rw [e, ly_eq]
                      exact ⟨k3, hs⟩
                    · rw [ly_lt (by omega)]
                      exact ⟨k4 i (by omega), (g3 i (by omega)).2⟩
                  · show (h_wi (h_wi m2 139 (k + 1) (nI (mn (ly a k s) (k + 1)))) 133 (k + 1) (-1)).1 133 (k + 2 - 1) = nI 0 - 1
                    rw [show k + 2 - 1 = k + 1 by omega, wi_s]
                    decide
                  · replace hp : p < k + 2 := hp
                    show (h_wi (h_wi m2 139 (k + 1) (nI (mn (ly a k s) (k + 1)))) 133 (k + 1) (-1)).1 139 p = nI (mn (ly a k s) p)
                    rw [wi_o _ _ (by omega), wi_e]
                    by_cases e : p = k + 1
                    · rw [if_pos ⟨rfl, e⟩, e]
                    · rw [if_neg (by omega), k2.i (by omega), g5 p (by omega), mn_cg (a := ly a k s) (b := a) (fun j hj => ly_lt (by omega))]
                  · show S K + rmg (aP X) mP (wP X.1 K) X.1 (k + 2) (ly a k s) 0 = _
                    rw [← rmg_down (aP_loc X) mP_loc (wP_loc X.1 K) hk k1 (show s < mP a k from hs) (fun s' h5 h6 => k5 s' h5 h6) h3]
                    exact g7 K
                  · show 2 * dsF 0 X.1 (k + 2) (ly a k s) 0 + (if k + 2 = X.1 + 1 then 1 else 0) < 2 * dsF 0 X.1 (k + 1) a t + (if k + 1 = X.1 + 1 then 1 else 0)
                    have := dsz_down (fr := 0) (L := X.1) (j := k) (t := t) (t1 := s) (a := a) (a2 := ly a k s) hk (by omega) k1 (by omega) (fun i hi => by rw [Nat.zero_add]; exact ly_lt hi) (by rw [Nat.zero_add]; exact ly_eq)
                    by_cases e : k + 2 = X.1 + 1
                    · rw [if_pos e, if_neg (by omega)]
                      omega
                    · rw [if_neg e, if_neg (by omega)]
                      omega
                refine w_if (fun h4 => ?_) (fun h4 => ?_)
                · rw [nI_eq (by omega) (by omega)] at h4
                  refine w_chk (in_N (by rw [show h_len 139 = 10 from rfl]; omega) (by decide)) ?_
                  exact go _ (by rw [emn, if_neg h4])
                · rw [nI_eq (by omega) (by omega)] at h4
                  have h4 := Classical.not_not.mp h4
                  refine w_chk (in_N (by rw [show h_len 139 = 10 from rfl]; omega) (by decide)) ?_
                  exact go _ (by rw [emn, if_pos h4, nI_1])
              · have h3 := Classical.not_not.mp h3
                rw [bI_0] at h3
                refine w_chk (in_N (by rw [show h_len 133 = 9 from rfl]; omega) (by decide)) ?_
                refine w_chk (in_N (by rw [show h_len 133 = 9 from rfl]; omega) (by decide)) ?_
                refine w_let ?_
                rw [k3, nI_1]
                refine ih2 _ ⟨by omega, k2.trans (Fr.wi (a := 133) (b := 134) (by omega) (by omega)) (by omega) (by omega) (by omega) (by omega), wi_s _ _ _ _, fun i h4 => ?_, fun s' h4 h5 => ?_⟩
                · rw [wi_n _ _ (Or.inr (by omega))]
                  exact k4 i h4
                · rcases Nat.lt_or_ge s' s with h6 | h6
                  · exact k5 s' h4 h6
                  · have : s' = s := by omega
                    rw [this]
                    exact h3
        · have ek : k = X.1 := by omega
          refine w_f (fun h => h (by rw [ek])) ?_
          have g5' : m.1 139 X.1 = nI (mn a X.1) := by rw [← ek]; exact g5 k (by omega)
          have hmn' := mn_le (a := a) X.1
          refine w_chk (in_N (by rw [show h_len 139 = 10 from rfl]; omega) (by decide)) ?_
          rw [cl_8 (by omega), g5']
          refine w_chk (in_N (by rw [show h_len 138 = 9 from rfl]; omega) (by decide)) ?_
          refine w_chk (in_N (by rw [show h_len 138 = 9 from rfl]; omega) (by decide)) ?_
          refine w_let ?_
          refine w_let ?_
          rw [dn, cl_8 (by omega), g6 _ (by omega), lN_1]
          refine ih (k, a, a (k - 1) + 1, fun K => S K + wP X.1 K a, h_wl m 138 (mn a X.1) (lN (S (mn a X.1) + 1))) ⟨by show k ≤ X.1 + 1; omega, g2.trans (Fr.wl (a := 133) (b := 140) (by omega) (by omega)) (by omega) (by omega) (by omega) (by omega), fun i hi => ?_, fun h3 h4 => ?_, fun p hp => ?_, fun K hK => ?_, fun K => ?_⟩ ?_
          · replace hi : i + 1 < k := hi
            exact g3 i (by omega)
          · replace h3 : 0 < k := h3
            obtain ⟨q1, q2⟩ := g3 (k - 1) (by omega)
            refine ⟨q2, ?_⟩
            show m.1 133 (k - 1) = nI (a (k - 1) + 1) - 1
            rw [nI_pred]
            exact q1
          · replace hp : p < k := hp
            exact g5 p (by omega)
          · show (h_wl m 138 (mn a X.1) (lN (S (mn a X.1) + 1))).2 138 K = lN (S K + wP X.1 K a)
            rw [wl_e]
            unfold wP
            by_cases e : K = mn a X.1
            · rw [if_pos ⟨rfl, e⟩, if_pos e.symm, e]
            · rw [if_neg (by omega), if_neg (fun h => e h.symm), Nat.add_zero]
              exact g6 K hK
          · show S K + wP X.1 K a + rmg (aP X) mP (wP X.1 K) X.1 k a (a (k - 1) + 1) = _
            rw [← g7 K, ek, rmg_leaf]
            omega
          · show 2 * dsF 0 X.1 k a (a (k - 1) + 1) + (if k = X.1 + 1 then 1 else 0) < 2 * dsF 0 X.1 (k + 1) a t + (if k + 1 = X.1 + 1 then 1 else 0)
            have := ds_leaf (n := k) (a := a) (t := t)
            rw [← ek, if_neg (by omega), if_pos rfl]
            omega
    · show (h_wi (h_wi m0 133 0 (-1)) 139 0 0).1 133 0 = nI 0 - 1
      rw [wi_o _ _ (by omega), wi_s]
      decide
    · have : p = 0 := by have : p < 1 := hp; omega
      rw [this]
      exact wi_s _ _ _ _
    · show m0.2 138 K = lN 0
      rw [z2 K hK]
      rfl
    · show 0 + rmg (aP X) mP (wP X.1 K) X.1 1 (fun _ => 0) 0 = _
      rw [rmg_0, Nat.zero_add]
    · show 2 * (0 + (if 0 < X.1 then (9 - 0) * 10 ^ (8 - 0) else 0)) + (if 1 = X.1 + 1 then 1 else 0) < _
      have e1 : (if 0 < X.1 then (9 - 0) * 10 ^ (8 - 0) else 0) ≤ 900000000 := by
        by_cases h : 0 < X.1
        · rw [if_pos h]; decide
        · rw [if_neg h]; decide
      have e2 : (if 1 = X.1 + 1 then 1 else 0) ≤ 1 := by
        by_cases h : 1 = X.1 + 1
        · rw [if_pos h]; decide
        · rw [if_neg h]; decide
      omega
  · rintro f k m hk ⟨z1, z2⟩ ih
    show wp (f_Model_partitions_L8_b f_Model_partitions_J27 (f_Model_partitions_L8 f_Model_partitions_J27 f) (nI kx) (nI X.1) (nI k) m) Q
    unfold f_Model_partitions_L8_b
    refine w_f (nI_ge (b := 9) hk (by omega)) ?_
    refine w_chk (in_N (by rw [show h_len 138 = 9 from rfl]; omega) (by decide)) ?_
    refine w_let ?_
    refine w_let ?_
    rw [cl_8 (by omega), nI_1]
    refine ih _ ⟨z1.trans (Fr.wl (a := 133) (b := 140) (by omega) (by omega)) (by omega) (by omega) (by omega) (by omega), fun K hK => ?_⟩
    rw [wl_e]
    by_cases e : K = k
    · rw [if_pos ⟨rfl, e⟩]
    · rw [if_neg (by omega)]
      exact z2 K (by omega)
