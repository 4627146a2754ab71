/-! 93: homomorphisms one by one (the reference) -/
noncomputable def fC (X Y : HG) (a : Nat → Nat) (k : Nat) : Bool := @decide (∀ j, j ≤ k → ¬ X.2.2 k j = 0 → ¬ Y.2.2 (a k) (a j) = 0) (Classical.propDecidable _)
theorem fC_t {X Y : HG} {a : Nat → Nat} {k : Nat} : fC X Y a k = true ↔ ∀ j, j ≤ k → ¬ X.2.2 k j = 0 → ¬ Y.2.2 (a k) (a j) = 0 := ⟨fun h => @of_decide_eq_true _ (Classical.propDecidable _) h, fun h => @decide_eq_true _ (Classical.propDecidable _) h⟩
theorem bqi {a b : Bool} (h : a = true ↔ b = true) : a = b := by
  revert h
  cases a <;> cases b <;> simp
theorem fC_loc (X Y : HG) : Loc (fC X Y) := fun a b k h => bqi (by
  rw [fC_t, fC_t]
  constructor
  · intro h1 j hj; rw [← h k (Nat.le_refl _), ← h j hj]; exact h1 j hj
  · intro h1 j hj; rw [h k (Nat.le_refl _), h j hj]; exact h1 j hj)
theorem s_fits {μ : HMem} {kx ky : Nat} {X Y : HG} (hkx : kx < 6) (hky : ky < 6) (hX : X.1 ≤ 8) (hY : Y.1 ≤ 8) (h1 : RG (μ.1 126) (73 * kx) X) (h2 : RG (μ.1 126) (73 * ky) Y) {a : Nat → Nat} {k : Nat} (hk : k < X.1) (hi : ∀ p, p ≤ k → μ.1 133 p = nI (a p) ∧ a p < Y.1) {Q : Int32 → HMem → Prop} (hQ : Q (bI (fC X Y a k)) μ) : wp (f_Model_fits (nI kx) (nI ky) (nI k) μ) Q := by
  obtain ⟨i1, i2⟩ := hi k (Nat.le_refl _)
  unfold f_Model_fits
  have e0 : ∀ z z', z = bI true → z' = nI 0 → wp (f_Model_fits_L6 f_Model_fits_J62 h_fuel (nI kx) (nI ky) (nI k) z z' μ) Q := ?_
  · exact e0 1 0 rfl rfl
  rintro z z' rfl rfl
  refine w_for (fun f j (b : Bool) => wp (f_Model_fits_L6 f_Model_fits_J62 f (nI kx) (nI ky) (nI k) (bI b) (nI j) μ) Q) (fun j b => b = true ↔ ∀ j', j' < j → ¬ X.2.2 k j' = 0 → ¬ Y.2.2 (a k) (a j') = 0) (k + 1) ?_ ?_ 0 true (by omega) (by omega) ⟨fun _ j' h => absurd h (Nat.not_lt_zero _), fun _ => rfl⟩
  · rintro f b hb
    show wp (f_Model_fits_L6_b f_Model_fits_J62 (f_Model_fits_L6 f_Model_fits_J62 f) (nI kx) (nI ky) (nI k) (bI b) (nI (k + 1)) μ) Q
    unfold f_Model_fits_L6_b f_Model_fits_J62
    refine w_t (nI_lt (by omega) (by omega)) ?_
    rw [e_J]
    have : b = fC X Y a k := bqi (by
      rw [fC_t, hb]
      exact ⟨fun h j hj => h j (by omega), fun h j hj => h j (by omega)⟩)
    rw [this]
    exact w_ret hQ
  · rintro f j b hj hb ih
    show wp (f_Model_fits_L6_b f_Model_fits_J62 (f_Model_fits_L6 f_Model_fits_J62 f) (nI kx) (nI ky) (nI k) (bI b) (nI j) μ) Q
    unfold f_Model_fits_L6_b f_Model_fits_J62 f_Model_fits_J49 f_Model_fits_J54
    refine w_f (nI_nlt (by omega) (by omega)) ?_
    rw [e_J]
    refine w_if (fun h0 => ?_) (fun h0 => ?_)
    · rw [bI_0] at h0
      subst h0
      have : fC X Y a k = false := by
        cases h3 : fC X Y a k with
        | false => rfl
        | true => exact absurd (hb.mpr (fun j' hj' => fC_t.mp h3 j' (by omega))) (by decide)
      rw [this] at hQ
      exact w_ret hQ
    · rw [bI_n] at h0
      have hb1 := hb.mp h0
      obtain ⟨v1, v2⟩ := hi j (by omega)
      refine w_bde (e_isNear hkx hX h1 hk (by omega)) ?_
      have next : ∀ c : Bool, (c = true ↔ (¬ X.2.2 k j = 0 → ¬ Y.2.2 (a k) (a j) = 0)) → wp (h_let (nI j + 1) (fun v5_56 => f_Model_fits_L6 (fun v4 μ => if v4 &&& 1 = v4 then some (v4, μ) else none) f (nI kx) (nI ky) (nI k) (bI c) v5_56 μ)) Q := by
        intro c hcc
        refine w_let ?_
        rw [nI_1]
        refine ih c ?_
        rw [hcc]
        constructor
        · intro h j' hj'
          rcases Nat.lt_or_ge j' j with h7 | h7
          · exact hb1 j' h7
          · have : j' = j := by omega
            rw [this]; exact h
        · exact fun h => h j (by omega)
      refine w_if (fun h3 => ?_) (fun h3 => ?_)
      · rw [bI_0] at h3
        exact next true ⟨fun _ h => absurd (by simpa using h3) h, fun _ => rfl⟩
      · rw [bI_n] at h3
        refine w_chk (in_N (by rw [show h_len 133 = 9 from rfl]; omega) (by decide)) ?_
        refine w_chk (in_N (by rw [show h_len 133 = 9 from rfl]; omega) (by decide)) ?_
        rw [cl_8 (u := k) (by omega), cl_8 (u := j) (by omega), i1, v1]
        refine w_bde (e_isNear hky hY h2 i2 v2) ?_
        refine w_if (fun h4 => ?_) (fun h4 => ?_)
        · rw [bI_0] at h4
          refine next false ⟨fun h => (by cases h), fun h => absurd (by simpa using h4) (h (by simpa using h3))⟩
        · rw [bI_n] at h4
          exact next true ⟨fun _ _ => by simpa using h4, fun _ => rfl⟩
abbrev BF : Type := Nat × (Nat → Nat) × Nat × HMem
theorem s_finds {μ : HMem} {kx ky : Nat} {X Y : HG} (hkx : kx < 6) (hky : ky < 6) (hX : X.1 ≤ 8) (hY : Y.1 ≤ 8) (h1 : RG (μ.1 126) (73 * kx) X) (h2 : RG (μ.1 126) (73 * ky) Y) {W : (Nat → Nat) → Int64} (hW : LocV X.1 W) {k t D0 : Nat} {a : Nat → Nat} (hk : k ≤ X.1) (hi : ∀ p, p < k → μ.1 133 p = nI (a p) ∧ a p < Y.1 ∧ fC X Y a p = true) (ht : t ≤ Y.1) (hkt : k < X.1 → μ.1 133 k = nI t - 1) (hD : dsF 0 X.1 (k + 1) a t + (if k = X.1 then 1 else 0) ≤ D0) (hD0 : D0 < 1000000000000) {Q : Int32 → HMem → Prop} (hno : ∀ μ', Fr 133 134 μ μ' → rmL (fC X Y) Y.1 W X.1 (k + 1) a t = 0 → Q (bI false) μ') (hyes : ∀ b μ', Fr 133 134 μ μ' → (∀ p, p < X.1 → μ'.1 133 p = nI (b p) ∧ b p < Y.1 ∧ fC X Y b p = true) → rmL (fC X Y) Y.1 W X.1 (k + 1) a t = rmL (fC X Y) Y.1 W X.1 (X.1 + 1) b 0 → dsF 0 X.1 (X.1 + 1) b 0 + 1 ≤ D0 → Q (bI true) μ') : wp (f_Model_finds (nI kx) (nI ky) (nI k) μ) Q := by
  unfold f_Model_finds
  have hC := fC_loc X Y
  refine w_bde (e_msize hkx h1) ?_
  generalize hn : X.1 = n at *
  have e0 : ∀ z, z = nI (k + 1) - 1 → wp (f_Model_finds_L10 f_Model_finds_J108 h_fuel (nI kx) (nI ky) (nI n) z μ) Q := ?_
  · exact e0 (nI k) (nI_pred k).symm
  rintro z rfl
  refine w_loopF (fun f (s : BF) => wp (f_Model_finds_L10 f_Model_finds_J108 f (nI kx) (nI ky) (nI n) (nI s.1 - 1) s.2.2.2) Q) (fun s => s.1 ≤ n + 1 ∧ Fr 133 134 μ s.2.2.2 ∧ (∀ p, p + 1 < s.1 → s.2.2.2.1 133 p = nI (s.2.1 p) ∧ s.2.1 p < Y.1 ∧ fC X Y s.2.1 p = true) ∧ (0 < s.1 → s.1 ≤ n → s.2.2.1 ≤ Y.1 ∧ s.2.2.2.1 133 (s.1 - 1) = nI s.2.2.1 - 1) ∧ rmL (fC X Y) Y.1 W n s.1 s.2.1 s.2.2.1 = rmL (fC X Y) Y.1 W n (k + 1) a t ∧ dsF 0 n s.1 s.2.1 s.2.2.1 + (if s.1 = n + 1 then 1 else 0) ≤ D0) (fun s => dsF 0 n s.1 s.2.1 s.2.2.1) ?_ (k + 1, a, t, μ) ⟨by show k + 1 ≤ n + 1; omega, Fr.refl _ _ _, fun p hp => hi p (by replace hp : p + 1 < k + 1 := hp; omega), fun _ hkn => ⟨ht, hkt hkn⟩, rfl, ?_⟩ ?_
  · rintro f ⟨j, a', t', m⟩ ⟨g1, g2, g3, g4, g5, g6⟩ ih
    show wp (f_Model_finds_L10_b f_Model_finds_J108 (f_Model_finds_L10 f_Model_finds_J108 f) (nI kx) (nI ky) (nI n) (nI j - 1) m) Q
    replace g1 : j ≤ n + 1 := g1
    replace g2 : Fr 133 134 μ m := g2
    replace g3 : ∀ p, p + 1 < j → m.1 133 p = nI (a' p) ∧ a' p < Y.1 ∧ fC X Y a' p = true := g3
    replace g4 : 0 < j → j ≤ n → t' ≤ Y.1 ∧ m.1 133 (j - 1) = nI t' - 1 := g4
    replace g5 : rmL (fC X Y) Y.1 W n j a' t' = rmL (fC X Y) Y.1 W n (k + 1) a t := g5
    replace g6 : dsF 0 n j a' t' + (if j = n + 1 then 1 else 0) ≤ D0 := g6
    unfold f_Model_finds_L10_b f_Model_finds_J108 f_Model_finds_J120
    cases j with
    | zero =>
      refine w_t dn0 (w_t (fun h => absurd h.symm (dnN (by omega))) ?_)
      rw [e_J0]
      exact w_ret (hno m g2 g5.symm)
    | succ i =>
      refine w_f (dnS (by omega)) ?_
      rw [nI_pred]
      rcases Nat.lt_or_ge i n with hk2 | hk2
      · obtain ⟨g4a, g4b⟩ := g4 (by omega) (by omega)
        replace g4b : m.1 133 i = nI t' - 1 := g4b
        refine w_f (nI_ge hk2 (by omega)) ?_
        refine w_chk (in_N (by rw [show h_len 133 = 9 from rfl]; omega) (by decide)) ?_
        refine w_chk (in_N (by rw [show h_len 133 = 9 from rfl]; omega) (by decide)) ?_
        refine w_let ?_
        rw [cl_8 (by omega), g4b, show nI t' - 1 + 1 = nI t' by rw [← dn, Int32.add_assoc, show (-1 : Int32) + 1 = 0 by decide, Int32.add_zero]]
        refine w_for (fun f2 s (m2 : HMem) => wp (f_Model_finds_L33 (f_Model_finds_J73 (f_Model_finds_L10 f_Model_finds_J108 f)) f2 (nI kx) (nI ky) (nI n) (nI i) m2) Q) (fun s m2 => t' ≤ s ∧ Fr 133 134 m m2 ∧ m2.1 133 i = nI s ∧ (∀ p, p < i → m2.1 133 p = nI (a' p)) ∧ ∀ s', t' ≤ s' → s' < s → fC X Y (ly a' i s') i = false) Y.1 ?_ ?_ t' _ g4a (by omega) ⟨Nat.le_refl _, Fr.wi (by omega) (by omega), wi_s _ _ _ _, fun p hp => by rw [wi_n _ _ (Or.inr (by omega))]; exact (g3 p (by omega)).1, fun s' h3 h4 => by omega⟩
        · rintro f2 m2 ⟨k1, k2, k3, k4, k5⟩
          show wp (f_Model_finds_L33_b (f_Model_finds_J73 (f_Model_finds_L10 f_Model_finds_J108 f)) (f_Model_finds_L33 (f_Model_finds_J73 (f_Model_finds_L10 f_Model_finds_J108 f)) f2) (nI kx) (nI ky) (nI n) (nI i) m2) Q
          have h2' : RG (m2.1 126) (73 * ky) Y := by rw [k2.i (by omega), g2.i (by omega)]; exact h2
          unfold f_Model_finds_L33_b f_Model_finds_J73
          refine w_chk (in_N (by rw [show h_len 133 = 9 from rfl]; omega) (by decide)) ?_
          refine w_bde (e_msize hky h2') ?_
          rw [cl_8 (by omega), k3]
          refine w_t (nI_le (Nat.le_refl _) (by omega)) ?_
          refine w_chk (in_N (by rw [show h_len 133 = 9 from rfl]; omega) (by decide)) ?_
          refine w_bde (e_msize hky h2') ?_
          refine w_t (nI_le (Nat.le_refl _) (by omega)) ?_
          refine w_let ?_
          rw [dn]
          have up := dsz_up (fr := 0) (L := n) (j := i) (t := t') (a := a') hk2 (by omega) (by omega)
          rw [Nat.zero_add] at up
          rw [if_neg (by omega)] at g6
          refine ih (i, a', a' (i - 1) + 1, m2) ⟨by show i ≤ n + 1; omega, g2.trans k2 (by omega) (by omega) (by omega) (by omega), fun p hp => ?_, fun h3 h4 => ?_, ?_, ?_⟩ up
          · replace hp : p + 1 < i := hp
            exact ⟨k4 p (by omega), (g3 p (by omega)).2⟩
          · replace h3 : 0 < i := h3
            obtain ⟨q1, q2, q3⟩ := g3 (i - 1) (by omega)
            refine ⟨by show a' (i - 1) + 1 ≤ Y.1; omega, ?_⟩
            show m2.1 133 (i - 1) = nI (a' (i - 1) + 1) - 1
            rw [nI_pred]
            exact k4 _ (by omega)
          · show rmL (fC X Y) Y.1 W n i a' (a' (i - 1) + 1) = _
            rw [← rmL_up hk2 g4a (fun s h3 h4 => k5 s h3 h4)]
            exact g5
          · show dsF 0 n i a' (a' (i - 1) + 1) + (if i = n + 1 then 1 else 0) ≤ D0
            rw [if_neg (by omega)]
            omega
        · rintro f2 s m2 hs ⟨k1, k2, k3, k4, k5⟩ ih2
          show wp (f_Model_finds_L33_b (f_Model_finds_J73 (f_Model_finds_L10 f_Model_finds_J108 f)) (f_Model_finds_L33 (f_Model_finds_J73 (f_Model_finds_L10 f_Model_finds_J108 f)) f2) (nI kx) (nI ky) (nI n) (nI i) m2) Q
          have h2' : RG (m2.1 126) (73 * ky) Y := by rw [k2.i (by omega), g2.i (by omega)]; exact h2
          have h1' : RG (m2.1 126) (73 * kx) X := by rw [k2.i (by omega), g2.i (by omega)]; exact h1
          unfold f_Model_finds_L33_b
          refine w_chk (in_N (by rw [show h_len 133 = 9 from rfl]; omega) (by decide)) ?_
          refine w_bde (e_msize hky h2') ?_
          rw [cl_8 (by omega), k3]
          refine w_f (nI_ge hs (by omega)) ?_
          refine w_bdk (s_fits (X := X) (Y := Y) (a := ly a' i s) hkx hky (by omega) hY h1' h2' (by omega) (fun p hp => ?_) ?_)
          · by_cases e : p = i
            · rw [e, ly_eq]
              exact ⟨k3, hs⟩
            · rw [ly_lt (by omega)]
              exact ⟨k4 p (by omega), (g3 p (by omega)).2.1⟩
          · refine w_if (fun h3 => ?_) (fun h3 => ?_)
            · rw [bI_n] at h3
              unfold f_Model_finds_J73
              refine w_chk (in_N (by rw [show h_len 133 = 9 from rfl]; omega) (by decide)) ?_
              refine w_bde (e_msize hky h2') ?_
              rw [cl_8 (by omega), k3]
              refine w_f (nI_ge hs (by omega)) ?_
              refine w_let ?_
              rw [nI_1]
              refine w_chk (in_N (by rw [show h_len 133 = 9 from rfl]; omega) (by decide)) ?_
              refine w_let ?_
              rw [cl_8 (by omega), show nI (i + 1) = nI (i + 2) - 1 from (nI_pred (i + 1)).symm]
              have down := dsz_down (fr := 0) (L := n) (j := i) (t := t') (t1 := s) (a := a') (a2 := ly a' i s) hk2 (by omega) k1 (by omega) (fun p hp => by rw [Nat.zero_add]; exact ly_lt hp) (by rw [Nat.zero_add]; exact ly_eq)
              rw [if_neg (by omega)] at g6
              refine ih (i + 2, ly a' i s, 0, h_wi m2 133 (i + 1) (-1)) ⟨by show i + 2 ≤ n + 1; omega, (g2.trans k2 (by omega) (by omega) (by omega) (by omega) : Fr 133 134 μ m2).trans (Fr.wi (a := 133) (b := 134) (by omega) (by omega)) (by omega) (by omega) (by omega) (by omega), fun p hp => ?_, fun _ _ => ⟨Nat.zero_le _, ?_⟩, ?_, ?_⟩ down
              · replace hp : p + 1 < i + 2 := hp
                show (h_wi m2 133 (i + 1) (-1)).1 133 p = nI (ly a' i s p) ∧ ly a' i s p < Y.1 ∧ fC X Y (ly a' i s) p = true
                rw [wi_n _ _ (Or.inr (by omega))]
                by_cases e : p = i
                · rw [e, ly_eq]
                  exact ⟨k3, hs, h3⟩
                · rw [ly_lt (by omega), hC (ly a' i s) a' p (fun q hq => ly_lt (by omega))]
                  exact ⟨k4 p (by omega), (g3 p (by omega)).2⟩
              · show (h_wi m2 133 (i + 1) (-1)).1 133 (i + 2 - 1) = nI 0 - 1
                rw [show i + 2 - 1 = i + 1 by omega, wi_s]
                decide
              · show rmL (fC X Y) Y.1 W n (i + 2) (ly a' i s) 0 = _
                rw [← rmL_down hC hW hk2 k1 hs (fun s' h5 h6 => k5 s' h5 h6) h3]
                exact g5
              · show dsF 0 n (i + 2) (ly a' i s) 0 + (if i + 2 = n + 1 then 1 else 0) ≤ D0
                by_cases e : i + 2 = n + 1
                · rw [if_pos e]; omega
                · rw [if_neg e]; omega
            · have h3 := Classical.not_not.mp h3
              rw [bI_0] at h3
              refine w_chk (in_N (by rw [show h_len 133 = 9 from rfl]; omega) (by decide)) ?_
              refine w_chk (in_N (by rw [show h_len 133 = 9 from rfl]; omega) (by decide)) ?_
              refine w_let ?_
              rw [k3, nI_1]
              refine ih2 _ ⟨by omega, k2.trans (Fr.wi (a := 133) (b := 134) (by omega) (by omega)) (by omega) (by omega) (by omega) (by omega), wi_s _ _ _ _, fun p h4 => ?_, fun s' h4 h5 => ?_⟩
              · rw [wi_n _ _ (Or.inr (by omega))]
                exact k4 p h4
              · rcases Nat.lt_or_ge s' s with h6 | h6
                · exact k5 s' h4 h6
                · have : s' = s := by omega
                  rw [this]
                  exact h3
      · have ek : i = n := by omega
        subst ek
        rw [if_pos rfl] at g6
        refine w_t (nI_le (Nat.le_refl _) (by omega)) (w_f (fun h => h rfl) ?_)
        rw [e_J1]
        refine w_ret (hyes a' m g2 (fun p hp => g3 p (by omega)) ?_ ?_)
        · rw [← g5]
          show rmPL _ _ _ _ _ _ + (if i < i then _ else _) = rmPL _ _ _ _ _ _ + (if i < i then _ else _)
          rw [if_neg (by omega), if_neg (by omega)]
        · have e : dsF 0 i (i + 1) a' 0 = dsF 0 i (i + 1) a' t' := by
            show sm _ i + (if i < i then _ else 0) = sm _ i + (if i < i then _ else 0)
            rw [if_neg (by omega), if_neg (by omega)]
          rw [e]
          exact g6
  · show dsF 0 n (k + 1) a t + (if k + 1 = n + 1 then 1 else 0) ≤ D0
    by_cases e : k = n
    · rw [if_pos e] at hD; rw [if_pos (by omega)]; exact hD
    · rw [if_neg e] at hD; rw [if_neg (by omega)]; exact hD
  · show dsF 0 n (k + 1) a t < 1000000000000
    omega
