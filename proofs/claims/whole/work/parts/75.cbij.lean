/-! 75: bijections (the class): the search -/
def ck (X Y : HG) (a : Nat → Nat) (k : Nat) : Prop := (∀ j, j < k → ¬ a j = a k) ∧ mkN X k = mkN Y (a k) ∧ ∀ j, j < k → X.2.2 j k = Y.2.2 (a j) (a k)
def cF (X Y : HG) (v : Nat) (a : Nat → Nat) : Prop := ∀ k, v ≤ k → k < X.1 → a k < Y.1 ∧ ck X Y a k
theorem ck_cg {X Y : HG} {a b : Nat → Nat} {k : Nat} (e : ∀ j, j ≤ k → a j = b j) (h : ck X Y a k) : ck X Y b k := by
  obtain ⟨h1, h2, h3⟩ := h
  refine ⟨fun j hj => ?_, by rw [← e k (Nat.le_refl _)]; exact h2, fun j hj => ?_⟩
  · rw [← e j (by omega), ← e k (Nat.le_refl _)]; exact h1 j hj
  · rw [← e j (by omega), ← e k (Nat.le_refl _)]; exact h3 j hj
theorem cF_ful {X Y : HG} (hX : GV X) (hY : GV Y) (e : X.1 = Y.1) {a : Nat → Nat} : cF X Y 0 a ↔ Ful (lkB X Y) X.1 X.1 a := by
  constructor
  · intro h k hk
    obtain ⟨h1, h2, h3, h4⟩ := h k (Nat.zero_le _) hk
    obtain ⟨m1, m2⟩ := mkN_inj hX hY hk h1 h3
    refine ⟨by omega, lkB_t.mpr ⟨m1, fun j hj => ?_⟩⟩
    rcases Nat.lt_or_ge j k with h5 | h5
    · refine ⟨Or.inr (h2 j h5), ?_⟩
      obtain ⟨g1, _⟩ := h j (Nat.zero_le _) (by omega)
      rw [(hX.2.2 k j hk (by omega)).1, h4 j h5, (hY.2.2 _ _ g1 h1).1]
    · have : j = k := by omega
      rw [this]
      exact ⟨Or.inl rfl, m2⟩
  · intro h k _ hk
    obtain ⟨h1, h2, h3, h4⟩ := ful_lk h
    refine ⟨by rw [← e]; exact h1 k hk, fun j hj e2 => ?_, ful_mk hX hY e h hk, fun j hj => ful_sym hX hY e h (by omega) hk⟩
    have := h2 j k (by omega) hk e2
    omega
theorem mkN_b {X : HG} (h : GV X) {v : Nat} (hv : v < X.1) : mkN X v < 2 ^ 31 := by
  have := mkS_lt h hv 5
  have e : 64 * 8 ^ 5 < 2 ^ 31 := by decide
  unfold mkN
  omega
/-- both graphs and their marks -/
def BM (X Y : HG) (g1 g2 : Nat) (μ : HMem) : Prop := CG μ g1 X ∧ CG μ g2 Y ∧ (∀ v, v < X.1 → μ.1 118 v = nI (mkN X v)) ∧ ∀ v, v < Y.1 → μ.1 119 v = nI (mkN Y v)
theorem BM.fr {X Y : HG} {g1 g2 : Nat} {μ μ' : HMem} (hg1 : g1 < 84) (hg2 : g2 < 84) (h : BM X Y g1 g2 μ) (hf : Fr 120 121 μ μ') : BM X Y g1 g2 μ' := by
  obtain ⟨a, b, c, d⟩ := h
  refine ⟨a.fr hf (by omega), b.fr hf (by omega), ?_, ?_⟩
  · rw [hf.i (by omega)]; exact c
  · rw [hf.i (by omega)]; exact d
theorem s_bfits {μ : HMem} {g1 g2 : Nat} {X Y : HG} (hg1 : IsG g1) (hg2 : IsG g2) (hX : GV X) (hY : GV Y) (hm : BM X Y g1 g2 μ) {p : Nat → Nat} {k t : Nat} (hk : k < X.1) (ht : t < Y.1) (hp : ∀ u, u < k → μ.1 120 u = nI (p u) ∧ p u < Y.1) {Q : Int32 → HMem → Prop} (hQ : ∀ b, (b = true ↔ mkN X k = mkN Y t ∧ ∀ j, j < k → X.2.2 j k = Y.2.2 (p j) t) → Q (bI b) μ) : wp (f_Bijections_fits g1 g2 (nI k) (nI t) μ) Q := by
  have nX := hX.1
  have nY := hY.1
  obtain ⟨c1, c2, c3, c4⟩ := hm
  unfold f_Bijections_fits
  refine w_chk (in_8 (by omega) rfl) ?_
  refine w_chk (in_8 (by omega) rfl) ?_
  rw [cl_8 (by omega), cl_8 (by omega), c3 k hk, c4 t ht]
  refine w_if (fun h0 => ?_) (fun h0 => ?_)
  · rw [nI_eq (mkN_b hX hk) (mkN_b hY ht)] at h0
    refine w_for (fun f u (_ : Unit) => wp (f_Bijections_fits_L21 f g1 g2 (nI k) (nI t) (nI u) μ) Q) (fun u _ => ∀ j, j < u → X.2.2 j k = Y.2.2 (p j) t) k ?_ ?_ 0 () (by omega) (by omega) (fun u hu => absurd hu (Nat.not_lt_zero _))
    · intro f _ hI
      show wp (f_Bijections_fits_L21_b (f_Bijections_fits_L21 f) g1 g2 (nI k) (nI t) (nI k) μ) Q
      unfold f_Bijections_fits_L21_b
      refine w_t (nI_le (Nat.le_refl _) (by omega)) ?_
      rw [e_J1]
      exact w_ret (hQ true ⟨fun _ => ⟨h0, hI⟩, fun _ => rfl⟩)
    · intro f u _ hu hI ih
      show wp (f_Bijections_fits_L21_b (f_Bijections_fits_L21 f) g1 g2 (nI k) (nI t) (nI u) μ) Q
      unfold f_Bijections_fits_L21_b
      refine w_f (nI_ge hu (by omega)) ?_
      refine w_bde (e_between hg1 c1 nX (by omega) hk) ?_
      refine w_chk (in_8 (by omega) rfl) ?_
      rw [cl_8 (by omega), (hp u hu).1]
      refine w_bde (e_between hg2 c2 nY (hp u hu).2 ht) ?_
      refine w_if (fun h1 => ?_) (fun h1 => ?_)
      · refine w_let ?_
        rw [nI_1]
        refine ih () (fun j hj => ?_)
        rcases Nat.lt_or_ge j u with h2 | h2
        · exact hI j h2
        · have : j = u := by omega
          rw [this]
          exact h1
      · rw [e_J0]
        exact w_ret (hQ false ⟨fun h => (by cases h), fun h => absurd (h.2 u hu) h1⟩)
  · rw [nI_eq (mkN_b hX hk) (mkN_b hY ht)] at h0
    rw [e_J0]
    exact w_ret (hQ false ⟨fun h => (by cases h), fun h => absurd h.1 h0⟩)
theorem s_bext {X Y : HG} (hX : GV X) (hY : GV Y) (e : X.1 = Y.1) {g1 g2 : Nat} (hg1 : IsG g1) (hg2 : IsG g2) : ∀ (rd v : Nat) (p : Nat → Nat) (us : Int32) (μ : HMem), 9 ≤ rd + v → v ≤ X.1 → BM X Y g1 g2 μ → (∀ u, u < v → μ.1 120 u = nI (p u) ∧ p u < Y.1) → (∀ t, bt us t = true ↔ ∃ u, u < v ∧ p u = t) → ∀ Q : Int32 → HMem → Prop, (∀ b μ', (b = true ↔ ∃ a, (∀ u, u < v → a u = p u) ∧ cF X Y v a) → Fr 120 121 μ μ' → (∀ u, u < v → μ'.1 120 u = μ.1 120 u) → Q (bI b) μ') → wp (f_Bijections_extendable rd g1 g2 (nI v) us μ) Q
  | 0, v, p, us, μ, hr, hv, hm, hp, hu, Q, hQ => by
    have := hX.1
    omega
  | rd + 1, v, p, us, μ, hr, hv, hm, hp, hu, Q, hQ => by
    have nX := hX.1
    have nY := hY.1
    show wp (f_Bijections_extendable_0 (f_Bijections_extendable rd) g1 g2 (nI v) us μ) Q
    unfold f_Bijections_extendable_0
    rw [hm.1.1]
    rcases Nat.lt_or_ge v X.1 with h0 | h0
    · refine w_t (nI_lt h0 (by omega)) ?_
      refine w_for (fun f t (m : HMem) => wp (f_Bijections_extendable_L13 (f_Bijections_extendable rd) f g1 g2 (nI v) us (nI t) m) Q) (fun t m => Fr 120 121 μ m ∧ (∀ u, u < v → m.1 120 u = μ.1 120 u) ∧ ∀ a, (∀ u, u < v → a u = p u) → cF X Y v a → ¬ a v < t) Y.1 ?_ ?_ 0 μ (by omega) (by omega) ⟨Fr.refl _ _ _, fun _ _ => rfl, fun a _ _ => Nat.not_lt_zero _⟩
      · rintro f m ⟨k1, k2, k3⟩
        show wp (f_Bijections_extendable_L13_b (f_Bijections_extendable rd) (f_Bijections_extendable_L13 (f_Bijections_extendable rd) f) g1 g2 (nI v) us (nI Y.1) m) Q
        unfold f_Bijections_extendable_L13_b
        rw [(hm.fr hg1.2 hg2.2 k1).2.1.1]
        refine w_t (nI_le (Nat.le_refl _) (by omega)) ?_
        rw [e_J0]
        exact w_ret (hQ false m ⟨fun h => (by cases h), fun ⟨a, h1, h2⟩ => absurd (h2 v (Nat.le_refl _) h0).1 (k3 a h1 h2)⟩ k1 k2)
      · rintro f t m ht ⟨k1, k2, k3⟩ ih
        show wp (f_Bijections_extendable_L13_b (f_Bijections_extendable rd) (f_Bijections_extendable_L13 (f_Bijections_extendable rd) f) g1 g2 (nI v) us (nI t) m) Q
        unfold f_Bijections_extendable_L13_b f_Bijections_extendable_J73
        have hmm := hm.fr hg1.2 hg2.2 k1
        rw [hmm.2.1.1]
        refine w_f (nI_ge ht (by omega)) ?_
        refine w_bde (e_has _ (by omega) _) ?_
        have skip : ∀ m', Fr 120 121 μ m' → (∀ u, u < v → m'.1 120 u = μ.1 120 u) → (∀ a, (∀ u, u < v → a u = p u) → cF X Y v a → ¬ a v = t) → wp (h_let (nI t + 1) (fun v5_73 => f_Bijections_extendable_L13 (f_Bijections_extendable rd) f g1 g2 (nI v) us v5_73 m')) Q := by
          intro m' q1 q2 q3
          refine w_let ?_
          rw [nI_1]
          refine ih m' ⟨q1, q2, fun a h1 h2 h3 => ?_⟩
          have := k3 a h1 h2
          exact q3 a h1 h2 (by omega)
        refine w_if (fun h1 => ?_) (fun h1 => ?_)
        · rw [bI_n] at h1
          refine skip m k1 k2 (fun a h2 h3 h4 => ?_)
          obtain ⟨u, h5, h6⟩ := (hu t).mp h1
          have := (h3 v (Nat.le_refl _) h0).2.1 u h5
          rw [h2 u h5, h4] at this
          exact this h6
        · have h1 := Classical.not_not.mp h1
          rw [bI_0] at h1
          refine w_bdk (s_bfits hg1 hg2 hX hY hmm h0 ht (fun u hu' => ⟨by rw [k2 u hu']; exact (hp u hu').1, (hp u hu').2⟩) (fun b hb => ?_))
          refine w_if (fun h2 => ?_) (fun h2 => ?_)
          · rw [bI_0] at h2
            refine skip m k1 k2 (fun a h3 h4 h5 => ?_)
            obtain ⟨_, _, q2, q3⟩ := h4 v (Nat.le_refl _) h0
            have := hb.mpr ⟨by rw [← h5]; exact q2, fun j hj => by rw [← h5, ← h3 j hj]; exact q3 j hj⟩
            rw [h2] at this
            cases this
          · rw [bI_n] at h2
            obtain ⟨b1, b2⟩ := hb.mp h2
            refine w_chk (in_8 (by omega) rfl) ?_
            refine w_let ?_
            rw [cl_8 (by omega), nI_1]
            have fw : Fr 120 121 μ (h_wi m 120 v (nI t)) := k1.trans (Fr.wi (a := 120) (b := 121) (by omega) (by omega)) (by omega) (by omega) (by omega) (by omega)
            refine w_bdk (s_bext hX hY e hg1 hg2 rd (v + 1) (ly p v t) (us ||| h_ishl 1 (nI t)) (h_wi m 120 v (nI t)) (by omega) (by omega) (hm.fr hg1.2 hg2.2 fw) (fun u hu' => ?_) (fun s => ?_) _ (fun b3 m3 hb3 f3 k4 => ?_))
            · rw [wi_e]
              by_cases e2 : u = v
              · rw [if_pos ⟨rfl, e2⟩, e2, ly_eq]
                exact ⟨rfl, ht⟩
              · rw [if_neg (by omega), ly_lt (by omega), k2 u (by omega)]
                exact hp u (by omega)
            · rw [b_or, b_one (by omega), Bool.or_eq_true, hu s, decide_eq_true_iff]
              constructor
              · rintro (⟨u, h3, h4⟩ | h3)
                · exact ⟨u, by omega, by rw [ly_lt h3]; exact h4⟩
                · exact ⟨v, by omega, by rw [ly_eq]; exact h3.symm⟩
              · rintro ⟨u, h3, h4⟩
                by_cases e2 : u = v
                · rw [e2, ly_eq] at h4
                  exact Or.inr h4.symm
                · rw [ly_lt (by omega)] at h4
                  exact Or.inl ⟨u, by omega, h4⟩
            · have f03 : Fr 120 121 μ m3 := fw.trans f3 (by omega) (by omega) (by omega) (by omega)
              have k03 : ∀ u, u < v → m3.1 120 u = μ.1 120 u := fun u hu' => by
                rw [k4 u (by omega), wi_n _ _ (Or.inr (by omega))]
                exact k2 u hu'
              have same : (∃ a, (∀ u, u < v + 1 → a u = ly p v t u) ∧ cF X Y (v + 1) a) ↔ ∃ a, (∀ u, u < v → a u = p u) ∧ a v = t ∧ cF X Y v a := by
                constructor
                · rintro ⟨a, q1, q2⟩
                  have q0 : ∀ u, u < v → a u = p u := fun u hu' => by rw [q1 u (by omega), ly_lt hu']
                  have qv : a v = t := by rw [q1 v (by omega), ly_eq]
                  refine ⟨a, q0, qv, fun k hk1 hk2 => ?_⟩
                  rcases Nat.lt_or_ge v k with h5 | h5
                  · exact q2 k (by omega) hk2
                  · have : k = v := by omega
                    rw [this, qv]
                    refine ⟨ht, fun j hj e2 => ?_, by rw [qv]; exact b1, fun j hj => by rw [qv, q0 j hj]; exact b2 j hj⟩
                    rw [q0 j hj, qv] at e2
                    have := (hu t).mpr ⟨j, hj, e2⟩
                    rw [h1] at this
                    cases this
                · rintro ⟨a, q0, qv, q2⟩
                  refine ⟨a, fun u hu' => ?_, fun k hk1 hk2 => q2 k (by omega) hk2⟩
                  by_cases e2 : u = v
                  · rw [e2, ly_eq, qv]
                  · rw [ly_lt (by omega), q0 u (by omega)]
              rw [same] at hb3
              refine w_if (fun h3 => ?_) (fun h3 => ?_)
              · rw [bI_0] at h3
                exact skip m3 f03 k03 (fun a h4 h5 h6 => by
                  have := hb3.mpr ⟨a, h4, h6, h5⟩
                  rw [h3] at this
                  cases this)
              · rw [bI_n] at h3
                rw [e_J1]
                obtain ⟨a, q0, _, q2⟩ := hb3.mp h3
                exact w_ret (hQ true m3 ⟨fun _ => ⟨a, q0, q2⟩, fun _ => rfl⟩ f03 k03)
    · refine w_f (nI_nlt h0 (by omega)) ?_
      rw [e_J1]
      exact w_ret (hQ true μ ⟨fun _ => ⟨p, fun _ _ => rfl, fun k h1 h2 => by omega⟩, fun _ => rfl⟩ (Fr.refl _ _ _) (fun _ _ => rfl))
theorem su1 : ∀ P, P < 9 → ∀ R, R < 9 → nI P - nI R + 1 = nI (P + 1) - nI R := by decide +kernel
theorem su2 : ∀ P, P < 10 → ∀ R, R < 9 → nI P - nI R - 1 = nI P - nI (R + 1) := by decide +kernel
theorem su3 : ∀ P, P < 9 → ∀ R, R < 9 → nI P - nI R = 0 → P = R := by decide +kernel
theorem s_sameMarks {μ : HMem} {n : Nat} (hn : n ≤ 8) {A B : Nat → Nat} (hA : ∀ v, v < n → μ.1 118 v = nI (A v) ∧ A v < 2 ^ 31) (hB : ∀ v, v < n → μ.1 119 v = nI (B v) ∧ B v < 2 ^ 31) {Q : Int32 → HMem → Prop} (hQ : ∀ b, (b = false → ∃ v, v < n ∧ ¬ cn (fun o => decide (A o = A v)) n = cn (fun o => decide (B o = A v)) n) → Q (bI b) μ) : wp (f_Bijections_sameMarks (nI n) μ) Q := by
  unfold f_Bijections_sameMarks
  refine w_for (fun f v (_ : Unit) => wp (f_Bijections_sameMarks_L2 f (nI n) (nI v) μ) Q) (fun _ _ => True) n ?_ ?_ 0 () (by omega) (by omega) trivial
  · intro f _ _
    show wp (f_Bijections_sameMarks_L2_b (f_Bijections_sameMarks_L2 f) (nI n) (nI n) μ) Q
    unfold f_Bijections_sameMarks_L2_b
    refine w_t (nI_le (Nat.le_refl _) (by omega)) ?_
    rw [e_J1]
    exact w_ret (hQ true (fun h => (by cases h)))
  · intro f v _ hv _ ih
    show wp (f_Bijections_sameMarks_L2_b (f_Bijections_sameMarks_L2 f) (nI n) (nI v) μ) Q
    unfold f_Bijections_sameMarks_L2_b
    refine w_f (nI_ge hv (by omega)) ?_
    refine w_for (fun f2 o (x : Int32) => wp (f_Bijections_sameMarks_L12 (f_Bijections_sameMarks_J72 (f_Bijections_sameMarks_L2 f)) f2 (nI n) (nI v) x (nI o) μ) Q) (fun o x => x = nI (cn (fun o => decide (A o = A v)) o) - nI (cn (fun o => decide (B o = A v)) o)) n ?_ ?_ 0 0 (by omega) (by omega) (by show (0 : Int32) = nI 0 - nI 0; decide)
    · rintro f2 x rfl
      show wp (f_Bijections_sameMarks_L12_b (f_Bijections_sameMarks_J72 (f_Bijections_sameMarks_L2 f)) (f_Bijections_sameMarks_L12 (f_Bijections_sameMarks_J72 (f_Bijections_sameMarks_L2 f)) f2) (nI n) (nI v) _ (nI n) μ) Q
      unfold f_Bijections_sameMarks_L12_b f_Bijections_sameMarks_J72
      refine w_t (nI_le (Nat.le_refl _) (by omega)) ?_
      refine w_if (fun _ => ?_) (fun h0 => ?_)
      · refine w_let ?_
        rw [nI_1]
        exact ih () trivial
      · rw [e_J0]
        refine w_ret (hQ false (fun _ => ⟨v, hv, fun h => h0 ?_⟩))
        rw [h, Int32.sub_self]
    · rintro f2 o x ho rfl ih2
      show wp (f_Bijections_sameMarks_L12_b (f_Bijections_sameMarks_J72 (f_Bijections_sameMarks_L2 f)) (f_Bijections_sameMarks_L12 (f_Bijections_sameMarks_J72 (f_Bijections_sameMarks_L2 f)) f2) (nI n) (nI v) _ (nI o) μ) Q
      unfold f_Bijections_sameMarks_L12_b f_Bijections_sameMarks_J40 f_Bijections_sameMarks_J64
      have hP := cn_le (fun o => decide (A o = A v)) o
      have hR := cn_le (fun o => decide (B o = A v)) o
      refine w_f (nI_ge ho (by omega)) ?_
      refine w_chk (in_8 (by omega) rfl) ?_
      refine w_chk (in_8 (by omega) rfl) ?_
      rw [cl_8 (by omega), cl_8 (by omega), (hA o ho).1, (hA v hv).1, (hB o ho).1]
      have second : ∀ x : Int32, x = nI (cn (fun o => decide (A o = A v)) (o + 1)) - nI (cn (fun o => decide (B o = A v)) o) → wp (h_chk (nI o) (h_len 119) (h_chk (nI v) (h_len 118) (if ¬ nI (B o) = nI (A v) then h_let (x - 0) (fun v3_65 => h_let (nI o + 1) (fun v4_66 => f_Bijections_sameMarks_L12 (f_Bijections_sameMarks_J72 (f_Bijections_sameMarks_L2 f)) f2 (nI n) (nI v) v3_65 v4_66 μ)) else h_let (x - 1) (fun v3_65 => h_let (nI o + 1) (fun v4_66 => f_Bijections_sameMarks_L12 (f_Bijections_sameMarks_J72 (f_Bijections_sameMarks_L2 f)) f2 (nI n) (nI v) v3_65 v4_66 μ))))) Q := by
        rintro x rfl
        have hP' := cn_le (fun o => decide (A o = A v)) (o + 1)
        refine w_chk (in_8 (by omega) rfl) ?_
        refine w_chk (in_8 (by omega) rfl) ?_
        refine w_if (fun h1 => ?_) (fun h1 => ?_)
        · rw [nI_eq (hB o ho).2 (hA v hv).2] at h1
          refine w_let ?_
          refine w_let ?_
          rw [nI_1]
          refine ih2 _ ?_
          rw [Int32.sub_zero, cn_s (fun o => decide (B o = A v)), decide_eq_false h1]
          rfl
        · rw [nI_eq (hB o ho).2 (hA v hv).2] at h1
          have h1 := Classical.not_not.mp h1
          refine w_let ?_
          refine w_let ?_
          rw [nI_1]
          refine ih2 _ ?_
          rw [su2 _ (by omega) _ (by omega), cn_s (fun o => decide (B o = A v)), decide_eq_true h1]
          rfl
      refine w_if (fun h1 => ?_) (fun h1 => ?_)
      · rw [nI_eq (hA o ho).2 (hA v hv).2] at h1
        refine w_let ?_
        refine second _ ?_
        rw [Int32.add_zero, cn_s, decide_eq_false h1]
        rfl
      · rw [nI_eq (hA o ho).2 (hA v hv).2] at h1
        have h1 := Classical.not_not.mp h1
        refine w_let ?_
        refine second _ ?_
        rw [su1 _ (by omega) _ (by omega), cn_s, decide_eq_true h1]
        rfl
theorem s_exist {μ : HMem} {g1 g2 : Nat} {X Y : HG} (hg1 : IsG g1) (hg2 : IsG g2) (c1 : CG μ g1 X) (c2 : CG μ g2 Y) (hX : GV X) (hY : GV Y) {Q : Int32 → HMem → Prop} (hQ : ∀ b μ', (b = true ↔ X.1 = Y.1 ∧ ∃ a, Ful (lkB X Y) X.1 X.1 a) → Fr 118 121 μ μ' → Q (bI b) μ') : wp (f_Bijections_exist g1 g2 μ) Q := by
  have nX := hX.1
  have nY := hY.1
  have l1 := hg1.2
  have l2 := hg2.2
  unfold f_Bijections_exist f_Bijections_exist_J55 f_Bijections_exist_J56
  rw [c1.1, c2.1]
  refine w_if (fun h0 => ?_) (fun h0 => ?_)
  · have e : X.1 = Y.1 := (nI_eq (by omega) (by omega)).mp h0
    refine w_bdk (s_mark hg1 c1 hX (Or.inl rfl) (fun m1 q1 f1 => ?_))
    refine w_bdk (s_mark hg2 (c2.fr f1 (by omega)) hY (Or.inr rfl) (fun m2 q2 f2 => ?_))
    have f02 : Fr 118 121 μ m2 := f1.trans f2 (by omega) (by omega) (by omega) (by omega)
    have hm : BM X Y g1 g2 m2 := ⟨c1.fr f02 (by omega), c2.fr f02 (by omega), by rw [f2.i (by omega)]; exact q1, q2⟩
    rw [hm.1.1]
    refine w_bdk (s_sameMarks nX (A := mkN X) (B := mkN Y) (fun v hv => ⟨hm.2.2.1 v hv, mkN_b hX hv⟩) (fun v hv => ⟨hm.2.2.2 v (by omega), mkN_b hY (by omega)⟩) (fun b hb => ?_))
    refine w_if (fun h1 => ?_) (fun h1 => ?_)
    · rw [bI_0] at h1
      obtain ⟨v, hv, hne⟩ := hb h1
      rw [e_J0]
      refine w_ret (hQ false m2 ⟨fun h => (by cases h), fun ⟨_, a, ha⟩ => absurd ?_ hne⟩ f02)
      obtain ⟨h2, h3, _⟩ := ful_lk ha
      rw [← cn_bij (q := fun o => decide (mkN Y o = mkN X v)) h2 h3]
      exact cn_ext (fun o ho => by rw [ful_mk hX hY e ha ho])
    · refine w_bdk (s_bext hX hY e hg1 hg2 16 0 (fun _ => 0) 0 m2 (by omega) (Nat.zero_le _) hm (fun u hu => absurd hu (Nat.not_lt_zero _)) (fun t => by rw [b_0, ex_0]; simp) _ (fun b2 m3 hb2 f3 _ => ?_))
      have f03 : Fr 118 121 μ m3 := f02.trans f3 (by omega) (by omega) (by omega) (by omega)
      have hb3 : b2 = true ↔ X.1 = Y.1 ∧ ∃ a, Ful (lkB X Y) X.1 X.1 a := by
        rw [hb2]
        exact ⟨fun ⟨a, _, h⟩ => ⟨e, a, (cF_ful hX hY e).mp h⟩, fun ⟨_, a, h⟩ => ⟨a, fun u hu => absurd hu (Nat.not_lt_zero _), (cF_ful hX hY e).mpr h⟩⟩
      refine w_if (fun h2 => ?_) (fun h2 => ?_)
      · rw [bI_0] at h2
        rw [e_J0]
        subst h2
        exact w_ret (hQ false m3 hb3 f03)
      · rw [bI_n] at h2
        rw [e_J1]
        subst h2
        exact w_ret (hQ true m3 hb3 f03)
  · rw [e_J0]
    exact w_ret (hQ false μ ⟨fun h => (by cases h), fun h => absurd (by rw [h.1]) h0⟩ (Fr.refl _ _ _))
theorem LM_isomorphic (a b : Int32) {μ : HMem} (h : SI μ) : FcB (f_Law_isomorphic a b μ) (f_Model_isomorphic a b) := by
  obtain ⟨σ, ok, hc, hr⟩ := h
  have bad : ∀ m, CS σ m → RS σ m → ∀ k : Int32, k = 1 → wp (f_Model_isomorphic_J19 a b m) (fun b μ2 => FcQ k (fun _ => if b = 0 then 0 else 1) μ2) := by
    intro m hc hr k hk
    unfold f_Model_isomorphic_J19 f_Model_isomorphic_J20 f_Model_isomorphic_J43 f_Model_isomorphic_J44
    refine w_let ?_
    rw [wi_s]
    refine w_t (by decide) ?_
    rw [e_J0, hk]
    exact w_ret (Q_err ok hc hr (by decide) _)
  unfold FcB f_Law_isomorphic f_Bench_isomorphic
  rcases ix_g a (n := 4) (by omega) with ha | ⟨i, hi, rfl⟩
  · rw [e_graphAtX ha, bdx_r, bdt_r]
    refine w_ret ?_
    unfold f_Model_isomorphic
    rw [e_isGX ha, bd_some]
    exact w_t (by decide) (bad _ hc hr _ rfl)
  · rw [e_graphAt hi, bdx_l]
    rcases ix_g b (n := 4) (by omega) with hb | ⟨j, hj, rfl⟩
    · rw [e_graphAtX hb, bdx_r, bdt_r]
      refine w_ret ?_
      unfold f_Model_isomorphic
      rw [e_isG hi, bd_some]
      refine w_f (by decide) ?_
      rw [e_isGX hb, bd_some]
      exact w_t (by decide) (bad _ hc hr _ rfl)
    · rw [e_graphAt hj, bdx_l]
      have hX := ok.1 i hi
      have hY := ok.1 j hj
      have nX := hX.1
      refine LM_obsB ok (r := @decide ((σ.1 i).1 = (σ.1 j).1 ∧ ∃ a, Ful (lkB (σ.1 i) (σ.1 j)) (σ.1 i).1 (σ.1 i).1 a) (Classical.propDecidable _)) (fun m => ?_) ?_ (fun m2 c2 r2 => ?_)
      · unfold f_Law_isomorphic_J16
        cases @decide ((σ.1 i).1 = (σ.1 j).1 ∧ ∃ a, Ful (lkB (σ.1 i) (σ.1 j)) (σ.1 i).1 (σ.1 i).1 a) (Classical.propDecidable _) with
        | false => exact e_out 0 m
        | true => exact e_out 1 m
      · refine w_bdk (s_exist (isg_g hi) (isg_g hj) (hc.1 i hi) (hc.1 j hj) hX hY (fun b m1 hb f1 => ?_))
        rw [if_pos (bI_1 b)]
        refine w_ret ⟨?_, hc.fr f1 (by omega), hr.fr f1 (by omega)⟩
        cases b with
        | true => rw [@decide_eq_true _ (Classical.propDecidable _) (hb.mp rfl)]
        | false => rw [@decide_eq_false _ (Classical.propDecidable _) (fun h => by cases hb.mpr h)]
      · unfold f_Model_isomorphic
        rw [e_isG hi, bd_some]
        refine w_f (by decide) ?_
        rw [e_isG hj, bd_some]
        refine w_f (by decide) ?_
        unfold f_Model_isomorphic_J20 f_Model_isomorphic_J43 f_Model_isomorphic_J44
        refine w_let ?_
        rw [wi_s]
        refine w_f (by decide) ?_
        have hS : CS σ (h_wi m2 125 5 0) ∧ RS σ (h_wi m2 125 5 0) := by
          refine ⟨c2.fr (Fr.wi (a := 125) (b := 126) (by omega) (by omega)) (by omega), fun i hi => by rw [wi_o _ _ (by omega)]; exact r2.1 i hi, ?_, ?_⟩
          · have h2 := r2.2.1
            unfold RH at h2 ⊢
            rw [wi_n _ _ (by omega), wi_o _ _ (by omega)]
            exact h2
          · have h2 := r2.2.2
            unfold RT at h2 ⊢
            rw [wi_n _ _ (by omega), wi_o _ _ (by omega)]
            exact h2
        refine w_bdk (s_bijectionsOf (by omega) (by omega) nX hY.1 (hS.2.1 i hi) (hS.2.1 j hj) (fun m3 f3 => ?_))
        have g3 := Fs.fr f3 (by omega) (by omega)
        have hle := tr_le (C := lkB (σ.1 i) (σ.1 j)) (M := (σ.1 i).1) (σ.1 i).1 (fun _ => 0) 0
        have h88 : (σ.1 i).1 ^ (σ.1 i).1 ≤ 8 ^ 8 := Nat.le_trans (Nat.pow_le_pow_left nX _) (Nat.pow_le_pow_right (by omega) nX)
        have hpos := tr_ful (lk_loc (σ.1 i) (σ.1 j)) (M := (σ.1 i).1) (n := (σ.1 i).1) (a := fun _ => 0)
        generalize tr (lkB (σ.1 i) (σ.1 j)) (σ.1 i).1 (σ.1 i).1 (fun _ => 0) 0 = N at hle hpos
        have h88' : (8 : Nat) ^ 8 < 2 ^ 31 := by decide
        by_cases hyes : (σ.1 i).1 = (σ.1 j).1 ∧ ∃ a, Ful (lkB (σ.1 i) (σ.1 j)) (σ.1 i).1 (σ.1 i).1 a
        · rw [if_pos hyes.1, @decide_eq_true _ (Classical.propDecidable _) hyes]
          have := hpos.mpr hyes.2
          refine w_f (fun h => ?_) ?_
          · rw [show (0 : Int32) = nI 0 from rfl, nI_leI (by omega) (by omega)] at h
            omega
          · rw [e_J1]
            exact w_ret ⟨rfl, hS.1.fs g3, hS.2.fs g3, by rw [f3.i (by omega), wi_s], by rw [g3.out]; rfl⟩
        · rw [@decide_eq_false _ (Classical.propDecidable _) hyes]
          have e0 : (if (σ.1 i).1 = (σ.1 j).1 then N else 0) = 0 := by
            by_cases e : (σ.1 i).1 = (σ.1 j).1
            · rw [if_pos e]
              refine Nat.eq_zero_of_not_pos (fun h => hyes ⟨e, hpos.mp h⟩)
            · rw [if_neg e]
          rw [e0]
          refine w_t (by decide) ?_
          rw [e_J0]
          exact w_ret ⟨rfl, hS.1.fs g3, hS.2.fs g3, by rw [f3.i (by omega), wi_s], by rw [g3.out]; rfl⟩
