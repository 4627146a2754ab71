/-! 94: what the reference counts -/
def wV (Y : HG) (t : Nat) : Int64 := Int32.toInt64 (Y.2.1 t)
def gV (Y : HG) (s t : Nat) : Int64 := Int32.toInt64 (Y.2.2 s t)
theorem nr_in {X : HG} {u v : Nat} (hu : u < X.1) (hv : v < X.1) : nr X u v = !decide (X.2.2 u v = 0) := by
  unfold nr
  rw [decide_eq_true hu, decide_eq_true hv]
  rfl
theorem s_valueOf {μ : HMem} {kx ky : Nat} {X Y : HG} (hkx : kx < 6) (hky : ky < 6) (hX : X.1 ≤ 8) (hY : Y.1 ≤ 8) (h1 : RG (μ.1 126) (73 * kx) X) (h2 : RG (μ.1 126) (73 * ky) Y) {a : Nat → Nat} (hi : ∀ p, p < X.1 → μ.1 133 p = nI (a p) ∧ a p < Y.1) {Q : Int64 → HMem → Prop} (hQ : Q (vaL X.1 (nr X) (wV Y) (gV Y) a) μ) : wp (f_Model_valueOf (nI kx) (nI ky) μ) Q := by
  unfold f_Model_valueOf
  have e0 : ∀ z, z = nI 0 → wp (f_Model_valueOf_L5 h_fuel (nI kx) (nI ky) 1 z μ) Q := ?_
  · exact e0 0 rfl
  rintro z rfl
  refine w_for (fun f u (x : Int64) => wp (f_Model_valueOf_L5 f (nI kx) (nI ky) x (nI u) μ) Q) (fun u x => x = pL (fac X.1 (nr X) (wV Y) (gV Y) a) u) X.1 ?_ ?_ 0 1 (Nat.zero_le _) (by omega) rfl
  · intro f x hx
    show wp (f_Model_valueOf_L5_b (f_Model_valueOf_L5 f) (nI kx) (nI ky) x (nI X.1) μ) Q
    unfold f_Model_valueOf_L5_b
    refine w_bde (e_msize hkx h1) (w_t (nI_le (Nat.le_refl _) (by omega)) (w_ret ?_))
    rw [hx]
    exact hQ
  · intro f u x hu hx ih
    obtain ⟨i1, i2⟩ := hi u hu
    show wp (f_Model_valueOf_L5_b (f_Model_valueOf_L5 f) (nI kx) (nI ky) x (nI u) μ) Q
    unfold f_Model_valueOf_L5_b
    refine w_bde (e_msize hkx h1) (w_f (nI_ge hu (by omega)) ?_)
    refine w_chk (in_N (by rw [show h_len 133 = 9 from rfl]; omega) (by decide)) ?_
    rw [cl_8 (by omega), i1]
    refine w_bde (e_mweight hky hY h2 i2) (w_let ?_)
    have e1 : ∀ z, z = nI 0 → wp (f_Model_valueOf_L34 (f_Model_valueOf_J86 (f_Model_valueOf_L5 f)) h_fuel (nI kx) (nI ky) (x * Int32.toInt64 (Y.2.1 (a u))) (nI u) z μ) Q := ?_
    · exact e1 0 rfl
    rintro z rfl
    refine w_for (fun f2 o (y : Int64) => wp (f_Model_valueOf_L34 (f_Model_valueOf_J86 (f_Model_valueOf_L5 f)) f2 (nI kx) (nI ky) y (nI u) (nI o) μ) Q) (fun o y => y = (x * wV Y (a u)) * pL (fun o => if (nr X u o && decide (o ≤ u)) = true then gV Y (a u) (a o) else 1) o) (u + 1) ?_ ?_ 0 _ (Nat.zero_le _) (by omega) (Int64.mul_one _).symm
    · intro f2 y hy
      show wp (f_Model_valueOf_L34_b (f_Model_valueOf_J86 (f_Model_valueOf_L5 f)) (f_Model_valueOf_L34 (f_Model_valueOf_J86 (f_Model_valueOf_L5 f)) f2) (nI kx) (nI ky) y (nI u) (nI (u + 1)) μ) Q
      unfold f_Model_valueOf_L34_b f_Model_valueOf_J86
      refine w_t (nI_lt (by omega) (by omega)) (w_let ?_)
      rw [nI_1]
      refine ih y ?_
      rw [hy]
      show _ = pL (fac X.1 (nr X) (wV Y) (gV Y) a) u * fac X.1 (nr X) (wV Y) (gV Y) a u
      rw [← hx]
      unfold fac
      rw [← Int64.mul_assoc]
      congr 1
      have e3 := pL_cut (f := fun o => if (nr X u o && decide (o ≤ u)) = true then gV Y (a u) (a o) else 1) (k := u + 1) (X.1 - (u + 1)) (fun i h => by rw [decide_eq_false (show ¬ i ≤ u by omega), Bool.and_false, if_neg (by decide)])
      rw [show u + 1 + (X.1 - (u + 1)) = X.1 by omega] at e3
      exact e3.symm
    · intro f2 o y ho hy ih2
      obtain ⟨v1, v2⟩ := hi o (by omega)
      show wp (f_Model_valueOf_L34_b (f_Model_valueOf_J86 (f_Model_valueOf_L5 f)) (f_Model_valueOf_L34 (f_Model_valueOf_J86 (f_Model_valueOf_L5 f)) f2) (nI kx) (nI ky) y (nI u) (nI o) μ) Q
      unfold f_Model_valueOf_L34_b f_Model_valueOf_J78
      refine w_f (nI_nlt (by omega) (by omega)) ?_
      refine w_bde (e_isNear hkx hX h1 hu (by omega)) ?_
      have e2 : (nr X u o && decide (o ≤ u)) = !decide (X.2.2 u o = 0) := by rw [nr_in hu (by omega), decide_eq_true (show o ≤ u by omega), Bool.and_true]
      refine w_if (fun h3 => ?_) (fun h3 => ?_)
      · rw [bI_0] at h3
        refine w_let (w_let ?_)
        rw [nI_1]
        refine ih2 _ ?_
        rw [hy]
        show _ = (x * wV Y (a u)) * (pL _ o * (if (nr X u o && decide (o ≤ u)) = true then gV Y (a u) (a o) else 1))
        rw [e2, h3, if_neg (by decide), Int64.mul_one, Int64.mul_one]
      · rw [bI_n] at h3
        refine w_chk (in_N (by rw [show h_len 133 = 9 from rfl]; omega) (by decide)) ?_
        refine w_chk (in_N (by rw [show h_len 133 = 9 from rfl]; omega) (by decide)) ?_
        rw [cl_8 (u := u) (by omega), cl_8 (u := o) (by omega), i1, v1]
        refine w_bde (e_mbetween hky hY h2 i2 v2) ?_
        refine w_let (w_let ?_)
        rw [nI_1]
        refine ih2 _ ?_
        rw [hy]
        show _ = (x * wV Y (a u)) * (pL _ o * (if (nr X u o && decide (o ≤ u)) = true then gV Y (a u) (a o) else 1))
        rw [e2, h3, if_pos rfl, ← Int64.mul_assoc]
        rfl
/-- the images of the first so many, and how many they are -/
def imB (a : Nat → Nat) (n t : Nat) : Bool := decide (∃ p, p < n ∧ a p = t)
theorem imB_t {a : Nat → Nat} {n t : Nat} : imB a n t = true ↔ ∃ p, p < n ∧ a p = t := decide_eq_true_iff
def ic (a : Nat → Nat) (n : Nat) : Nat := cn (imB a n) 8
theorem s_images {μ : HMem} {kx : Nat} {X : HG} (hkx : kx < 6) (hX : X.1 ≤ 8) (h1 : RG (μ.1 126) (73 * kx) X) {a : Nat → Nat} (hi : ∀ p, p < X.1 → μ.1 133 p = nI (a p) ∧ a p < 8) {Q : Int32 → HMem → Prop} (hQ : ∀ r, (∀ t, bt r t = imB a X.1 t) → Q r μ) : wp (f_Model_images (nI kx) μ) Q := by
  unfold f_Model_images
  have e0 : ∀ z, z = nI 0 → wp (f_Model_images_L4 h_fuel (nI kx) 0 z μ) Q := ?_
  · exact e0 0 rfl
  rintro z rfl
  refine w_for (fun f u (r : Int32) => wp (f_Model_images_L4 f (nI kx) r (nI u) μ) Q) (fun u r => ∀ t, bt r t = imB a u t) X.1 ?_ ?_ 0 0 (Nat.zero_le _) (by omega) (fun t => by
    rw [b_0]
    exact (decide_eq_false (fun ⟨p, h, _⟩ => absurd h (Nat.not_lt_zero _))).symm)
  · intro f r hr
    show wp (f_Model_images_L4_b (f_Model_images_L4 f) (nI kx) r (nI X.1) μ) Q
    unfold f_Model_images_L4_b
    exact w_bde (e_msize hkx h1) (w_t (nI_le (Nat.le_refl _) (by omega)) (w_ret (hQ r hr)))
  · intro f u r hu hr ih
    obtain ⟨i1, i2⟩ := hi u hu
    show wp (f_Model_images_L4_b (f_Model_images_L4 f) (nI kx) r (nI u) μ) Q
    unfold f_Model_images_L4_b
    refine w_bde (e_msize hkx h1) (w_f (nI_ge hu (by omega)) ?_)
    refine w_chk (in_N (by rw [show h_len 133 = 9 from rfl]; omega) (by decide)) ?_
    rw [cl_8 (by omega), i1]
    refine w_let (w_let ?_)
    rw [nI_1]
    refine ih _ (fun t => bqi ?_)
    rw [b_or, b_one (by omega), Bool.or_eq_true, hr t, decide_eq_true_iff, imB_t, imB_t]
    constructor
    · rintro (⟨p, h, e⟩ | rfl)
      · exact ⟨p, by omega, e⟩
      · exact ⟨u, by omega, rfl⟩
    · rintro ⟨p, h, e⟩
      rcases Nat.lt_or_ge p u with h3 | h3
      · exact Or.inl ⟨p, h3, e⟩
      · have : p = u := by omega
        rw [this] at e
        exact Or.inr e.symm
/-- pairs of images, as one number -/
def pr (s t : Nat) : Nat := 8 * min s t + max s t
theorem pr_lt {s t : Nat} (hs : s < 8) (ht : t < 8) : pr s t < 64 := by unfold pr; omega
/-- the pairs that are taken before an edge -/
def tk (X : HG) (a : Nat → Nat) (u v p : Nat) : Prop := (∃ u' v', u' < u ∧ v' < u' ∧ ¬ X.2.2 u' v' = 0 ∧ pr (a u') (a v') = p) ∨ ∃ v', v' < v ∧ ¬ X.2.2 u v' = 0 ∧ pr (a u) (a v') = p
def eV (X : HG) (a : Nat → Nat) (u v : Nat) : Prop := ¬ X.2.2 u v = 0 → ¬ tk X a u v (pr (a u) (a v))
def eK (X : HG) (a : Nat → Nat) (n : Nat) : Prop := ∀ u, u < n → ∀ v, v < u → eV X a u v
noncomputable def eB (X : HG) (a : Nat → Nat) (n : Nat) : Bool := @decide (eK X a n) (Classical.propDecidable _)
theorem eB_t {X : HG} {a : Nat → Nat} {n : Nat} : eB X a n = true ↔ eK X a n := ⟨fun h => @of_decide_eq_true _ (Classical.propDecidable _) h, fun h => @decide_eq_true _ (Classical.propDecidable _) h⟩
theorem tk_next {X : HG} {a : Nat → Nat} {u p : Nat} : tk X a u u p ↔ tk X a (u + 1) 0 p := by
  unfold tk
  constructor
  · rintro (⟨u', v', h1, h2, h3, h4⟩ | ⟨v', h1, h2, h3⟩)
    · exact Or.inl ⟨u', v', by omega, h2, h3, h4⟩
    · exact Or.inl ⟨u, v', by omega, h1, h2, h3⟩
  · rintro (⟨u', v', h1, h2, h3, h4⟩ | ⟨v', h1, h2, h3⟩)
    · rcases Nat.lt_or_ge u' u with h | h
      · exact Or.inl ⟨u', v', h, h2, h3, h4⟩
      · have : u' = u := by omega
        subst this
        exact Or.inr ⟨v', h2, h3, h4⟩
    · exact absurd h1 (Nat.not_lt_zero _)
theorem tk_v {X : HG} {a : Nat → Nat} {u v p : Nat} : tk X a u (v + 1) p ↔ tk X a u v p ∨ (¬ X.2.2 u v = 0 ∧ pr (a u) (a v) = p) := by
  unfold tk
  constructor
  · rintro (h | ⟨v', h1, h2, h3⟩)
    · exact Or.inl (Or.inl h)
    · rcases Nat.lt_or_ge v' v with h | h
      · exact Or.inl (Or.inr ⟨v', h, h2, h3⟩)
      · have : v' = v := by omega
        subst this
        exact Or.inr ⟨h2, h3⟩
  · rintro ((h | ⟨v', h1, h2, h3⟩) | ⟨h2, h3⟩)
    · exact Or.inl h
    · exact Or.inr ⟨v', by omega, h2, h3⟩
    · exact Or.inr ⟨v, by omega, h2, h3⟩
abbrev KS : Type := Bool × HMem
theorem pr_n {s t : Nat} (hs : s < 8) (ht : t < 8) : ((8 * nI (min s t)) + nI s + nI t) - nI (min s t) = nI (pr s t) := (by decide +kernel : ∀ s, s < 8 → ∀ t, t < 8 → ((8 * nI (min s t)) + nI s + nI t) - nI (min s t) = nI (pr s t)) s hs t ht
theorem s_keepsEdges {μ : HMem} {kx : Nat} {X : HG} (hkx : kx < 6) (hX : X.1 ≤ 8) (h1 : RG (μ.1 126) (73 * kx) X) {a : Nat → Nat} (hi : ∀ p, p < X.1 → μ.1 133 p = nI (a p) ∧ a p < 8) {Q : Int32 → HMem → Prop} (hQ : ∀ μ', Fr 137 138 μ μ' → Q (bI (eB X a X.1)) μ') : wp (f_Model_keepsEdges (nI kx) μ) Q := by
  unfold f_Model_keepsEdges
  have e0 : ∀ z, z = nI 0 → wp (f_Model_keepsEdges_L2 f_Model_keepsEdges_J21 h_fuel (nI kx) z μ) Q := ?_
  · exact e0 0 rfl
  rintro z rfl
  refine w_for (fun f k (m : HMem) => wp (f_Model_keepsEdges_L2 f_Model_keepsEdges_J21 f (nI kx) (nI k) m) Q) (fun k m => Fr 137 138 μ m ∧ ∀ p, p < k → m.1 137 p = 0) 64 ?_ ?_ 0 μ (Nat.zero_le _) (by omega) ⟨Fr.refl _ _ _, fun p h => absurd h (Nat.not_lt_zero _)⟩
  · intro f m0 ⟨f0, z0⟩
    show wp (f_Model_keepsEdges_L2_b _ _ _ _ _) Q
    unfold f_Model_keepsEdges_L2_b f_Model_keepsEdges_J21
    refine w_t (by decide) ?_
    have e1 : ∀ z z', z = bI true → z' = nI 0 → wp (f_Model_keepsEdges_L25 h_fuel (nI kx) z z' m0) Q := ?_
    · exact e1 1 0 rfl rfl
    rintro z z' rfl rfl
    refine w_for (fun f u (s : KS) => wp (f_Model_keepsEdges_L25 f (nI kx) (bI s.1) (nI u) s.2) Q) (fun u s => Fr 137 138 μ s.2 ∧ (∀ p, p < 64 → (¬ s.2.1 137 p = 0 ↔ tk X a u 0 p)) ∧ (s.1 = true ↔ eK X a u)) X.1 ?_ ?_ 0 (true, m0) (Nat.zero_le _) (by omega) ⟨f0, fun p hp => ⟨fun h => absurd (z0 p hp) h, ?_⟩, ⟨fun _ u h => absurd h (Nat.not_lt_zero _), fun _ => rfl⟩⟩
    · intro f s ⟨g1, g2, g3⟩
      show wp (f_Model_keepsEdges_L25_b _ _ _ _ _) Q
      unfold f_Model_keepsEdges_L25_b
      refine w_bde (e_msize hkx (by rw [g1.i (by omega)]; exact h1)) (w_t (nI_le (Nat.le_refl _) (by omega)) ?_)
      rw [e_J]
      have : s.1 = eB X a X.1 := bqi (by rw [eB_t]; exact g3)
      rw [this]
      exact w_ret (hQ s.2 g1)
    · intro f u s hu ⟨g1, g2, g3⟩ ih
      obtain ⟨i1, i2⟩ := hi u hu
      show wp (f_Model_keepsEdges_L25_b _ _ _ _ _) Q
      unfold f_Model_keepsEdges_L25_b
      refine w_bde (e_msize hkx (by rw [g1.i (by omega)]; exact h1)) (w_f (nI_ge hu (by omega)) ?_)
      have e2 : ∀ z, z = nI 0 → wp (f_Model_keepsEdges_L37 (f_Model_keepsEdges_J147 (f_Model_keepsEdges_L25 f)) h_fuel (nI kx) (bI s.1) (nI u) z s.2) Q := ?_
      · exact e2 0 rfl
      rintro z rfl
      refine w_for (fun f2 v (s : KS) => wp (f_Model_keepsEdges_L37 (f_Model_keepsEdges_J147 (f_Model_keepsEdges_L25 f)) f2 (nI kx) (bI s.1) (nI u) (nI v) s.2) Q) (fun v s => Fr 137 138 μ s.2 ∧ (∀ p, p < 64 → (¬ s.2.1 137 p = 0 ↔ tk X a u v p)) ∧ (s.1 = true ↔ eK X a u ∧ ∀ v', v' < v → eV X a u v')) u ?_ ?_ 0 s (Nat.zero_le _) (by omega) ⟨g1, g2, by rw [g3]; exact ⟨fun h => ⟨h, fun v' h' => absurd h' (Nat.not_lt_zero _)⟩, fun h => h.1⟩⟩
      · intro f2 s2 ⟨k1, k2, k3⟩
        show wp (f_Model_keepsEdges_L37_b _ _ _ _ _ _ _) Q
        unfold f_Model_keepsEdges_L37_b f_Model_keepsEdges_J147
        refine w_t (nI_le (Nat.le_refl _) (by omega)) (w_let ?_)
        rw [nI_1]
        refine ih s2 ⟨k1, fun p hp => (k2 p hp).trans tk_next, ?_⟩
        rw [k3]
        constructor
        · intro h u' hu'
          rcases Nat.lt_or_ge u' u with h7 | h7
          · exact h.1 u' h7
          · have : u' = u := by omega
            rw [this]; exact h.2
        · exact fun h => ⟨fun u' h7 => h u' (by omega), h u (by omega)⟩
      · intro f2 v s2 hv ⟨k1, k2, k3⟩ ih2
        obtain ⟨v1, v2⟩ := hi v (by omega)
        have hI : ∀ p, p < X.1 → s2.2.1 133 p = nI (a p) := fun p hp => by rw [k1.i (by omega)]; exact (hi p hp).1
        show wp (f_Model_keepsEdges_L37_b _ _ _ _ _ _ _) Q
        unfold f_Model_keepsEdges_L37_b
        refine w_f (nI_ge hv (by omega)) ?_
        refine w_bde (e_isNear hkx hX (by rw [k1.i (by omega)]; exact h1) hu (by omega)) ?_
        refine w_if (fun h3 => ?_) (fun h3 => ?_)
        · rw [bI_0] at h3
          have h3 : X.2.2 u v = 0 := by simpa using h3
          unfold f_Model_keepsEdges_J141
          refine w_let ?_
          rw [nI_1]
          refine ih2 s2 ⟨k1, fun p hp => ?_, ?_⟩
          · rw [k2 p hp, tk_v]
            exact ⟨Or.inl, fun h => h.elim id (fun h => absurd h3 h.1)⟩
          · rw [k3]
            constructor
            · intro h
              refine ⟨h.1, fun v' h' => ?_⟩
              rcases Nat.lt_or_ge v' v with h7 | h7
              · exact h.2 v' h7
              · have : v' = v := by omega
                rw [this]; exact fun h8 => absurd h3 h8
            · exact fun h => ⟨h.1, fun v' h7 => h.2 v' (by omega)⟩
        · rw [bI_n] at h3
          have h3 : ¬ X.2.2 u v = 0 := by simpa using h3
          have hp64 := pr_lt i2 v2
          have c133 : ∀ x, x < X.1 → vp_in (nI x) (h_len 133) := fun x hx => in_N (by rw [show h_len 133 = 9 from rfl]; omega) (by decide)
          have fin : ∀ c : Bool, (c = true ↔ s2.1 = true ∧ ¬ tk X a u v (pr (a u) (a v))) → wp (f_Model_keepsEdges_J132 (f_Model_keepsEdges_L37 (f_Model_keepsEdges_J147 (f_Model_keepsEdges_L25 f)) f2) (nI kx) (nI u) (nI v) (nI (pr (a u) (a v))) (bI c) s2.2) Q := by
            intro c hcc
            unfold f_Model_keepsEdges_J132 f_Model_keepsEdges_J141
            refine w_chk (in_N (by rw [show h_len 137 = 64 from rfl]; omega) (by decide)) ?_
            refine w_let (w_let ?_)
            rw [nI_1, cl_8 (by omega), show (1 : Int32) &&& 1 = 1 from rfl]
            refine ih2 (c, _) ⟨k1.trans (Fr.wi (a := 137) (b := 138) (by omega) (by omega)) (by omega) (by omega) (by omega) (by omega), fun p hp => ?_, ?_⟩
            · show ¬ (h_wi s2.2 137 (pr (a u) (a v)) 1).1 137 p = 0 ↔ _
              rw [wi_e, tk_v, ← k2 p hp]
              by_cases e : p = pr (a u) (a v)
              · rw [if_pos ⟨rfl, e⟩]
                exact ⟨fun _ => Or.inr ⟨h3, e.symm⟩, fun _ => by decide⟩
              · rw [if_neg (fun h => e h.2)]
                exact ⟨Or.inl, fun h => h.elim id (fun h => absurd h.2.symm e)⟩
            · show c = true ↔ _
              rw [hcc, k3]
              constructor
              · rintro ⟨h, h8⟩
                refine ⟨h.1, fun v' h' => ?_⟩
                rcases Nat.lt_or_ge v' v with h7 | h7
                · exact h.2 v' h7
                · have : v' = v := by omega
                  rw [this]; exact fun _ => h8
              · exact fun h => ⟨⟨h.1, fun v' h7 => h.2 v' (by omega)⟩, h.2 v (by omega) h3⟩
          have mid : ∀ z, z = nI (min (a u) (a v)) → wp (f_Model_keepsEdges_J86 (f_Model_keepsEdges_L37 (f_Model_keepsEdges_J147 (f_Model_keepsEdges_L25 f)) f2) (nI kx) (bI s2.1) (nI u) (nI v) z s2.2) Q := by
            rintro z rfl
            unfold f_Model_keepsEdges_J86
            refine w_chk (c133 u hu) (w_chk (c133 v (by omega)) (w_let ?_))
            rw [cl_8 (u := u) (by omega), cl_8 (u := v) (by omega), hI u hu, hI v (by omega), pr_n i2 v2]
            have hno : ∀ (h : ¬ (s2.1 = true ∧ ¬ tk X a u v (pr (a u) (a v)))), wp (f_Model_keepsEdges_J131 (f_Model_keepsEdges_L37 (f_Model_keepsEdges_J147 (f_Model_keepsEdges_L25 f)) f2) (nI kx) (nI u) (nI v) (nI (pr (a u) (a v))) s2.2) Q := fun h => fin false ⟨fun h' => (by cases h'), fun h' => absurd h' h⟩
            refine w_if (fun h4 => ?_) (fun h4 => ?_)
            · rw [bI_0] at h4
              exact hno (fun h => by rw [h4] at h; cases h.1)
            · rw [bI_n] at h4
              refine w_chk (in_N (by rw [show h_len 137 = 64 from rfl]; omega) (by decide)) ?_
              rw [cl_8 (u := pr (a u) (a v)) (by omega)]
              refine w_if (fun h5 => ?_) (fun h5 => ?_)
              · exact hno (fun h => h.2 ((k2 _ hp64).mp h5))
              · exact fin true ⟨fun _ => ⟨h4, fun h => h5 ((k2 _ hp64).mpr h)⟩, fun _ => rfl⟩
          refine w_chk (c133 u hu) (w_chk (c133 v (by omega)) ?_)
          rw [cl_8 (u := u) (by omega), cl_8 (u := v) (by omega), hI u hu, hI v (by omega)]
          refine w_if (fun h4 => ?_) (fun h4 => ?_)
          · have h4 : a v ≤ a u := by
              rcases Nat.lt_or_ge (a u) (a v) with h | h
              · exact absurd h4 (nI_ge h (by omega))
              · exact h
            exact w_chk (c133 v (by omega)) (mid _ (by rw [Nat.min_eq_right h4]))
          · have h4 : a u ≤ a v := by
              rcases Nat.lt_or_ge (a v) (a u) with h | h
              · exact absurd (nI_le (by omega) (by omega)) h4
              · exact h
            exact w_chk (c133 u hu) (mid _ (by rw [Nat.min_eq_left h4]))
    · rintro (⟨u', v', h, _⟩ | ⟨v', h, _⟩)
      · exact absurd h (Nat.not_lt_zero _)
      · exact absurd h (Nat.not_lt_zero _)
  · intro f k m hk ⟨f0, z0⟩ ih
    show wp (f_Model_keepsEdges_L2_b _ _ _ _ _) Q
    unfold f_Model_keepsEdges_L2_b
    refine w_f (nI_ge (b := 64) hk (by omega)) ?_
    refine w_chk (in_N (by rw [show h_len 137 = 64 from rfl]; omega) (by decide)) ?_
    refine w_let (w_let ?_)
    rw [nI_1, cl_8 (by omega), show (0 : Int32) &&& 1 = 0 from rfl]
    refine ih _ ⟨f0.trans (Fr.wi (a := 137) (b := 138) (by omega) (by omega)) (by omega) (by omega) (by omega) (by omega), fun p hp => ?_⟩
    rw [wi_e]
    by_cases e : p = k
    · rw [if_pos ⟨rfl, e⟩]
    · rw [if_neg (fun h => e h.2)]; exact z0 p (by omega)
