/-! 69: the first image -/
def hE (X Y : HG) (k : Nat) (lay : Nat → Nat) : Prop := ∃ f, Hm (fun v => decide (v < X.1)) (fun _ t => decide (t < Y.1)) X.2.2 Y.2.2 f ∧ ∀ u, u < k → f u = lay u
def ly (lay : Nat → Nat) (k t : Nat) : Nat → Nat := fun u => if u = k then t else lay u
noncomputable def fiK (X Y : HG) (lay : Nat → Nat) (k : Nat) : Nat := lst (fun t => hE X Y (k + 1) (ly lay k t)) Y.1
noncomputable def fiL (X Y : HG) : Nat → Nat → Nat
  | 0 => fun _ => 0
  | k + 1 => ly (fiL X Y k) k (fiK X Y (fiL X Y k) k)
theorem ly_lt {lay : Nat → Nat} {k t u : Nat} (h : u < k) : ly lay k t u = lay u := if_neg (by omega)
theorem ly_eq {lay : Nat → Nat} {k t : Nat} : ly lay k t k = t := if_pos rfl
theorem fi_st {X Y : HG} {k : Nat} (hk : k < X.1) {lay : Nat → Nat} (h : hE X Y k lay) : fiK X Y lay k < Y.1 ∧ hE X Y (k + 1) (ly lay k (fiK X Y lay k)) ∧ ∀ t, t < fiK X Y lay k → ¬ hE X Y (k + 1) (ly lay k t) := by
  obtain ⟨f, hf, hl⟩ := h
  have hfk : f k < Y.1 := of_decide_eq_true (hf.1 k (decide_eq_true hk))
  have hk' : hE X Y (k + 1) (ly lay k (f k)) := ⟨f, hf, fun u hu => by
    by_cases e : u = k
    · rw [e, ly_eq]
    · rw [ly_lt (by omega)]
      exact hl u (by omega)⟩
  rcases lst_sp (fun t => hE X Y (k + 1) (ly lay k t)) Y.1 with h1 | ⟨_, h1⟩
  · exact h1
  · exact absurd hk' (h1 (f k) hfk)
theorem fi_ok {X Y : HG} (h : hom X Y) : ∀ {k : Nat}, k ≤ X.1 → hE X Y k (fiL X Y k)
  | 0, _ => by
    obtain ⟨f, hf⟩ := h
    exact ⟨f, hf, fun u hu => absurd hu (Nat.not_lt_zero _)⟩
  | k + 1, hk => (fi_st (by omega) (fi_ok h (k := k) (by omega))).2.1
def dk (X Y : HG) (k : Nat) (lay : Nat → Nat) (u t : Nat) : Bool := if u < k then decide (t = lay u) else dm0 X Y (fun t => decide (t < Y.1)) u t
theorem dk_dm {X Y : HG} {k : Nat} {lay : Nat → Nat} (h : ∀ u, u < k → dm0 X Y (fun t => decide (t < Y.1)) u (lay u) = true) (u t : Nat) (hd : dk X Y k lay u t = true) : dm0 X Y (fun t => decide (t < Y.1)) u t = true := by
  unfold dk at hd
  by_cases e : u < k
  · rw [if_pos e, decide_eq_true_iff] at hd
    rw [hd]
    exact h u e
  · rwa [if_neg e] at hd
theorem dk_hE {X Y : HG} {k : Nat} (hk : k ≤ X.1) {lay : Nat → Nat} (h : ∀ u, u < k → dm0 X Y (fun t => decide (t < Y.1)) u (lay u) = true) : (∃ f, Hm (fun v => decide (v < X.1)) (dk X Y k lay) X.2.2 Y.2.2 f) ↔ hE X Y k lay := by
  have hP : ∀ v, (fun v => decide (v < X.1)) v = true → v < X.1 := fun v hv => of_decide_eq_true hv
  have hR : ∀ v, (fun v => decide (v < Y.1)) v = true → v < Y.1 := fun v hv => of_decide_eq_true hv
  constructor
  · rintro ⟨f, h1, h2⟩
    refine ⟨f, (Hm0 hP hR f).mp ⟨fun v hv => dk_dm h v _ (h1 v hv), h2⟩, fun u hu => ?_⟩
    have := h1 u (decide_eq_true (by omega))
    unfold dk at this
    rw [if_pos hu] at this
    exact of_decide_eq_true this
  · rintro ⟨f, hf, hl⟩
    have hf' := (Hm0 hP hR f).mpr hf
    refine ⟨f, fun v hv => ?_, hf.2⟩
    unfold dk
    by_cases e : v < k
    · rw [if_pos e]
      exact decide_eq_true (hl v e)
    · rw [if_neg e]
      exact hf'.1 v hv
theorem hE_dm {X Y : HG} {k : Nat} (hk : k ≤ X.1) {lay : Nat → Nat} (h : hE X Y k lay) : ∀ u, u < k → dm0 X Y (fun t => decide (t < Y.1)) u (lay u) = true := fun u hu => by
  obtain ⟨f, hf, hl⟩ := h
  rw [← hl u hu]
  exact ((Hm0 (fun v hv => of_decide_eq_true hv) (fun v hv => of_decide_eq_true hv) f).mpr hf).1 u (decide_eq_true (by omega))
theorem s_fixFirst {μ : HMem} {X Y : HG} (hX : GV X) (hY : GV Y) {k : Nat} (hk : k < X.1) {lay : Nat → Nat} (hm : HM (fun v => decide (v < X.1)) (fF X (fun v => decide (v < X.1))) (fT Y (fun t => decide (t < Y.1))) μ) (hD : DR μ 106 (dk X Y k lay)) (h : hE X Y k lay) {Q : Int32 → HMem → Prop} (hQ : ∀ μ', DR μ' 106 (dk X Y (k + 1) (ly lay k (fiK X Y lay k))) → Fr 106 117 μ μ' → Q (nI (fiK X Y lay k)) μ') : wp (f_HomSearch_fixFirst (nI k) μ) Q := by
  have nX := hX.1
  have nY := hY.1
  have hP : ∀ v, (fun v => decide (v < X.1)) v = true → v < X.1 := fun v hv => of_decide_eq_true hv
  have hR : ∀ v, (fun v => decide (v < Y.1)) v = true → v < Y.1 := fun v hv => of_decide_eq_true hv
  obtain ⟨i1, i2, i3⟩ := fi_st hk h
  unfold f_HomSearch_fixFirst
  refine w_chk (in_8 (by omega) rfl) ?_
  refine w_let ?_
  rw [cl_8 (by omega)]
  have hch : ∀ t, bt (μ.1 106 k) t = dm0 X Y (fun t => decide (t < Y.1)) k t := fun t => by
    rw [hD k (by omega) t]
    unfold dk
    rw [if_neg (by omega)]
  refine w_for (fun f t (m : HMem) => wp (f_HomSearch_fixFirst_L9 f (nI k) (μ.1 106 k) (nI t) m) Q) (fun t m => Fr 106 117 μ m ∧ (∀ u, u < 8 → u ≠ k → ∀ s, bt (m.1 106 u) s = dk X Y k lay u s) ∧ t ≤ fiK X Y lay k) 8 ?_ ?_ 0 μ (by omega) (by omega) ⟨Fr.refl _ _ _, fun u hu _ s => hD u hu s, Nat.zero_le _⟩
  · rintro f m ⟨_, _, h3⟩
    omega
  · rintro f t m ht ⟨h1, h2, h3⟩ ih
    show wp (f_HomSearch_fixFirst_L9_b (f_HomSearch_fixFirst_L9 f) (nI k) (μ.1 106 k) (nI t) m) Q
    unfold f_HomSearch_fixFirst_L9_b f_HomSearch_fixFirst_J46
    refine w_f (nI_ge (b := 8) ht (by omega)) ?_
    refine w_bde (e_has _ (by omega) _) ?_
    rw [hch t]
    have next : ∀ m', Fr 106 117 μ m' → (∀ u, u < 8 → u ≠ k → ∀ s, bt (m'.1 106 u) s = dk X Y k lay u s) → ¬ hE X Y (k + 1) (ly lay k t) → wp (h_let (nI t + 1) (fun v3_46 => f_HomSearch_fixFirst_L9 f (nI k) (μ.1 106 k) v3_46 m')) Q := by
      intro m' q1 q2 q3
      refine w_let ?_
      rw [nI_1]
      refine ih m' ⟨q1, q2, ?_⟩
      refine Nat.lt_of_le_of_ne h3 (fun e => q3 ?_)
      rw [e]
      exact i2
    refine w_if (fun h0 => ?_) (fun h0 => ?_)
    · rw [bI_0] at h0
      refine next m h1 h2 (fun hE' => ?_)
      have := hE_dm (by omega) hE' k (by omega)
      rw [ly_eq, h0] at this
      cases this
    · rw [bI_n] at h0
      refine w_chk (in_8 (by omega) rfl) ?_
      refine w_let ?_
      rw [cl_8 (by omega)]
      have fw : Fr 106 117 m (h_wi m 106 k (h_ishl 1 (nI t))) := Fr.wi (by omega) (by omega)
      have hdm : ∀ u, u < k + 1 → dm0 X Y (fun t => decide (t < Y.1)) u (ly lay k t u) = true := fun u hu => by
        by_cases e : u = k
        · rw [e, ly_eq]; exact h0
        · rw [ly_lt (by omega)]
          exact hE_dm (by omega) h u (by omega)
      have D2 : DR (h_wi m 106 k (h_ishl 1 (nI t))) 106 (dk X Y (k + 1) (ly lay k t)) := by
        intro u hu s
        rw [wi_e]
        by_cases e : u = k
        · rw [if_pos ⟨rfl, e⟩, b_one (by omega), e]
          unfold dk
          rw [if_pos (by omega), ly_eq]
        · rw [if_neg (by omega), h2 u hu e s]
          unfold dk
          by_cases e2 : u < k
          · rw [if_pos e2, if_pos (by omega), ly_lt e2]
          · rw [if_neg e2, if_neg (by omega)]
      have f1 : Fr 106 117 μ (h_wi m 106 k (h_ishl 1 (nI t))) := h1.trans fw (by omega) (by omega) (by omega) (by omega)
      refine w_bdk (s_ext0 hX hY hP hR (hm.fr f1 (by omega)) (dk_dm hdm) D2 (fun b m2 hb f2 => ?_))
      rw [dk_hE (by omega) hdm] at hb
      have f12 : Fr 106 117 μ m2 := f1.trans f2 (by omega) (by omega) (by omega) (by omega)
      refine w_if (fun h4 => ?_) (fun h4 => ?_)
      · rw [bI_0] at h4
        refine next m2 f12 (fun u hu e s => ?_) (fun hE' => ?_)
        · rw [f2.i (by omega), wi_n _ _ (Or.inr e)]
          exact h2 u hu e s
        · rw [hb.mpr hE'] at h4
          cases h4
      · rw [bI_n] at h4
        have e : t = fiK X Y lay k := by
          rcases Nat.lt_or_ge t (fiK X Y lay k) with h5 | h5
          · exact absurd (hb.mp h4) (i3 t h5)
          · omega
        have e2 : nI t = nI (fiK X Y lay k) := by rw [e]
        rw [e2]
        refine w_ret (hQ m2 ?_ f12)
        rw [← e]
        exact D2.fr f2 (by omega)
theorem s_cfirst {μ : HMem} {gx gy : Nat} {X Y : HG} (hgx : IsG gx) (hgy : IsG gy) (cx : CG μ gx X) (cy : CG μ gy Y) (hX : GV X) (hY : GV Y) {v : Nat} (hv : v < X.1) {Q : Int32 → HMem → Prop} (hno : ∀ μ', ¬ hom X Y → Fr 103 117 μ μ' → Q (-1) μ') (hyes : ∀ μ', hom X Y → Fr 103 117 μ μ' → Q (nI (fiK X Y (fiL X Y v) v)) μ') : wp (f_HomSearch_firstImage gx gy (nI v) μ) Q := by
  have nX := hX.1
  have bX : bt (fullS X.1) = fun v => decide (v < X.1) := funext (fun v => b_full hX.1 v)
  have bY : bt (fullS Y.1) = fun v => decide (v < Y.1) := funext (fun v => b_full hY.1 v)
  have hP : ∀ v, (fun v => decide (v < X.1)) v = true → v < X.1 := fun v hv => of_decide_eq_true hv
  have hR : ∀ v, (fun v => decide (v < Y.1)) v = true → v < Y.1 := fun v hv => of_decide_eq_true hv
  unfold f_HomSearch_firstImage
  refine w_bde (e_all cx hX.1) ?_
  refine w_bde (e_all cy hY.1) ?_
  refine w_bdk (s_load hgx hgy cx cy hX.1 hY.1 _ _ (fun m1 k1 k2 k3 => ?_))
  rw [bX, bY] at k1
  rw [bY] at k2
  refine w_bdk (s_ext0 hX hY hP hR k1 (fun v t h => h) k2 (fun b m2 hb f2 => ?_))
  have f12 : Fr 103 117 μ m2 := k3.trans f2 (by omega) (by omega) (by omega) (by omega)
  have hb2 : b = true ↔ hom X Y := hb.trans ⟨fun ⟨f, h⟩ => ⟨f, (Hm0 hP hR f).mp h⟩, fun ⟨f, h⟩ => ⟨f, (Hm0 hP hR f).mpr h⟩⟩
  refine w_if (fun h0 => ?_) (fun h0 => ?_)
  · rw [bI_n] at h0
    have hh := hb2.mp h0
    refine w_for (fun f k (y : Int32 × HMem) => wp (f_HomSearch_firstImage_L34 f (nI v) y.1 (nI k) y.2) Q) (fun k y => Fr 103 117 μ y.2 ∧ HM (fun v => decide (v < X.1)) (fF X (fun v => decide (v < X.1))) (fT Y (fun t => decide (t < Y.1))) y.2 ∧ DR y.2 106 (dk X Y k (fiL X Y k)) ∧ (k = v + 1 → y.1 = nI (fiK X Y (fiL X Y v) v))) (v + 1) ?_ ?_ 0 (-1, m2) (by omega) (by omega) ⟨f12, k1.fr f2 (by omega), ?_, fun h => by omega⟩
    · rintro f ⟨x, m⟩ ⟨g1, g2, g3, g4⟩
      show wp (f_HomSearch_firstImage_L34_b (f_HomSearch_firstImage_L34 f) (nI v) x (nI (v + 1)) m) Q
      unfold f_HomSearch_firstImage_L34_b
      refine w_t (nI_lt (by omega) (by omega)) ?_
      have : x = nI (fiK X Y (fiL X Y v) v) := g4 rfl
      rw [this]
      exact w_ret (hyes m hh g1)
    · rintro f k ⟨x, m⟩ hk ⟨g1, g2, g3, g4⟩ ih
      show wp (f_HomSearch_firstImage_L34_b (f_HomSearch_firstImage_L34 f) (nI v) x (nI k) m) Q
      unfold f_HomSearch_firstImage_L34_b
      refine w_f (nI_nlt (by omega) (by omega)) ?_
      refine w_bdk (s_fixFirst hX hY (show k < X.1 by omega) g2 g3 (fi_ok hh (by omega)) (fun m3 d3 f3 => ?_))
      refine w_let ?_
      rw [nI_1]
      refine ih (nI (fiK X Y (fiL X Y k) k), m3) ⟨(show Fr 103 117 μ m from g1).trans f3 (by omega) (by omega) (by omega) (by omega), (show HM _ _ _ m from g2).fr f3 (by omega), d3, fun e => ?_⟩
      have : k = v := by omega
      rw [this]
    · intro u hu t
      show bt (m2.1 106 u) t = dk X Y 0 (fiL X Y 0) u t
      unfold dk
      rw [if_neg (by omega), f2.i (by omega)]
      exact k2 u hu t
  · have h0 := Classical.not_not.mp h0
    rw [bI_0] at h0
    exact w_ret (hno m2 (fun h => by rw [hb2.mpr h] at h0; cases h0) f12)
theorem s_rfirst {μ : HMem} {kx ky : Nat} {X Y : HG} (hkx : kx < 6) (hky : ky < 6) (hX : GV X) (hY : GV Y) (h1 : RG (μ.1 126) (73 * kx) X) (h2 : RG (μ.1 126) (73 * ky) Y) {v : Nat} (hv : v < X.1) {Q : Int32 → HMem → Prop} (hno : ∀ μ', ¬ hom X Y → Fr 133 137 μ μ' → Q (-1) μ') (hyes : ∀ μ', hom X Y → Fr 133 137 μ μ' → Q (nI (fiK X Y (fiL X Y v) v)) μ') : wp (f_Model_firstImage (nI kx) (nI ky) (nI v) μ) Q := by
  have nX := hX.1
  have nY := hY.1
  unfold f_Model_firstImage
  refine w_bdk (s_isFree hkx hky hX hY h1 h2 (fun b m1 hb f1 l1 => ?_))
  rw [free_hom hY] at hb
  refine w_if (fun h0 => ?_) (fun h0 => ?_)
  · rw [bI_n] at h0
    have hh := hb.mp h0
    refine w_for (fun f k (m : HMem) => wp (f_Model_firstImage_L15 f (nI kx) (nI ky) (nI v) (nI k) m) Q) (fun k m => Fr 133 137 μ m ∧ (∀ u, u < 8 → m.1 135 u = if u < k then nI (fiL X Y k u) else -1)) (v + 1) ?_ ?_ 0 m1 (by omega) (by omega) ⟨f1, fun u hu => by rw [if_neg (by omega)]; exact l1 u hu⟩
    · rintro f m ⟨g1, g2⟩
      show wp (f_Model_firstImage_L15_b (f_Model_firstImage_L15 f) (nI kx) (nI ky) (nI v) (nI (v + 1)) m) Q
      unfold f_Model_firstImage_L15_b
      refine w_t (nI_lt (by omega) (by omega)) ?_
      refine w_chk (in_8 (by omega) rfl) ?_
      rw [cl_8 (by omega), g2 v (by omega), if_pos (by omega)]
      have : fiL X Y (v + 1) v = fiK X Y (fiL X Y v) v := ly_eq
      rw [this]
      exact w_ret (hyes m hh g1)
    · rintro f k m hk ⟨g1, g2⟩ ih
      show wp (f_Model_firstImage_L15_b (f_Model_firstImage_L15 f) (nI kx) (nI ky) (nI v) (nI k) m) Q
      unfold f_Model_firstImage_L15_b
      have hk8 : k < X.1 := by omega
      obtain ⟨i1, i2, i3⟩ := fi_st hk8 (fi_ok hh (k := k) (by omega))
      refine w_f (nI_nlt (by omega) (by omega)) ?_
      refine w_chk (in_8 (by omega) rfl) ?_
      refine w_let ?_
      rw [cl_8 (by omega)]
      have ask : ∀ (m' : HMem) (t : Nat), t < 8 → (∀ u, u < 8 → m'.1 135 u = if u < k + 1 then nI (ly (fiL X Y k) k t u) else -1) → ((∃ f, Hm (fun v => decide (v < X.1)) (fun v s => decide (s < Y.1) && adB (-1) (m'.1 135) v s) X.2.2 Y.2.2 f) ↔ hE X Y (k + 1) (ly (fiL X Y k) k t)) := by
        intro m' t ht hl
        have hlay : ∀ u, u < k + 1 → ly (fiL X Y k) k t u < 8 := fun u hu => by
          by_cases e : u = k
          · rw [e, ly_eq]; exact ht
          · rw [ly_lt (by omega)]
            obtain ⟨f, hf, hfl⟩ := fi_ok hh (k := k) (by omega)
            rw [← hfl u (by omega)]
            have := hf.1 u (decide_eq_true (by omega))
            have := of_decide_eq_true this
            omega
        have hadm : ∀ u, u < X.1 → ∀ s, s < Y.1 → (adB (-1) (m'.1 135) u s = true ↔ (u < k + 1 → s = ly (fiL X Y k) k t u)) := fun u hu s hs => by
          unfold adB
          rw [decide_eq_false (dnN (j := s) (by omega)), Bool.not_false, Bool.true_and, hl u (by omega)]
          by_cases e : u < k + 1
          · rw [if_pos e, decide_eq_false (nI_pos (by have := hlay u e; omega)), Bool.false_or, decide_eq_true_iff, nI_eq (by have := hlay u e; omega) (by omega)]
            exact ⟨fun h _ => h.symm, fun h => (h e).symm⟩
          · rw [if_neg e, decide_eq_true (show (-1 : Int32) < 0 by decide), Bool.true_or]
            exact ⟨fun _ h => absurd h e, fun _ => rfl⟩
        constructor
        · rintro ⟨f, hf1, hf2⟩
          have q : ∀ u, u < X.1 → f u < Y.1 ∧ adB (-1) (m'.1 135) u (f u) = true := fun u hu => by
            have := hf1 u (decide_eq_true hu)
            rw [Bool.and_eq_true, decide_eq_true_iff] at this
            exact this
          exact ⟨f, ⟨fun u hu => decide_eq_true (q u (of_decide_eq_true hu)).1, hf2⟩, fun u hu => (hadm u (by omega) _ (q u (by omega)).1).mp (q u (by omega)).2 hu⟩
        · rintro ⟨f, ⟨hf1, hf2⟩, hfl⟩
          refine ⟨f, fun u hu => ?_, hf2⟩
          have hlt := of_decide_eq_true (hf1 u hu)
          rw [Bool.and_eq_true, decide_eq_true_iff]
          exact ⟨hlt, (hadm u (of_decide_eq_true hu) _ hlt).mpr (fun h => hfl u h)⟩
      refine w_for (fun f2 t (m' : HMem) => wp (f_Model_firstImage_L29 (f_Model_firstImage_J53 (f_Model_firstImage_L15 f)) f2 (nI kx) (nI ky) (nI v) (nI k) m') Q) (fun t m' => Fr 133 137 μ m' ∧ (∀ u, u < 8 → m'.1 135 u = if u < k + 1 then nI (ly (fiL X Y k) k t u) else -1)) (fiK X Y (fiL X Y k) k) ?_ ?_ 0 (h_wi m 135 k 0) (by omega) (by omega) ⟨(show Fr 133 137 μ m from g1).trans (Fr.wi (a := 133) (b := 137) (by omega) (by omega)) (by omega) (by omega) (by omega) (by omega), fun u hu => ?_⟩
      · rintro f2 m' ⟨k1, k2⟩
        show wp (f_Model_firstImage_L29_b (f_Model_firstImage_J53 (f_Model_firstImage_L15 f)) (f_Model_firstImage_L29 (f_Model_firstImage_J53 (f_Model_firstImage_L15 f)) f2) (nI kx) (nI ky) (nI v) (nI k) m') Q
        unfold f_Model_firstImage_L29_b f_Model_firstImage_J53
        refine w_bdk (s_isThere hkx hky hX hY (by rw [k1.i (by omega)]; exact h1) (by rw [k1.i (by omega)]; exact h2) (fun b2 m2 hb2 f2' l2 => ?_))
        rw [ask m' _ (by omega) k2] at hb2
        have := hb2.mpr i2
        subst this
        refine w_t (by decide) ?_
        refine w_let ?_
        rw [nI_1]
        exact ih m2 ⟨k1.trans f2' (by omega) (by omega) (by omega) (by omega), fun u hu => by rw [l2]; exact k2 u hu⟩
      · rintro f2 t m' ht ⟨k1, k2⟩ ih2
        show wp (f_Model_firstImage_L29_b (f_Model_firstImage_J53 (f_Model_firstImage_L15 f)) (f_Model_firstImage_L29 (f_Model_firstImage_J53 (f_Model_firstImage_L15 f)) f2) (nI kx) (nI ky) (nI v) (nI k) m') Q
        unfold f_Model_firstImage_L29_b
        refine w_bdk (s_isThere hkx hky hX hY (by rw [k1.i (by omega)]; exact h1) (by rw [k1.i (by omega)]; exact h2) (fun b2 m2 hb2 f2' l2 => ?_))
        rw [ask m' _ (by omega) k2] at hb2
        cases b2 with
        | true => exact absurd (hb2.mp rfl) (i3 t ht)
        | false =>
          refine w_f (fun h => h rfl) ?_
          refine w_chk (in_8 (by omega) rfl) ?_
          refine w_chk (in_8 (by omega) rfl) ?_
          refine w_let ?_
          rw [cl_8 (by omega), l2, k2 k (by omega), if_pos (by omega), ly_eq, nI_1]
          refine ih2 _ ⟨(k1.trans f2' (by omega) (by omega) (by omega) (by omega) : Fr 133 137 μ m2).trans (Fr.wi (a := 133) (b := 137) (by omega) (by omega)) (by omega) (by omega) (by omega) (by omega), fun u hu => ?_⟩
          rw [wi_e]
          by_cases e : u = k
          · rw [if_pos ⟨rfl, e⟩, if_pos (by omega), e, ly_eq]
          · rw [if_neg (by omega), l2, k2 u hu]
            by_cases e2 : u < k + 1
            · rw [if_pos e2, if_pos e2, ly_lt (by omega), ly_lt (by omega)]
            · rw [if_neg e2, if_neg e2]
      · rw [wi_e]
        by_cases e : u = k
        · rw [if_pos ⟨rfl, e⟩, if_pos (by omega), e, ly_eq]
          rfl
        · rw [if_neg (by omega), g2 u hu]
          by_cases e2 : u < k
          · rw [if_pos e2, if_pos (by omega), ly_lt e2]
          · rw [if_neg e2, if_neg (by omega)]
  · have h0 := Classical.not_not.mp h0
    rw [bI_0] at h0
    exact w_ret (hno m1 (fun h => by rw [hb.mpr h] at h0; cases h0) f1)
theorem LM_image (a b c : Int32) {μ : HMem} (h : SI μ) : Fc (f_Law_image a b c μ) (f_Model_image a b c) := by
  obtain ⟨σ, ok, hc, hr⟩ := h
  unfold Fc f_Law_image f_Bench_image
  rcases ix_g a (n := 4) (by omega) with ha | ⟨i, hi, rfl⟩
  · rw [e_graphAtX ha, bdx_r, bdt_r]
    refine w_ret ?_
    unfold f_Model_image f_Model_image_J16
    rw [e_isVG ha, bd_some]
    exact w_t (by decide) (w_ret (Q_err ok hc hr (by decide) _))
  · rw [e_graphAt hi, bdx_l]
    have hri := hr.1 i hi
    have hci := hc.1 i hi
    have hV := ok.1 i hi
    have hn := hV.1
    rcases ix_g b (n := 4) (by omega) with hb | ⟨j, hj, rfl⟩
    · rw [e_graphAtX hb, bdx_r, bdt_r]
      refine w_ret ?_
      unfold f_Model_image f_Model_image_J16
      rw [e_isVertex hi hri, bd_some]
      refine w_if (fun _ => w_ret (Q_err ok hc hr (by decide) _)) (fun _ => ?_)
      rw [e_isGX hb, bd_some]
      exact w_f (by decide) (w_ret (Q_err ok hc hr (by decide) _))
    · rw [e_graphAt hj, bdx_l]
      have hY := ok.1 j hj
      rcases ix_g c (n := (σ.1 i).1) (by omega) with hcv | ⟨v, hv, rfl⟩
      · rw [e_reqVX hci hcv, bdx_r, bdt_r]
        refine w_ret ?_
        unfold f_Model_image f_Model_image_J16
        rw [e_isVX hi hri hn hcv, bd_some]
        exact w_t (by decide) (w_ret (Q_err ok hc hr (by decide) _))
      · rw [e_reqV hci hn hv, bdx_l]
        refine LM_obs ok (r := @ite _ (hom (σ.1 i) (σ.1 j)) (Classical.propDecidable _) (nI (fiK (σ.1 i) (σ.1 j) (fiL (σ.1 i) (σ.1 j) v) v)) (-1)) ?_ (fun m2 c2 r2 => ?_)
        · refine w_bdk (s_cfirst (isg_g hi) (isg_g hj) hci (hc.1 j hj) hV hY hv (fun m1 hh f1 => ?_) (fun m1 hh f1 => ?_))
          · rw [if_neg hh]
            exact w_ret ⟨rfl, hc.fr f1 (by omega), hr.fr f1 (by omega)⟩
          · rw [if_pos hh]
            exact w_ret ⟨rfl, hc.fr f1 (by omega), hr.fr f1 (by omega)⟩
        · unfold f_Model_image
          rw [e_isV hi (r2.1 i hi) hn hv, bd_some]
          refine w_f (by decide) ?_
          rw [e_isG hj, bd_some]
          refine w_t (by decide) ?_
          refine w_bdk (s_rfirst (by omega) (by omega) hV hY (r2.1 i hi) (r2.1 j hj) hv (fun m3 hh f3 => ?_) (fun m3 hh f3 => ?_))
          · have g3 := Fs.fr f3 (by omega) (by omega)
            rw [if_neg hh]
            refine w_bde (e_tells _ _) ?_
            exact w_ret (ob_tell (c2.fs g3) (r2.fs g3) (by rw [g3.out]) _)
          · have g3 := Fs.fr f3 (by omega) (by omega)
            rw [if_pos hh]
            refine w_bde (e_tells _ _) ?_
            exact w_ret (ob_tell (c2.fs g3) (r2.fs g3) (by rw [g3.out]) _)
