/-! 62: the search for a homomorphism (the class) -/
def HM (A : Nat → Bool) (F T : Nat → Nat → Bool) (μ : HMem) : Prop := (∀ v, bt (μ.1 103 0) v = A v) ∧ (∀ v, v < 8 → ∀ u, bt (μ.1 104 v) u = F v u) ∧ (∀ s, s < 8 → ∀ t, bt (μ.1 105 s) t = T s t)
def HV (A : Nat → Bool) (F T : Nat → Nat → Bool) (B : Nat → Bool) : Prop := (∀ v, A v = true → v < 8) ∧ (∀ v u, A v = true → F v u = true → A u = true) ∧ (∀ v u, F v u = true → u < 8) ∧ (∀ s t, T s t = true → t < 8) ∧ (∀ s t, B s = true → B t = true → T s t = T t s) ∧ (∀ s, B s = true → s < 8)
def Sol (A : Nat → Bool) (F T : Nat → Nat → Bool) (dm : Nat → Nat → Bool) (f : Nat → Nat) : Prop := (∀ v, A v = true → dm v (f v) = true) ∧ ∀ v u, A v = true → F v u = true → T (f v) (f u) = true
/-- a row of the images that remain -/
def DR (μ : HMem) (c : Nat) (dm : Nat → Nat → Bool) : Prop := ∀ v, v < 8 → ∀ t, bt (μ.1 c v) t = dm v t
def D8 (dm : Nat → Nat → Bool) : Prop := ∀ v t, v < 8 → dm v t = true → t < 8
def tot (dm : Nat → Nat → Bool) : Nat := sm (fun v => cn (dm v) 8) 8
theorem HM.fr {A : Nat → Bool} {F T : Nat → Nat → Bool} {μ μ' : HMem} {a b : Nat} (h : HM A F T μ) (hf : Fr a b μ μ') (ha : 106 ≤ a) : HM A F T μ' := by
  unfold HM
  rw [hf.i (c := 103) (by omega), hf.i (c := 104) (by omega), hf.i (c := 105) (by omega)]
  exact h
theorem DR.fr {μ μ' : HMem} {c a b : Nat} {dm : Nat → Nat → Bool} (h : DR μ c dm) (hf : Fr a b μ μ') (hd : c < a ∨ b ≤ c) : DR μ' c dm := by
  unfold DR
  rw [hf.i hd]
  exact h
theorem DR.s8 {μ : HMem} {c : Nat} {dm : Nat → Nat → Bool} (h : DR μ c dm) (h8 : D8 dm) {v : Nat} (hv : v < 8) : S8 (μ.1 c v) := fun i hi => by
  rw [h v hv i]
  cases hb : dm v i with
  | false => rfl
  | true => have := h8 v i hv hb; omega
theorem sm_le2 {f g : Nat → Nat} : ∀ {n : Nat}, (∀ i, i < n → f i ≤ g i) → sm f n ≤ sm g n
  | 0, _ => Nat.le_refl _
  | n + 1, h => by
    have h1 := sm_le2 (n := n) (fun i hi => h i (by omega))
    have h2 := h n (by omega)
    show sm f n + f n ≤ sm g n + g n
    omega
theorem sm_lt2 {f g : Nat → Nat} : ∀ {n : Nat}, (∀ i, i < n → f i ≤ g i) → (∃ i, i < n ∧ f i < g i) → sm f n < sm g n
  | 0, _, ⟨i, hi, _⟩ => absurd hi (Nat.not_lt_zero _)
  | n + 1, h, ⟨i, hi, hl⟩ => by
    show sm f n + f n < sm g n + g n
    have h2 := h n (by omega)
    rcases Nat.lt_or_ge i n with h3 | h3
    · have := sm_lt2 (n := n) (fun i hi => h i (by omega)) ⟨i, h3, hl⟩
      omega
    · have : i = n := by omega
      subst this
      have := sm_le2 (n := i) (fun j hj => h j (by omega))
      omega
theorem tot_le {dm dm' : Nat → Nat → Bool} (h : ∀ v t, v < 8 → dm' v t = true → dm v t = true) : tot dm' ≤ tot dm := sm_le2 (fun v hv => cn_mono (fun t _ => h v t hv))
theorem tot_lt {dm dm' : Nat → Nat → Bool} (h : ∀ v t, v < 8 → dm' v t = true → dm v t = true) (hx : ∃ v t, v < 8 ∧ t < 8 ∧ dm v t = true ∧ dm' v t = false) : tot dm' < tot dm := by
  obtain ⟨v, t, hv, ht, h1, h2⟩ := hx
  exact sm_lt2 (fun v hv => cn_mono (fun t _ => h v t hv)) ⟨v, hv, cn_lt (fun t _ => h v t hv) ⟨t, ht, h2, h1⟩⟩
theorem tot_64 (dm : Nat → Nat → Bool) : tot dm ≤ 64 := sm_le (fun v _ => cn_le (dm v) 8)
theorem len_d : ∀ d, d < 9 → h_len (108 + d) = 8 := by decide
theorem bI_or (a b : Bool) : bI a ||| bI b = bI (a || b) := by cases a <;> cases b <;> decide
/-- what is reached from the images of a vertex -/
def rcH (T dm : Nat → Nat → Bool) (v t : Nat) : Prop := ∃ s, s < 8 ∧ (dm v s = true ∧ T s t = true)
theorem s_nn {μ : HMem} {A : Nat → Bool} {F T : Nat → Nat → Bool} (hm : HM A F T μ) {d : Nat} (hd : d < 9) {dm : Nat → Nat → Bool} (hD : DR μ (108 + d) dm) (h8 : D8 dm) {v : Nat} (hv : v < 8) {Q : Int32 → HMem → Prop} (hQ : ∀ ch dm' μ', DR μ' (108 + d) dm' → Fr (108 + d) (109 + d) μ μ' → (∀ u t, u < 8 → (dm' u t = true ↔ dm u t = true ∧ (F v u = true → rcH T dm v t))) → (ch = false → ∀ u t, u < 8 → F v u = true → dm u t = true → rcH T dm v t) → (ch = true → ∃ u t, u < 8 ∧ t < 8 ∧ dm u t = true ∧ dm' u t = false) → Q (bI ch) μ') : wp (f_HomSearch_narrowNeighbors (108 + d) (nI v) μ) Q := by
  have hl := len_d d hd
  unfold f_HomSearch_narrowNeighbors
  refine w_for (fun f s (x : Int32) => wp (f_HomSearch_narrowNeighbors_L5 f_HomSearch_narrowNeighbors_J39 f (108 + d) (nI v) x (nI s) μ) Q) (fun s x => ∀ t, bt x t = true ↔ ∃ s', s' < s ∧ (dm v s' = true ∧ T s' t = true)) 8 ?_ ?_ 0 0 (by omega) (by omega) (fun t => by rw [b_0, ex_0]; simp)
  · intro f x hx
    show wp (f_HomSearch_narrowNeighbors_L5_b f_HomSearch_narrowNeighbors_J39 (f_HomSearch_narrowNeighbors_L5 f_HomSearch_narrowNeighbors_J39 f) (108 + d) (nI v) x (nI 8) μ) Q
    unfold f_HomSearch_narrowNeighbors_L5_b f_HomSearch_narrowNeighbors_J39
    refine w_t (by decide) ?_
    refine w_for (fun f u (y : Bool × HMem) => wp (f_HomSearch_narrowNeighbors_L45 f (108 + d) (nI v) x (bI y.1) (nI u) y.2) Q) (fun u y => Fr (108 + d) (109 + d) μ y.2 ∧ (∀ a, a < 8 → ∀ t, bt (y.2.1 (108 + d) a) t = (dm a t && (!(decide (a < u) && F v a) || bt x t))) ∧ (y.1 = true ↔ ∃ a, a < u ∧ (F v a = true ∧ ∃ t, dm a t = true ∧ bt x t = false))) 8 ?_ ?_ 0 (false, μ) (by omega) (by omega) ⟨Fr.refl _ _ _, fun a ha t => by rw [hD a ha t]; simp, by rw [ex_0]; simp⟩
    · rintro f ⟨ch, m⟩ ⟨g1, g2, g3⟩
      show wp (f_HomSearch_narrowNeighbors_L45_b (f_HomSearch_narrowNeighbors_L45 f) (108 + d) (nI v) x (bI ch) (nI 8) m) Q
      unfold f_HomSearch_narrowNeighbors_L45_b
      refine w_t (by decide) ?_
      rw [e_J]
      replace g2 : ∀ a, a < 8 → ∀ t, bt (m.1 (108 + d) a) t = (dm a t && (!(decide (a < 8) && F v a) || bt x t)) := g2
      replace g3 : ch = true ↔ ∃ a, a < 8 ∧ (F v a = true ∧ ∃ t, dm a t = true ∧ bt x t = false) := g3
      refine w_ret (hQ ch (fun a t => bt (m.1 (108 + d) a) t) m (fun a ha t => rfl) g1 (fun u t hu => ?_) (fun hch u t hu hF hdm => ?_) (fun hch => ?_))
      · show bt (m.1 (108 + d) u) t = true ↔ _
        rw [g2 u hu t, Bool.and_eq_true, Bool.or_eq_true, hx t]
        simp [hu]
        intro _
        cases hF : F v u with
        | false => simp
        | true =>
          simp
          exact Iff.rfl
      · cases hb : bt x t with
        | true => exact (hx t).mp hb
        | false =>
          rw [g3.mpr ⟨u, hu, hF, t, hdm, hb⟩] at hch
          cases hch
      · obtain ⟨a, ha, hF, t, h1, h2⟩ := g3.mp hch
        refine ⟨a, t, ha, h8 a t ha h1, h1, ?_⟩
        show bt (m.1 (108 + d) a) t = false
        rw [g2 a ha t, hF, h2]
        simp [ha]
    · rintro f u ⟨ch, m⟩ hu ⟨g1, g2, g3⟩ ih
      show wp (f_HomSearch_narrowNeighbors_L45_b (f_HomSearch_narrowNeighbors_L45 f) (108 + d) (nI v) x (bI ch) (nI u) m) Q
      unfold f_HomSearch_narrowNeighbors_L45_b f_HomSearch_narrowNeighbors_J88
      replace g2 : ∀ a, a < 8 → ∀ t, bt (m.1 (108 + d) a) t = (dm a t && (!(decide (a < u) && F v a) || bt x t)) := g2
      replace g3 : ch = true ↔ ∃ a, a < u ∧ (F v a = true ∧ ∃ t, dm a t = true ∧ bt x t = false) := g3
      refine w_f (nI_ge (b := 8) hu (by omega)) ?_
      refine w_chk (in_N (by rw [show h_len 104 = 8 from rfl]; omega) (by decide)) ?_
      rw [cl_8 (u := v) (by omega), cl_8 (u := u) (by omega)]
      refine w_bde (e_has _ (by omega) _) ?_
      rw [(hm.fr g1 (by omega)).2.1 v hv u]
      have hcur : ∀ t, bt (m.1 (108 + d) u) t = dm u t := fun t => by rw [g2 u hu t]; simp
      refine w_if (fun hb => ?_) (fun hb => ?_)
      · rw [bI_0] at hb
        refine w_let ?_
        rw [nI_1]
        refine ih (ch, m) ⟨g1, fun a ha t => ?_, ?_⟩
        · show bt (m.1 (108 + d) a) t = _
          rw [g2 a ha t]
          by_cases e : a = u
          · subst e; rw [hb]; simp
          · have : decide (a < u + 1) = decide (a < u) := by
              by_cases h : a < u
              · have h' : a < u + 1 := by omega
                simp [h, h']
              · have h' : ¬ a < u + 1 := by omega
                simp [h, h']
            rw [this]
        · show ch = true ↔ _
          rw [g3, ex_s]
          exact ⟨Or.inl, fun h => h.elim id (fun h => by rw [hb] at h; cases h.1)⟩
      · rw [bI_n] at hb
        refine w_chk (by rw [hl]; exact in_N (by omega) (by omega)) ?_
        have hz : (m.1 (108 + d) u &&& (x ^^^ -1)) = 0 ↔ ¬ ∃ t, dm u t = true ∧ bt x t = false := by
          rw [b_eq0]
          constructor
          · rintro hall ⟨t, h1, h2⟩
            have := hall t (by have := h8 u t hu h1; omega)
            rw [b_not, hcur t, h1, h2] at this
            cases this
          · intro hno t ht
            rw [b_not, hcur t]
            cases h1 : dm u t with
            | false => rfl
            | true =>
              cases h2 : bt x t with
              | true => rfl
              | false => exact absurd ⟨t, h1, h2⟩ hno
        refine w_if (fun h0 => ?_) (fun h0 => ?_)
        · have h0 := hz.mp h0
          refine w_let ?_
          rw [nI_1]
          refine ih (ch, m) ⟨g1, fun a ha t => ?_, ?_⟩
          · show bt (m.1 (108 + d) a) t = _
            rw [g2 a ha t]
            by_cases e : a = u
            · subst e
              rw [hb]
              simp
              intro h1
              cases h2 : bt x t with
              | true => rfl
              | false => exact absurd ⟨t, h1, h2⟩ h0
            · have : decide (a < u + 1) = decide (a < u) := by
                by_cases h : a < u
                · have h' : a < u + 1 := by omega
                  simp [h, h']
                · have h' : ¬ a < u + 1 := by omega
                  simp [h, h']
              rw [this]
          · show ch = true ↔ _
            rw [g3, ex_s]
            exact ⟨Or.inl, fun h => h.elim id (fun h => absurd h.2 h0)⟩
        · have h0 := Classical.not_not.mp (fun h => h0 (hz.mpr h))
          refine w_chk (by rw [hl]; exact in_N (by omega) (by omega)) ?_
          refine w_chk (by rw [hl]; exact in_N (by omega) (by omega)) ?_
          refine w_let ?_
          refine w_let ?_
          rw [nI_1]
          refine ih (true, h_wi m (108 + d) u (m.1 (108 + d) u &&& x)) ⟨g1.trans (Fr.wi (by omega) (by omega)) (Nat.le_refl _) (Nat.le_refl _) (Nat.le_refl (108 + d)) (Nat.le_refl (109 + d)), fun a ha t => ?_, ?_⟩
          · show bt ((h_wi m (108 + d) u (m.1 (108 + d) u &&& x)).1 (108 + d) a) t = _
            rw [wi_e]
            by_cases e : a = u
            · subst e
              rw [if_pos ⟨rfl, rfl⟩, b_and, hcur t, hb]
              simp
            · rw [if_neg (by omega), g2 a ha t]
              have : decide (a < u + 1) = decide (a < u) := by
                by_cases h : a < u
                · have h' : a < u + 1 := by omega
                  simp [h, h']
                · have h' : ¬ a < u + 1 := by omega
                  simp [h, h']
              rw [this]
          · show true = true ↔ _
            rw [ex_s]
            exact ⟨fun _ => Or.inr ⟨hb, h0⟩, fun _ => rfl⟩
  · intro f s x hs hx ih
    show wp (f_HomSearch_narrowNeighbors_L5_b f_HomSearch_narrowNeighbors_J39 (f_HomSearch_narrowNeighbors_L5 f_HomSearch_narrowNeighbors_J39 f) (108 + d) (nI v) x (nI s) μ) Q
    unfold f_HomSearch_narrowNeighbors_L5_b f_HomSearch_narrowNeighbors_J33
    refine w_f (nI_ge (b := 8) hs (by omega)) ?_
    refine w_chk (by rw [hl]; exact in_N (by omega) (by omega)) ?_
    rw [cl_8 (u := v) (by omega), cl_8 (u := s) (by omega)]
    refine w_bde (e_has _ (by omega) _) ?_
    rw [hD v hv s]
    refine w_if (fun hb => ?_) (fun hb => ?_)
    · rw [bI_0] at hb
      refine w_let ?_
      rw [nI_1]
      refine ih x (fun t => ?_)
      rw [ex_s, hx t, hb]
      simp
    · rw [bI_n] at hb
      refine w_chk (in_N (by rw [show h_len 105 = 8 from rfl]; omega) (by decide)) ?_
      refine w_let ?_
      refine w_let ?_
      rw [nI_1]
      refine ih _ (fun t => ?_)
      rw [ex_s, b_or, Bool.or_eq_true, hx t, hm.2.2 s hs t, hb]
      simp
/-- all images have counterparts -/
def Cons (A : Nat → Bool) (F T dm : Nat → Nat → Bool) : Prop := ∀ v, A v = true → (∃ t, dm v t = true) ∧ ∀ u t, u < 8 → F v u = true → dm u t = true → rcH T dm v t
theorem s_narrow {μ : HMem} {A : Nat → Bool} {F T : Nat → Nat → Bool} {B : Nat → Bool} (hV : HV A F T B) (hm : HM A F T μ) {d : Nat} (hd : d < 9) {dm : Nat → Nat → Bool} (hD : DR μ (108 + d) dm) (h8 : D8 dm) {Q : Int32 → HMem → Prop} (hno : ∀ μ', Fr (108 + d) (109 + d) μ μ' → (∀ f, ¬ Sol A F T dm f) → Q (bI false) μ') (hyes : ∀ dm' μ', DR μ' (108 + d) dm' → Fr (108 + d) (109 + d) μ μ' → (∀ u t, u < 8 → dm' u t = true → dm u t = true) → (∀ f, Sol A F T dm f → Sol A F T dm' f) → Cons A F T dm' → Q (bI true) μ') : wp (f_HomSearch_narrow (108 + d) μ) Q := by
  have hl := len_d d hd
  unfold f_HomSearch_narrow
  refine w_for (fun f r (y : Bool × HMem) => wp (f_HomSearch_narrow_L4 f_HomSearch_narrow_J69 f (108 + d) (bI y.1) (nI r) y.2) Q) (fun r y => ∃ dm', DR y.2 (108 + d) dm' ∧ Fr (108 + d) (109 + d) μ y.2 ∧ (∀ u t, u < 8 → dm' u t = true → dm u t = true) ∧ (∀ f, Sol A F T dm f → Sol A F T dm' f) ∧ (y.1 = false → Cons A F T dm') ∧ (y.1 = true → tot dm' + r ≤ 64)) 65 ?_ ?_ 0 (true, μ) (by omega) (by omega) ⟨dm, hD, Fr.refl _ _ _, fun _ _ _ h => h, fun _ h => h, fun h => (by cases h), fun _ => tot_64 dm⟩
  · rintro f ⟨ch, m⟩ ⟨dm', g1, g2, g3, g4, g5, g6⟩
    show wp (f_HomSearch_narrow_L4_b f_HomSearch_narrow_J69 (f_HomSearch_narrow_L4 f_HomSearch_narrow_J69 f) (108 + d) (bI ch) (nI 65) m) Q
    unfold f_HomSearch_narrow_L4_b f_HomSearch_narrow_J69
    rw [e_J1]
    cases ch with
    | false => exact w_t rfl (w_ret (hyes dm' m g1 g2 g3 g4 (g5 rfl)))
    | true =>
      have := g6 rfl
      omega
  · rintro f r ⟨ch, m⟩ hr ⟨dm', g1, g2, g3, g4, g5, g6⟩ ih
    show wp (f_HomSearch_narrow_L4_b f_HomSearch_narrow_J69 (f_HomSearch_narrow_L4 f_HomSearch_narrow_J69 f) (108 + d) (bI ch) (nI r) m) Q
    unfold f_HomSearch_narrow_L4_b f_HomSearch_narrow_J69
    rw [e_J1]
    cases ch with
    | false => exact w_t rfl (w_ret (hyes dm' m g1 g2 g3 g4 (g5 rfl)))
    | true =>
      refine w_f (by decide) ?_
      refine w_f (nI_nlt (b := r) (a := 64) (by omega) (by omega)) ?_
      have g6 := g6 rfl
      have h8' : D8 dm' := fun v t hv ht => h8 v t hv (g3 v t hv ht)
      refine w_for (fun f2 v (y : Bool × HMem) => wp (f_HomSearch_narrow_L19 (f_HomSearch_narrow_J63 (f_HomSearch_narrow_L4 f_HomSearch_narrow_J69 f)) f2 (108 + d) (bI y.1) (nI r) (nI v) y.2) Q) (fun v y => ∃ dn, DR y.2 (108 + d) dn ∧ Fr (108 + d) (109 + d) μ y.2 ∧ (∀ u t, u < 8 → dn u t = true → dm' u t = true) ∧ (∀ f, Sol A F T dm' f → Sol A F T dn f) ∧ (y.1 = false → (∀ u t, u < 8 → dn u t = dm' u t) ∧ ∀ a, a < v → A a = true → (∃ t, dm' a t = true) ∧ ∀ u t, u < 8 → F a u = true → dm' u t = true → rcH T dm' a t) ∧ (y.1 = true → tot dn < tot dm')) 8 ?_ ?_ 0 (false, m) (by omega) (by omega) ⟨dm', g1, g2, fun _ _ _ h => h, fun _ h => h, fun _ => ⟨fun _ _ _ => rfl, fun a ha => absurd ha (Nat.not_lt_zero _)⟩, fun h => (by cases h)⟩
      · rintro f2 ⟨ch, m2⟩ ⟨dn, k1, k2, k3, k4, k5, k6⟩
        show wp (f_HomSearch_narrow_L19_b (f_HomSearch_narrow_J63 (f_HomSearch_narrow_L4 f_HomSearch_narrow_J69 f)) (f_HomSearch_narrow_L19 (f_HomSearch_narrow_J63 (f_HomSearch_narrow_L4 f_HomSearch_narrow_J69 f)) f2) (108 + d) (bI ch) (nI r) (nI 8) m2) Q
        unfold f_HomSearch_narrow_L19_b f_HomSearch_narrow_J63
        refine w_t (by decide) ?_
        refine w_let ?_
        rw [nI_1]
        refine ih (ch, m2) ⟨dn, k1, k2, fun u t hu h => g3 u t hu (k3 u t hu h), fun f h => k4 f (g4 f h), fun hch => ?_, fun hch => ?_⟩
        · obtain ⟨e1, e2⟩ := k5 hch
          intro v hv
          have hv8 := hV.1 v hv
          obtain ⟨⟨t, ht⟩, h2⟩ := e2 v hv8 hv
          refine ⟨⟨t, by rw [e1 v t hv8]; exact ht⟩, fun u t hu hF hdn => ?_⟩
          rw [e1 u t hu] at hdn
          obtain ⟨s, hs, h3, h4⟩ := h2 u t hu hF hdn
          exact ⟨s, hs, by rw [e1 v s hv8]; exact h3, h4⟩
        · have := k6 hch
          show tot dn + (r + 1) ≤ 64
          omega
      · rintro f2 v ⟨ch, m2⟩ hv ⟨dn, k1, k2, k3, k4, k5, k6⟩ ih2
        show wp (f_HomSearch_narrow_L19_b (f_HomSearch_narrow_J63 (f_HomSearch_narrow_L4 f_HomSearch_narrow_J69 f)) (f_HomSearch_narrow_L19 (f_HomSearch_narrow_J63 (f_HomSearch_narrow_L4 f_HomSearch_narrow_J69 f)) f2) (108 + d) (bI ch) (nI r) (nI v) m2) Q
        unfold f_HomSearch_narrow_L19_b f_HomSearch_narrow_J57
        have hm2 := hm.fr k2 (by omega)
        have h8n : D8 dn := fun v t hv ht => h8' v t hv (k3 v t hv ht)
        refine w_f (nI_ge (b := 8) hv (by omega)) ?_
        refine w_bde (e_has _ (by omega) _) ?_
        rw [hm2.1 v]
        refine w_if (fun hb => ?_) (fun hb => ?_)
        · rw [bI_0] at hb
          refine w_let ?_
          rw [nI_1]
          refine ih2 (ch, m2) ⟨dn, k1, k2, k3, k4, fun hch => ⟨(k5 hch).1, fun a ha hA => ?_⟩, k6⟩
          rcases Nat.lt_or_ge a v with h1 | h1
          · exact (k5 hch).2 a h1 hA
          · have : a = v := by omega
            subst this
            rw [hb] at hA; cases hA
        · rw [bI_n] at hb
          refine w_chk (by rw [hl]; exact in_N (by omega) (by omega)) ?_
          rw [cl_8 (by omega)]
          refine w_if (fun h0 => ?_) (fun h0 => ?_)
          · have hne : ∃ t, dn v t = true := by
              refine Classical.byContradiction (fun hc => h0 (b_eq0.mpr (fun t _ => ?_)))
              rw [k1 v hv t]
              cases h1 : dn v t with
              | false => rfl
              | true => exact absurd ⟨t, h1⟩ hc
            refine w_bdk (s_nn hm2 hd k1 h8n hv (fun c2 dq m3 q1 q2 q3 q4 q5 => ?_))
            refine w_let ?_
            refine w_let ?_
            rw [nI_1, bI_or]
            have hsub : ∀ u t, u < 8 → dq u t = true → dn u t = true := fun u t hu h => ((q3 u t hu).mp h).1
            refine ih2 (ch || c2, m3) ⟨dq, q1, k2.trans q2 (by omega) (by omega) (by omega) (by omega), fun u t hu h => k3 u t hu (hsub u t hu h), fun f hf => ?_, fun hch => ?_, fun hch => ?_⟩
            · obtain ⟨s1, s2⟩ := k4 f hf
              refine ⟨fun u hu => (q3 u (f u) (hV.1 u hu)).mpr ⟨s1 u hu, fun hF => ⟨f v, h8n v (f v) hv (s1 v hb), s1 v hb, s2 v u hb hF⟩⟩, s2⟩
            · have hch' : (ch || c2) = false := hch
              rw [Bool.or_eq_false_iff] at hch'
              obtain ⟨e1, e2⟩ := k5 hch'.1
              have e3 : ∀ u t, u < 8 → dq u t = dn u t := fun u t hu => by
                cases h1 : dn u t with
                | false =>
                  cases h2 : dq u t with
                  | false => rfl
                  | true => rw [hsub u t hu h2] at h1; cases h1
                | true => exact (q3 u t hu).mpr ⟨h1, fun hF => q4 hch'.2 u t hu hF h1⟩
              refine ⟨fun u t hu => (e3 u t hu).trans (e1 u t hu), fun a ha hA => ?_⟩
              rcases Nat.lt_or_ge a v with h1 | h1
              · exact e2 a h1 hA
              · have : a = v := by omega
                subst this
                obtain ⟨t0, ht0⟩ := hne
                refine ⟨⟨t0, by rw [← e1 a t0 hv]; exact ht0⟩, fun u t hu hF hdt => ?_⟩
                rw [← e1 u t hu] at hdt
                obtain ⟨s, hs, h3, h4⟩ := q4 hch'.2 u t hu hF hdt
                exact ⟨s, hs, by rw [← e1 a s hv]; exact h3, h4⟩
            · have hch' : (ch || c2) = true := hch
              have hle : tot dq ≤ tot dn := tot_le hsub
              have hle2 : tot dn ≤ tot dm' := tot_le k3
              rw [Bool.or_eq_true] at hch'
              rcases hch' with h1 | h1
              · have := k6 h1; omega
              · have := tot_lt hsub (q5 h1); omega
          · have h0 := Classical.not_not.mp h0
            rw [e_J0]
            refine w_ret (hno m2 k2 (fun f hf => ?_))
            have := (k4 f (g4 f hf)).1 v hb
            rw [← k1 v hv, h0, b_0] at this
            cases this
theorem s_openSource {μ : HMem} {A : Nat → Bool} {F T : Nat → Nat → Bool} {B : Nat → Bool} (hV : HV A F T B) (hm : HM A F T μ) {d : Nat} (hd : d < 9) {dm : Nat → Nat → Bool} (hD : DR μ (108 + d) dm) (h8 : D8 dm) {Q : Int32 → HMem → Prop} (hno : (∀ v, A v = true → cn (dm v) 8 ≤ 1) → Q (-1) μ) (hyes : ∀ v, A v = true → 1 < cn (dm v) 8 → Q (nI v) μ) : wp (f_HomSearch_openSource (108 + d) μ) Q := by
  have hl := len_d d hd
  unfold f_HomSearch_openSource
  refine w_for (fun f v (y : Int32 × Int32) => wp (f_HomSearch_openSource_L8 f (108 + d) y.1 y.2 (nI v) μ) Q) (fun v y => (y.1 = -1 ∧ y.2 = nI 81 ∧ ∀ a, a < v → A a = true → cn (dm a) 8 ≤ 1) ∨ (∃ b, y.1 = nI b ∧ A b = true ∧ 1 < cn (dm b) 8)) 8 ?_ ?_ 0 (-1, 81) (by omega) (by omega) (Or.inl ⟨rfl, rfl, fun a ha => absurd ha (Nat.not_lt_zero _)⟩)
  · rintro f ⟨x, y⟩ hI
    show wp (f_HomSearch_openSource_L8_b (f_HomSearch_openSource_L8 f) (108 + d) x y (nI 8) μ) Q
    unfold f_HomSearch_openSource_L8_b
    refine w_t (by decide) ?_
    rcases hI with ⟨rfl, _, h1⟩ | ⟨b, rfl, h1, h2⟩
    · exact w_ret (hno (fun v hv => h1 v (hV.1 v hv) hv))
    · exact w_ret (hyes b h1 h2)
  · rintro f v ⟨x, y⟩ hv hI ih
    show wp (f_HomSearch_openSource_L8_b (f_HomSearch_openSource_L8 f) (108 + d) x y (nI v) μ) Q
    unfold f_HomSearch_openSource_L8_b f_HomSearch_openSource_J72
    have hF8 : S8 (μ.1 104 v) := fun i hi => by
      rw [hm.2.1 v hv i]
      cases hb : F v i with
      | false => rfl
      | true => have := hV.2.2.1 v i hb; omega
    refine w_f (nI_ge (b := 8) hv (by omega)) ?_
    refine w_chk (by rw [hl]; exact in_N (by omega) (by omega)) ?_
    rw [cl_8 (by omega)]
    refine w_bde (f_bitCount (hD.s8 h8 hv) _) ?_
    have e1 : cn (bt (μ.1 (108 + d) v)) 8 = cn (dm v) 8 := cn_ext (fun t _ => hD v hv t)
    rw [e1]
    refine w_chk (in_N (by rw [show h_len 104 = 8 from rfl]; omega) (by decide)) ?_
    refine w_bde (f_bitCount hF8 _) ?_
    refine w_let ?_
    refine w_bde (e_has _ (by omega) _) ?_
    rw [hm.1 v]
    have hc8 := cn_le (dm v) 8
    have hc9 := cn_le (bt (μ.1 104 v)) 8
    have same : (A v = true → cn (dm v) 8 ≤ 1) → wp (h_let (nI v + 1) (fun v4_72 => f_HomSearch_openSource_L8 f (108 + d) x y v4_72 μ)) Q := by
      intro hs
      refine w_let ?_
      rw [nI_1]
      refine ih (x, y) ?_
      rcases hI with ⟨h1, h2, h3⟩ | h1
      · refine Or.inl ⟨h1, h2, fun a ha hA => ?_⟩
        rcases Nat.lt_or_ge a v with h4 | h4
        · exact h3 a h4 hA
        · have : a = v := by omega
          subst this
          exact hs hA
      · exact Or.inr h1
    refine w_if (fun hb => ?_) (fun hb => ?_)
    · rw [bI_0] at hb
      exact same (fun h => by rw [hb] at h; cases h)
    · rw [bI_n] at hb
      refine w_if (fun h0 => ?_) (fun h0 => ?_)
      · have h0 := (nI_leI (b := 1) (by omega) (by omega)).mp h0
        exact same (fun _ => h0)
      · have h0 : 1 < cn (dm v) 8 := Nat.lt_of_not_le (fun h => h0 (nI_le (b := 1) h (by omega)))
        refine w_if (fun h1 => ?_) (fun h1 => ?_)
        · refine w_let ?_
          rw [nI_1]
          refine ih (x, y) ?_
          rcases hI with ⟨e1, e2, _⟩ | h2
          · have e2 : y = nI 81 := e2
            rw [e2] at h1
            exfalso
            have e9 : (9 : Int32) * nI (cn (dm v) 8) - nI (cn (bt (μ.1 104 v)) 8) = nI (9 * cn (dm v) 8) - nI (cn (bt (μ.1 104 v)) 8) := by
              rw [show (9 : Int32) = nI 9 from rfl, pk_mul]
            rw [e9, pk_sub (by omega)] at h1
            have := (nI_leI (by omega) (by omega)).mp h1
            omega
          · exact Or.inr h2
        · refine w_let ?_
          rw [nI_1]
          exact ih (nI v, _) (Or.inr ⟨v, rfl, hb, h0⟩)
