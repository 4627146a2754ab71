/-! 99: count, the class: the tree of separators -/
def TR (X : HG) (e c : Nat → Int32) : Nat → (Nat → Bool) → (Nat → Bool) → (Nat → Bool) → Prop
  | 0, R, S, _ => ∀ v, S v = false ∧ R v = false
  | d + 1, R, S, A => (∀ v, (S v && A v) = false) ∧ ∃ C : Nat → Nat → Bool, (∀ r, R r = true → C r r = true ∧ (∀ u, bt (e r) u = (nr X r u && aO A r u)) ∧ (∀ v, C r v = true → S v = true) ∧ TR X e c d (bt (c r)) (ko (C r) r) (aO A r)) ∧ (∀ v, S v = true → ∃ r, R r = true ∧ C r v = true) ∧ (∀ r r', R r = true → R r' = true → ¬ r = r' → ∀ v, (C r v && C r' v) = false) ∧ ∀ r r', R r = true → R r' = true → ¬ r = r' → ∀ v u, (nr X v u && (C r v && C r' u)) = false
def TRU (X : HG) (e c : Nat → Int32) (D : Nat) (R S A : Nat → Bool) (C : Nat → Nat → Bool) : Prop := (∀ v, (S v && A v) = false) ∧ (∀ r, R r = true → ∃ d, D = d + 1 ∧ C r r = true ∧ (∀ u, bt (e r) u = (nr X r u && aO A r u)) ∧ (∀ v, C r v = true → S v = true) ∧ TR X e c d (bt (c r)) (ko (C r) r) (aO A r)) ∧ (∀ v, S v = true → ∃ r, R r = true ∧ C r v = true) ∧ (∀ r r', R r = true → R r' = true → ¬ r = r' → ∀ v, (C r v && C r' v) = false) ∧ ∀ r r', R r = true → R r' = true → ¬ r = r' → ∀ v u, (nr X v u && (C r v && C r' u)) = false
theorem TR_un {X : HG} {e c : Nat → Int32} {D : Nat} {R S A : Nat → Bool} (h : TR X e c D R S A) : ∃ C, TRU X e c D R S A C := by
  cases D with
  | zero =>
    refine ⟨fun _ _ => false, fun v => by rw [(h v).1]; rfl, fun r hr => ?_, fun v hv => ?_, fun _ _ _ _ _ _ => rfl, fun r r' hr => ?_⟩
    · rw [(h r).2] at hr; cases hr
    · rw [(h v).1] at hv; cases hv
    · rw [(h r).2] at hr; cases hr
  | succ d =>
    obtain ⟨h1, C, h2, h3, h4, h5⟩ := h
    exact ⟨C, h1, fun r hr => ⟨d, rfl, h2 r hr⟩, h3, h4, h5⟩
theorem TR_mk {X : HG} {e c : Nat → Int32} {D : Nat} {R S A : Nat → Bool} {C : Nat → Nat → Bool} (h : TRU X e c D R S A C) : TR X e c D R S A := by
  obtain ⟨h1, h2, h3, h4, h5⟩ := h
  cases D with
  | zero =>
    have hR : ∀ v, R v = false := fun v => by
      cases hv : R v with
      | false => rfl
      | true => obtain ⟨d, hd, _⟩ := h2 v hv; omega
    intro v
    refine ⟨?_, hR v⟩
    cases hv : S v with
    | false => rfl
    | true => obtain ⟨r, hr, _⟩ := h3 v hv; rw [hR r] at hr; cases hr
  | succ d =>
    refine ⟨h1, C, fun r hr => ?_, h3, h4, h5⟩
    obtain ⟨d', hd, h6⟩ := h2 r hr
    have : d' = d := by omega
    rw [this] at h6
    exact h6
theorem TR_cg {X : HG} {e c e' c' : Nat → Int32} : ∀ {D : Nat} {R S A : Nat → Bool}, (∀ v, S v = true → e v = e' v ∧ c v = c' v) → TR X e c D R S A → TR X e' c' D R S A
  | 0, _, _, _, _, h => h
  | d + 1, R, S, A, hs, ⟨h1, C, h2, h3, h4, h5⟩ => by
    refine ⟨h1, C, fun r hr => ?_, h3, h4, h5⟩
    obtain ⟨k1, k2, k3, k4⟩ := h2 r hr
    obtain ⟨q1, q2⟩ := hs r (k3 r k1)
    refine ⟨k1, by rw [← q1]; exact k2, k3, ?_⟩
    rw [← q2]
    exact TR_cg (fun v hv => hs v (k3 v (ko_t.mp hv).1)) k4
def unB (R : Nat → Bool) (C : Nat → Nat → Bool) (i v : Nat) : Bool := decide (∃ r, r < i ∧ R r = true ∧ C r v = true)
theorem unB_t {R : Nat → Bool} {C : Nat → Nat → Bool} {i v : Nat} : unB R C i v = true ↔ ∃ r, r < i ∧ R r = true ∧ C r v = true := decide_eq_true_iff
theorem bff {b : Bool} (h : b = true → False) : b = false := by
  cases b with
  | false => rfl
  | true => exact absurd rfl h
theorem and_f {a b : Bool} : (a && b) = false ↔ (a = true → b = true → False) := by
  cases a <;> cases b <;> simp
theorem TR_prod {X : HG} {M : Nat} {w : Nat → Int64} {g : Nat → Nat → Int64} (hX : GV X) {R S A : Nat → Bool} {C : Nat → Nat → Bool} {a : Nat → Nat} (hS : ∀ v, S v = true → v < X.1) (hA : ∀ v, (S v && A v) = false) (hC : ∀ r, R r = true → C r r = true ∧ ∀ v, C r v = true → S v = true) (h3 : ∀ v, S v = true → ∃ r, R r = true ∧ C r v = true) (h4 : ∀ r r', R r = true → R r' = true → ¬ r = r' → ∀ v, (C r v && C r' v) = false) (h5 : ∀ r r', R r = true → R r' = true → ¬ r = r' → ∀ v u, (nr X v u && (C r v && C r' u)) = false) : pL (fun v => if R v = true then TT X.1 M (nr X) w g (C v) A a else 1) X.1 = TT X.1 M (nr X) w g S A a := by
  have hs : ∀ v u, nr X v u = nr X u v := fun v u => bqi (by
    rw [nr_t, nr_t]
    constructor
    · rintro ⟨k1, k2, k3⟩; exact ⟨k2, k1, by rw [← (hX.2.2 v u k1 k2).1]; exact k3⟩
    · rintro ⟨k1, k2, k3⟩; exact ⟨k2, k1, by rw [← (hX.2.2 u v k1 k2).1]; exact k3⟩)
  have key : ∀ i, i ≤ X.1 → pL (fun v => if R v = true then TT X.1 M (nr X) w g (C v) A a else 1) i = TT X.1 M (nr X) w g (unB R C i) A a := by
    intro i
    induction i with
    | zero =>
      intro _
      rw [TT_none (fun v _ => bff (fun h => by obtain ⟨r, hr, _⟩ := unB_t.mp h; omega))]
      rfl
    | succ i ih =>
      intro hi
      show pL _ i * (if R i = true then TT X.1 M (nr X) w g (C i) A a else 1) = _
      rw [ih (by omega)]
      by_cases hr : R i = true
      · rw [if_pos hr]
        refine (TT_mul hs (fun v => bqi ?_) (fun v => ?_) (fun v => ?_) (fun v u => ?_)).symm
        · rw [Bool.or_eq_true, unB_t, unB_t]
          constructor
          · rintro ⟨r, k1, k2, k3⟩
            rcases Nat.lt_or_ge r i with k | k
            · exact Or.inl ⟨r, k, k2, k3⟩
            · have : r = i := by omega
              rw [this] at k3
              exact Or.inr k3
          · rintro (⟨r, k1, k2, k3⟩ | k)
            · exact ⟨r, by omega, k2, k3⟩
            · exact ⟨i, by omega, hr, k⟩
        · rw [and_f]
          intro k1 k2
          obtain ⟨r, q1, q2, q3⟩ := unB_t.mp k1
          exact and_f.mp (h4 r i q2 hr (by omega) v) q3 k2
        · rw [and_f]
          intro k1 k2
          rw [Bool.or_eq_true] at k1
          have : S v = true := by
            rcases k1 with k1 | k1
            · obtain ⟨r, q1, q2, q3⟩ := unB_t.mp k1
              exact (hC r q2).2 v q3
            · exact (hC i hr).2 v k1
          exact and_f.mp (hA v) this k2
        · rw [and_f]
          intro k1 k2
          rw [Bool.and_eq_true] at k2
          obtain ⟨r, q1, q2, q3⟩ := unB_t.mp k2.1
          exact and_f.mp (h5 r i q2 hr (by omega) v u) k1 (by rw [q3, k2.2]; rfl)
      · rw [if_neg hr, Int64.mul_one]
        have : unB R C i = unB R C (i + 1) := funext (fun v => bqi (by
          rw [unB_t, unB_t]
          constructor
          · rintro ⟨r, k1, k2, k3⟩
            exact ⟨r, by omega, k2, k3⟩
          · rintro ⟨r, k1, k2, k3⟩
            rcases Nat.lt_or_ge r i with k | k
            · exact ⟨r, k, k2, k3⟩
            · have : r = i := by omega
              rw [this] at k2
              exact absurd k2 hr))
        rw [this]
  rw [key X.1 (Nat.le_refl _)]
  have : unB R C X.1 = S := funext (fun v => bqi (by
    rw [unB_t]
    constructor
    · rintro ⟨r, k1, k2, k3⟩
      exact (hC r k2).2 v k3
    · intro h
      obtain ⟨r, k1, k2⟩ := h3 v h
      exact ⟨r, hS r ((hC r k1).2 r (hC r k1).1), k1, k2⟩))
  rw [this]
theorem mmax_k : ∀ a, a < 9 → ∀ b, b < 9 → h_mmax (nI a) (nI b) = nI (max a b) := by decide +kernel
theorem s_largest {μ : HMem} {g : Nat} {X : HG} (hg : IsG g) (hc : CG μ g X) (hn : X.1 ≤ 8) (set : Int32) {Q : Int32 → HMem → Prop} (hQ : ∀ c, c < 9 → Q (nI c) μ) : wp (f_MapSums_largestPart g set μ) Q := by
  unfold f_MapSums_largestPart
  have e0 : ∀ z z', z = nI 0 → z' = nI 0 → wp (f_MapSums_largestPart_L4 h_fuel g set z z' μ) Q := ?_
  · exact e0 0 0 rfl rfl
  rintro z z' rfl rfl
  refine w_for (fun f i (c : Nat) => wp (f_MapSums_largestPart_L4 f g set (nI c) (nI i) μ) Q) (fun i c => c < 9) X.1 ?_ ?_ 0 0 (Nat.zero_le _) (by omega) (by omega)
  · intro f c hcc
    show wp (f_MapSums_largestPart_L4_b _ _ _ _ _ _) Q
    unfold f_MapSums_largestPart_L4_b
    rw [hc.1]
    exact w_t (nI_le (Nat.le_refl _) (by omega)) (w_ret (hQ c hcc))
  · intro f i c hi hcc ih
    show wp (f_MapSums_largestPart_L4_b _ _ _ _ _ _) Q
    unfold f_MapSums_largestPart_L4_b f_MapSums_largestPart_J34
    rw [hc.1]
    refine w_f (nI_ge hi (by omega)) ?_
    rw [e_has _ (by omega), bd_some]
    refine w_if (fun _ => ?_) (fun _ => ?_)
    · refine w_let ?_
      rw [nI_1]
      exact ih c hcc
    · refine w_bdk (s_reached hg hc hn hi set (fun r hr => ?_))
      rw [f_bitCount (fun v hv => bff (fun h => by have := Rc.lt ((hr v).mp h) hi; omega)), bd_some, mmax_k c hcc _ (by have := cn_le (bt r) 8; omega)]
      refine w_let (w_let ?_)
      rw [nI_1]
      exact ih _ (by have := cn_le (bt r) 8; omega)
theorem le9_k : ∀ a, a < 9 → ¬ (9 : Int32) ≤ nI a := by decide +kernel
theorem s_bestSep {μ : HMem} {g : Nat} {X : HG} (hg : IsG g) (hc : CG μ g X) (hn : X.1 ≤ 8) {part : Int32} (hp : ∃ v, v < X.1 ∧ bt part v = true) {Q : Int32 → HMem → Prop} (hQ : ∀ r, r < X.1 → bt part r = true → Q (nI r) μ) : wp (f_MapSums_bestSeparator g part μ) Q := by
  unfold f_MapSums_bestSeparator
  have e0 : ∀ z, z = nI 0 → wp (f_MapSums_bestSeparator_L8 h_fuel g part 0 9 z μ) Q := ?_
  · exact e0 0 rfl
  rintro z rfl
  refine w_for (fun f i (s : Int32 × Int32) => wp (f_MapSums_bestSeparator_L8 f g part s.1 s.2 (nI i) μ) Q) (fun i s => (s.2 = 9 ∧ ∀ u, u < i → bt part u = false) ∨ ∃ r, r < X.1 ∧ bt part r = true ∧ s.1 = nI r) X.1 ?_ ?_ 0 (0, 9) (Nat.zero_le _) (by omega) (Or.inl ⟨rfl, fun u h => absurd h (Nat.not_lt_zero _)⟩)
  · intro f s hs
    show wp (f_MapSums_bestSeparator_L8_b _ _ _ _ _ _ _) Q
    unfold f_MapSums_bestSeparator_L8_b
    rw [hc.1]
    refine w_t (nI_le (Nat.le_refl _) (by omega)) (w_ret ?_)
    rcases hs with ⟨_, h⟩ | ⟨r, h1, h2, h3⟩
    · obtain ⟨v, h1, h2⟩ := hp
      rw [h v h1] at h2
      cases h2
    · rw [h3]; exact hQ r h1 h2
  · intro f i s hi hs ih
    show wp (f_MapSums_bestSeparator_L8_b _ _ _ _ _ _ _) Q
    unfold f_MapSums_bestSeparator_L8_b f_MapSums_bestSeparator_J52
    rw [hc.1]
    refine w_f (nI_ge hi (by omega)) ?_
    rw [e_has _ (by omega), bd_some]
    refine w_if (fun h0 => ?_) (fun h0 => ?_)
    · rw [bI_0] at h0
      refine w_let ?_
      rw [nI_1]
      refine ih s ?_
      rcases hs with ⟨h1, h⟩ | h
      · refine Or.inl ⟨h1, fun u hu => ?_⟩
        rcases Nat.lt_or_ge u i with h2 | h2
        · exact h u h2
        · have : u = i := by omega
          rw [this]; exact h0
      · exact Or.inr h
    · rw [bI_n] at h0
      refine w_bdk (s_largest hg hc hn _ (fun c hcc => ?_))
      refine w_if (fun h1 => ?_) (fun h1 => ?_)
      · refine w_let ?_
        rw [nI_1]
        refine ih s ?_
        rcases hs with ⟨h2, h⟩ | h
        · rw [h2] at h1
          exact absurd h1 (le9_k c hcc)
        · exact Or.inr h
      · refine w_let ?_
        rw [nI_1]
        exact ih (nI i, nI c) (Or.inr ⟨i, hi, h0, rfl⟩)
abbrev SP : Type := Int32 × Int32 × HMem
theorem nr_sym {X : HG} (hX : GV X) (v u : Nat) : nr X v u = nr X u v := bqi (by
  rw [nr_t, nr_t]
  constructor
  · rintro ⟨k1, k2, k3⟩; exact ⟨k2, k1, by rw [← (hX.2.2 v u k1 k2).1]; exact k3⟩
  · rintro ⟨k1, k2, k3⟩; exact ⟨k2, k1, by rw [← (hX.2.2 u v k1 k2).1]; exact k3⟩)
theorem s_split {g : Nat} {X : HG} (hg : IsG g) (hX : GV X) : ∀ (rd D depth : Nat) (set above : Int32) (μ : HMem), D < rd → D + depth ≤ 8 → cn (bt set) 8 ≤ D → (∀ v, bt set v = true → v < X.1) → (∀ v, (bt set v && bt above v) = false) → CG μ g X → ∀ Q : Int32 → HMem → Prop, (∀ r μ', TR X (μ'.1 100) (μ'.1 101) D (bt r) (bt set) (bt above) → (∀ v, bt set v = false → μ'.1 100 v = μ.1 100 v ∧ μ'.1 101 v = μ.1 101 v) → Fr 100 102 μ μ' → Q r μ') → wp (f_MapSums_split rd g set above (nI depth) μ) Q
  | 0, D, _, _, _, _, hD, _, _, _, _, _, _, _ => absurd hD (by omega)
  | rd + 1, D, depth, set, above, μ, hD, hdp, hcn, hlt, hdj, hc, Q, hQ => by
    have hn := hX.1
    have g84 := hg.2
    show wp (f_MapSums_split_0 (f_MapSums_split rd) g set above (nI depth) μ) Q
    unfold f_MapSums_split_0
    refine w_t (nI_le (b := 8) (by omega) (by omega)) ?_
    have e0 : ∀ z, z = nI 0 → wp (f_MapSums_split_L18 (f_MapSums_split rd) h_fuel g above (nI depth) 0 set z μ) Q := ?_
    · exact e0 0 rfl
    rintro z rfl
    refine w_for (fun f i (s : SP) => wp (f_MapSums_split_L18 (f_MapSums_split rd) f g above (nI depth) s.1 s.2.1 (nI i) s.2.2) Q) (fun i s => ∃ C : Nat → Nat → Bool, (∀ r, bt s.1 r = true → ∃ d, D = d + 1 ∧ C r r = true ∧ (∀ u, bt (s.2.2.1 100 r) u = (nr X r u && aO (bt above) r u)) ∧ (∀ v, C r v = true → bt set v = true ∧ bt s.2.1 v = false) ∧ TR X (s.2.2.1 100) (s.2.2.1 101) d (bt (s.2.2.1 101 r)) (ko (C r) r) (aO (bt above) r)) ∧ (∀ v, bt set v = true → bt s.2.1 v = false → ∃ r, bt s.1 r = true ∧ C r v = true) ∧ (∀ r r', bt s.1 r = true → bt s.1 r' = true → ¬ r = r' → ∀ v, (C r v && C r' v) = false) ∧ (∀ r r', bt s.1 r = true → bt s.1 r' = true → ¬ r = r' → ∀ v u, (nr X v u && (C r v && C r' u)) = false) ∧ (∀ r, bt s.1 r = true → ∀ v u, C r v = true → bt s.2.1 u = true → nr X v u = false) ∧ (∀ v, bt s.2.1 v = true → bt set v = true) ∧ (∀ u, u < i → bt s.2.1 u = false) ∧ Fr 100 102 μ s.2.2 ∧ ∀ v, bt set v = false → s.2.2.1 100 v = μ.1 100 v ∧ s.2.2.1 101 v = μ.1 101 v) X.1 ?_ ?_ 0 (0, set, μ) (Nat.zero_le _) (by omega) ⟨fun _ _ => false, fun r hr => (by rw [b_0] at hr; cases hr), fun v h1 h2 => (by replace h2 : bt set v = false := h2; rw [h1] at h2; cases h2), fun r r' hr => (by rw [b_0] at hr; cases hr), fun r r' hr => (by rw [b_0] at hr; cases hr), fun r hr => (by rw [b_0] at hr; cases hr), fun v h => h, fun u h => absurd h (Nat.not_lt_zero _), Fr.refl _ _ _, fun _ _ => ⟨rfl, rfl⟩⟩
    · rintro f ⟨R, L, m⟩ ⟨C, iA, iB, iC, iD, iE, iF, iG, iH, iI⟩
      replace iA : ∀ r, bt R r = true → ∃ d, D = d + 1 ∧ C r r = true ∧ (∀ u, bt (m.1 100 r) u = (nr X r u && aO (bt above) r u)) ∧ (∀ v, C r v = true → bt set v = true ∧ bt L v = false) ∧ TR X (m.1 100) (m.1 101) d (bt (m.1 101 r)) (ko (C r) r) (aO (bt above) r) := iA
      replace iB : ∀ v, bt set v = true → bt L v = false → ∃ r, bt R r = true ∧ C r v = true := iB
      replace iF : ∀ v, bt L v = true → bt set v = true := iF
      replace iG : ∀ u, u < X.1 → bt L u = false := iG
      show wp (f_MapSums_split_L18_b _ _ _ _ _ _ _ _ _) Q
      unfold f_MapSums_split_L18_b
      have hcg : CG m g X := hc.fr iH (by omega)
      rw [hcg.1]
      refine w_t (nI_le (Nat.le_refl _) (by omega)) (w_ret (hQ R m (TR_mk (C := C) ⟨hdj, fun r hr => ?_, fun v hv => iB v hv (iG v (hlt v hv)), iC, iD⟩) iI iH))
      obtain ⟨d, k1, k2, k3, k4, k5⟩ := iA r hr
      exact ⟨d, k1, k2, k3, fun v hv => (k4 v hv).1, k5⟩
    · rintro f i ⟨R, L, m⟩ hi ⟨C, iA, iB, iC, iD, iE, iF, iG, iH, iI⟩ ih
      replace iA : ∀ r, bt R r = true → ∃ d, D = d + 1 ∧ C r r = true ∧ (∀ u, bt (m.1 100 r) u = (nr X r u && aO (bt above) r u)) ∧ (∀ v, C r v = true → bt set v = true ∧ bt L v = false) ∧ TR X (m.1 100) (m.1 101) d (bt (m.1 101 r)) (ko (C r) r) (aO (bt above) r) := iA
      replace iB : ∀ v, bt set v = true → bt L v = false → ∃ r, bt R r = true ∧ C r v = true := iB
      replace iC : ∀ r r', bt R r = true → bt R r' = true → ¬ r = r' → ∀ v, (C r v && C r' v) = false := iC
      replace iD : ∀ r r', bt R r = true → bt R r' = true → ¬ r = r' → ∀ v u, (nr X v u && (C r v && C r' u)) = false := iD
      replace iE : ∀ r, bt R r = true → ∀ v u, C r v = true → bt L u = true → nr X v u = false := iE
      replace iF : ∀ v, bt L v = true → bt set v = true := iF
      replace iG : ∀ u, u < i → bt L u = false := iG
      replace iH : Fr 100 102 μ m := iH
      replace iI : ∀ v, bt set v = false → m.1 100 v = μ.1 100 v ∧ m.1 101 v = μ.1 101 v := iI
      have hcg : CG m g X := hc.fr iH (by omega)
      show wp (f_MapSums_split_L18_b (f_MapSums_split rd) (f_MapSums_split_L18 (f_MapSums_split rd) f) g above (nI depth) R L (nI i) m) Q
      unfold f_MapSums_split_L18_b f_MapSums_split_J129
      rw [hcg.1]
      refine w_f (nI_ge hi (by omega)) ?_
      rw [e_has _ (by omega), bd_some]
      refine w_if (fun h0 => ?_) (fun h0 => ?_)
      · rw [bI_0] at h0
        refine w_let ?_
        rw [nI_1]
        refine ih (R, L, m) ⟨C, iA, iB, iC, iD, iE, iF, fun u hu => ?_, iH, iI⟩
        rcases Nat.lt_or_ge u i with h2 | h2
        · exact iG u h2
        · have : u = i := by omega
          rw [this]; exact h0
      · rw [bI_n] at h0
        obtain ⟨d, rfl⟩ : ∃ d, D = d + 1 := by
          cases D with
          | zero =>
            have := cn_of0 (Nat.eq_zero_of_le_zero hcn) i (by omega)
            rw [iF i h0] at this
            cases this
          | succ d => exact ⟨d, rfl⟩
        refine w_bdk (s_reached hg hcg hn hi L (fun part hpart => ?_))
        have hpi : bt part i = true := (hpart i).mpr Rc.base
        have hpl : ∀ v, bt part v = true → bt L v = true := fun v hv => by
          rcases Rc.or ((hpart v).mp hv) with e | e
          · rw [e]; exact h0
          · exact e
        have hpn : ∀ v, bt part v = true → v < X.1 := fun v hv => Rc.lt ((hpart v).mp hv) hi
        have hcl : ∀ v u, bt part v = true → bt L u = true → nr X v u = true → bt part u = true := fun v u h1 h2 h3 => by
          obtain ⟨q1, q2, q3⟩ := nr_t.mp h3
          exact (hpart u).mpr (Rc.step ((hpart v).mp h1) q1 q2 q3 h2)
        refine w_bdk (s_bestSep hg hcg hn ⟨i, hi, hpi⟩ (fun r hr hpr => ?_))
        refine w_let ?_
        refine w_chk (in_8 (by omega) (len_3 hg)) ?_
        refine w_chk (in_N (by rw [show h_len 100 = 8 from rfl]; omega) (by decide)) (w_let ?_)
        rw [cl_8 (by omega), nI_1]
        have brest : ∀ u, bt (part &&& (h_ishl 1 (nI r) ^^^ -1)) u = ko (bt part) r u := fun u => by rw [b_not, b_one (by omega)]; rfl
        have bab : ∀ u, bt (above ||| h_ishl 1 (nI r)) u = aO (bt above) r u := fun u => by rw [b_or, b_one (by omega)]; rfl
        have e100 : ∀ u, bt (m.1 (g + 3) r &&& (above ||| h_ishl 1 (nI r))) u = (nr X r u && aO (bt above) r u) := fun u => by rw [b_and, nr_b hcg (by omega), bab]
        have f1 : Fr 100 101 m (h_wi m 100 r (m.1 (g + 3) r &&& (above ||| h_ishl 1 (nI r)))) := Fr.wi (by omega) (by omega)
        have n1 : ∀ v, ¬ v = r → (h_wi m 100 r (m.1 (g + 3) r &&& (above ||| h_ishl 1 (nI r)))).1 100 v = m.1 100 v := fun v hv => wi_n _ _ (Or.inr hv)
        have r1 : ∀ u, bt ((h_wi m 100 r (m.1 (g + 3) r &&& (above ||| h_ishl 1 (nI r)))).1 100 r) u = (nr X r u && aO (bt above) r u) := fun u => by rw [wi_s]; exact e100 u
        generalize h_wi m 100 r (m.1 (g + 3) r &&& (above ||| h_ishl 1 (nI r))) = m1 at f1 n1 r1
        have Lr := hpl r hpr
        have Sr := iF r Lr
        have hAr : bt above r = false := by have := hdj r; rw [Sr] at this; simpa using this
        have hcnp : cn (bt part) 8 ≤ d + 1 := Nat.le_trans (cn_mono (fun v _ hv => iF v (hpl v hv))) hcn
        have hcnr : cn (bt (part &&& (h_ishl 1 (nI r) ^^^ -1))) 8 ≤ d := by
          rw [cn_ext (q := fun v => bt part v && !decide (v = r)) (fun v _ => brest v)]
          have := cn_drop hpr 8 (by omega)
          omega
        refine w_bdk (s_split hg hX rd d (depth + 1) _ _ m1 (by omega) (by omega) hcnr (fun v hv => ?_) (fun v => ?_) (hcg.fr f1 (by omega)) _ (fun ch m2 t1 t2 t3 => ?_))
        · rw [brest] at hv; exact hpn v (ko_t.mp hv).1
        · rw [brest, bab, and_f]
          intro q1 q2
          obtain ⟨q3, q4⟩ := ko_t.mp q1
          unfold aO at q2
          rw [decide_eq_false q4, Bool.or_false] at q2
          exact and_f.mp (hdj v) (iF v (hpl v q3)) q2
        · have t1 : TR X (m2.1 100) (m2.1 101) d (bt ch) (ko (bt part) r) (aO (bt above) r) := by
            have e1 : bt (part &&& (h_ishl 1 (nI r) ^^^ -1)) = ko (bt part) r := funext brest
            have e2 : bt (above ||| h_ishl 1 (nI r)) = aO (bt above) r := funext bab
            rw [e1, e2] at t1
            exact t1
          have t2 : ∀ v, ko (bt part) r v = false → m2.1 100 v = m1.1 100 v ∧ m2.1 101 v = m1.1 101 v := fun v hv => t2 v (by rw [brest]; exact hv)
          refine w_chk (in_N (by rw [show h_len 101 = 8 from rfl]; omega) (by decide)) (w_let (w_let (w_let (w_let ?_))))
          rw [nI_1]
          have hkr : ko (bt part) r r = false := bff (fun h => (ko_t.mp h).2 rfl)
          have f3 : Fr 101 102 m2 (h_wi m2 101 r ch) := Fr.wi (by omega) (by omega)
          have n3 : ∀ v, ¬ v = r → (h_wi m2 101 r ch).1 101 v = m2.1 101 v := fun v hv => wi_n _ _ (Or.inr hv)
          have c3 : (h_wi m2 101 r ch).1 101 r = ch := wi_s _ _ _ _
          generalize h_wi m2 101 r ch = m3 at f3 n3 c3
          have s100 : ∀ v, bt part v = false → m3.1 100 v = m.1 100 v := fun v hv => by
            have hvr : ¬ v = r := fun e => by rw [e, hpr] at hv; cases hv
            rw [f3.i (by omega), (t2 v (bff (fun h => by rw [(ko_t.mp h).1] at hv; cases hv))).1, n1 v hvr]
          have s101 : ∀ v, bt part v = false → m3.1 101 v = m.1 101 v := fun v hv => by
            have hvr : ¬ v = r := fun e => by rw [e, hpr] at hv; cases hv
            rw [n3 v hvr, (t2 v (bff (fun h => by rw [(ko_t.mp h).1] at hv; cases hv))).2, f1.i (by omega)]
          have bL' : ∀ v, bt (L &&& (part ^^^ -1)) v = (bt L v && !bt part v) := fun v => b_not L part v
          have bR : ∀ v, bt (R ||| h_ishl 1 (nI r)) v = true ↔ bt R v = true ∨ v = r := fun v => by rw [b_or, b_one (by omega), Bool.or_eq_true, decide_eq_true_iff]
          have Rr : ¬ bt R r = true := fun h => by
            obtain ⟨_, _, k2, _, k4, _⟩ := iA r h
            rw [(k4 r k2).2] at Lr; cases Lr
          have hCp : ∀ r', bt R r' = true → ∀ v, C r' v = true → bt part v = false := fun r' hr' v hv => bff (fun h => by
            obtain ⟨_, _, _, _, k4, _⟩ := iA r' hr'
            have := (k4 v hv).2
            rw [hpl v h] at this; cases this)
          refine ih (R ||| h_ishl 1 (nI r), L &&& (part ^^^ -1), m3) ⟨fun r' v => if r' = r then bt part v else C r' v, fun r' hr' => ?_, fun v h1 h2 => ?_, fun r1 r2 h1 h2 hne v => ?_, fun r1 r2 h1 h2 hne v u => ?_, fun r' hr' v u h1 h2 => ?_, fun v h => ?_, fun u hu => ?_, ?_, fun v hv => ?_⟩
          · replace hr' : bt (R ||| h_ishl 1 (nI r)) r' = true := hr'
            by_cases e : r' = r
            · rw [e]
              refine ⟨d, rfl, ?_, fun u => ?_, fun v hv => ?_, ?_⟩
              · show (if r = r then bt part r else C r r) = true
                rw [if_pos rfl]; exact hpr
              · show bt (m3.1 100 r) u = _
                rw [f3.i (by omega), (t2 r hkr).1]
                exact r1 u
              · replace hv : (if r = r then bt part v else C r v) = true := hv
                rw [if_pos rfl] at hv
                refine ⟨iF v (hpl v hv), ?_⟩
                show bt (L &&& (part ^^^ -1)) v = false
                rw [bL', hv]; simp
              · show TR X (m3.1 100) (m3.1 101) d (bt (m3.1 101 r)) (ko (fun v => if r = r then bt part v else C r v) r) (aO (bt above) r)
                rw [c3]
                have e5 : (fun v => if r = r then bt part v else C r v) = bt part := funext (fun v => if_pos rfl)
                rw [e5]
                refine TR_cg (fun v hv => ⟨?_, ?_⟩) t1
                · rw [f3.i (by omega)]
                · exact (n3 v (ko_t.mp hv).2).symm
            · have hRr : bt R r' = true := ((bR r').mp hr').resolve_right e
              obtain ⟨d', k1, k2, k3, k4, k5⟩ := iA r' hRr
              have hC1 : ∀ v, C r' v = true → m.1 100 v = m3.1 100 v ∧ m.1 101 v = m3.1 101 v := fun v hv => ⟨(s100 v (hCp r' hRr v hv)).symm, (s101 v (hCp r' hRr v hv)).symm⟩
              refine ⟨d', k1, ?_, fun u => ?_, fun v hv => ?_, ?_⟩
              · show (if r' = r then bt part r' else C r' r') = true
                rw [if_neg e]; exact k2
              · show bt (m3.1 100 r') u = _
                rw [← (hC1 r' k2).1]; exact k3 u
              · replace hv : (if r' = r then bt part v else C r' v) = true := hv
                rw [if_neg e] at hv
                refine ⟨(k4 v hv).1, ?_⟩
                show bt (L &&& (part ^^^ -1)) v = false
                rw [bL', (k4 v hv).2]; rfl
              · show TR X (m3.1 100) (m3.1 101) d' (bt (m3.1 101 r')) (ko (fun v => if r' = r then bt part v else C r' v) r') (aO (bt above) r')
                have e5 : (fun v => if r' = r then bt part v else C r' v) = C r' := funext (fun v => if_neg e)
                rw [e5, ← (hC1 r' k2).2]
                exact TR_cg (fun v hv => hC1 v (ko_t.mp hv).1) k5
          · replace h2 : bt (L &&& (part ^^^ -1)) v = false := h2
            show ∃ r', bt (R ||| h_ishl 1 (nI r)) r' = true ∧ (if r' = r then bt part v else C r' v) = true
            by_cases hp : bt part v = true
            · exact ⟨r, (bR r).mpr (Or.inr rfl), by rw [if_pos rfl]; exact hp⟩
            · have hL : bt L v = false := bff (fun h => by
                rw [bL', h, bff (fun h => hp h)] at h2
                cases h2)
              obtain ⟨r', q1, q2⟩ := iB v h1 hL
              refine ⟨r', (bR r').mpr (Or.inl q1), ?_⟩
              rw [if_neg (fun e => Rr (by rw [← e]; exact q1))]
              exact q2
          · replace h1 := (bR r1).mp h1
            replace h2 := (bR r2).mp h2
            show ((if r1 = r then bt part v else C r1 v) && (if r2 = r then bt part v else C r2 v)) = false
            by_cases e1 : r1 = r
            · have e2 : ¬ r2 = r := fun e => hne (by rw [e1, e])
              rw [if_pos e1, if_neg e2, and_f]
              intro q1 q2
              rw [hCp r2 (h2.resolve_right e2) v q2] at q1; cases q1
            · by_cases e2 : r2 = r
              · rw [if_neg e1, if_pos e2, and_f]
                intro q1 q2
                rw [hCp r1 (h1.resolve_right e1) v q1] at q2; cases q2
              · rw [if_neg e1, if_neg e2]
                exact iC r1 r2 (h1.resolve_right e1) (h2.resolve_right e2) hne v
          · replace h1 := (bR r1).mp h1
            replace h2 := (bR r2).mp h2
            show (nr X v u && ((if r1 = r then bt part v else C r1 v) && (if r2 = r then bt part u else C r2 u))) = false
            by_cases e1 : r1 = r
            · have e2 : ¬ r2 = r := fun e => hne (by rw [e1, e])
              rw [if_pos e1, if_neg e2, and_f]
              intro q1 q2
              rw [Bool.and_eq_true] at q2
              have := iE r2 (h2.resolve_right e2) u v q2.2 (hpl v q2.1)
              rw [nr_sym hX, q1] at this; cases this
            · by_cases e2 : r2 = r
              · rw [if_neg e1, if_pos e2, and_f]
                intro q1 q2
                rw [Bool.and_eq_true] at q2
                have := iE r1 (h1.resolve_right e1) v u q2.1 (hpl u q2.2)
                rw [q1] at this; cases this
              · rw [if_neg e1, if_neg e2]
                exact iD r1 r2 (h1.resolve_right e1) (h2.resolve_right e2) hne v u
          · replace hr' := (bR r').mp hr'
            replace h1 : (if r' = r then bt part v else C r' v) = true := h1
            replace h2 : bt (L &&& (part ^^^ -1)) u = true := h2
            rw [bL', Bool.and_eq_true, Bool.not_eq_true'] at h2
            by_cases e : r' = r
            · rw [if_pos e] at h1
              refine bff (fun q => ?_)
              rw [hcl v u h1 h2.1 q] at h2
              cases h2.2
            · rw [if_neg e] at h1
              exact iE r' (hr'.resolve_right e) v u h1 h2.1
          · replace h : bt (L &&& (part ^^^ -1)) v = true := h
            rw [bL', Bool.and_eq_true] at h
            exact iF v h.1
          · show bt (L &&& (part ^^^ -1)) u = false
            rw [bL']
            rcases Nat.lt_or_ge u i with h2 | h2
            · rw [iG u h2]; rfl
            · have : u = i := by omega
              rw [this, hpi]; simp
          · exact ((iH.trans f1 (Nat.le_refl _) (Nat.le_refl _) (by omega) (by omega) : Fr 100 102 μ m1).trans t3 (Nat.le_refl _) (Nat.le_refl _) (by omega) (by omega) : Fr 100 102 μ m2).trans f3 (Nat.le_refl _) (Nat.le_refl _) (by omega) (by omega)
          · have hp : bt part v = false := bff (fun h => by rw [iF v (hpl v h)] at hv; cases hv)
            exact ⟨(s100 v hp).trans (iI v hv).1, (s101 v hp).trans (iI v hv).2⟩
