/-! 42: the reference: reading -/
theorem bd_some {R R' : Type} (x : R') (μ : HMem) (K : R' → HMem → Option (R × HMem)) : h_bd (some (x, μ)) K = K x μ := rfl
theorem chk_in {R : Type} {i : Int32} {n : Nat} {F : Option R} (h : vp_in i n) : h_chk i n F = F := by unfold h_chk; exact if_neg h
theorem e_J {b : Bool} {μ : HMem} : (if bI b &&& 1 = bI b then some (bI b, μ) else none) = some (bI b, μ) := if_pos (bI_1 b)
theorem e_J0 {μ : HMem} : (if (0 : Int32) &&& 1 = 0 then some ((0 : Int32), μ) else none) = some (bI false, μ) := rfl
theorem e_J1 {μ : HMem} : (if (1 : Int32) &&& 1 = 1 then some ((1 : Int32), μ) else none) = some (bI true, μ) := rfl
theorem e_in (x lo hi : Int32) (μ : HMem) : f_Model_in x lo hi μ = some (bI (!decide (x < lo) && !decide (hi < x)), μ) := by
  unfold f_Model_in f_Model_in_J14 f_Model_in_J15
  by_cases h1 : x < lo
  · rw [if_pos h1, e_J0]; simp [h1]
  · rw [if_neg h1]
    by_cases h2 : hi < x
    · rw [if_pos h2, e_J0]; simp [h2]
    · rw [if_neg h2, e_J1]; simp [h1, h2]
theorem e_isGraph (x : Int32) (μ : HMem) : f_Model_isGraph x μ = some (bI (!decide (x < 0) && !decide (3 < x)), μ) := by
  unfold f_Model_isGraph
  rw [e_in, bd_some, e_J]
theorem m73 (k : Nat) : (73 : Int32) * nI k = nI (73 * k) := pk_mul 73 k
theorem m73w (k v : Nat) : ((73 : Int32) * nI k) + 1 + nI v = nI (73 * k + 1 + v) := by rw [m73, nI_1, nI_add]
theorem m73e (k u v : Nat) : ((((73 : Int32) * nI k) + 9) + (8 * nI u)) + nI v = nI (73 * k + 9 + 8 * u + v) := by
  rw [m73]
  show ((nI (73 * k) + nI 9) + (nI 8 * nI u)) + nI v = _
  rw [pk_mul, nI_add, nI_add, nI_add]
theorem e_mthrown (μ : HMem) : f_Model_thrown μ = some (μ.1 125 5, μ) := rfl
theorem e_fails (x : Int32) (μ : HMem) : f_Model_fails x μ = some (0, h_wi μ 125 5 x) := rfl
theorem e_tells (x : Int32) (μ : HMem) : f_Model_tells x μ = some (x, h_wi μ 125 5 0) := rfl
theorem e_msize {μ : HMem} {k : Nat} {G : HG} (hk : k < 6) (h : RG (μ.1 126) (73 * k) G) : f_Model_size (nI k) μ = some (nI G.1, μ) := by
  unfold f_Model_size
  rw [m73, chk_in (in_N (by rw [show h_len 126 = 438 from rfl]; omega) (by decide)), cl_8 (by omega), h.1]
theorem e_mweight {μ : HMem} {k : Nat} {G : HG} (hk : k < 6) (hn : G.1 ≤ 8) (h : RG (μ.1 126) (73 * k) G) {v : Nat} (hv : v < G.1) : f_Model_weight (nI k) (nI v) μ = some (G.2.1 v, μ) := by
  unfold f_Model_weight
  rw [m73w, chk_in (in_N (by rw [show h_len 126 = 438 from rfl]; omega) (by decide)), cl_8 (by omega), h.2.1 v hv]
theorem e_mbetween {μ : HMem} {k : Nat} {G : HG} (hk : k < 6) (hn : G.1 ≤ 8) (h : RG (μ.1 126) (73 * k) G) {u v : Nat} (hu : u < G.1) (hv : v < G.1) : f_Model_between (nI k) (nI u) (nI v) μ = some (G.2.2 u v, μ) := by
  unfold f_Model_between
  rw [m73e, chk_in (in_N (by rw [show h_len 126 = 438 from rfl]; omega) (by decide)), cl_8 (by omega), h.2.2 u v hu hv]
theorem e_isNear {μ : HMem} {k : Nat} {G : HG} (hk : k < 6) (hn : G.1 ≤ 8) (h : RG (μ.1 126) (73 * k) G) {u v : Nat} (hu : u < G.1) (hv : v < G.1) : f_Model_isNear (nI k) (nI u) (nI v) μ = some (bI (!decide (G.2.2 u v = 0)), μ) := by
  unfold f_Model_isNear f_Model_isNear_J15
  rw [e_mbetween hk hn h hu hv, bd_some]
  by_cases e : G.2.2 u v = 0
  · rw [if_pos e, e_J0]; simp [e]
  · rw [if_neg e, e_J1]; simp [e]
theorem e_isVertex {μ : HMem} {k : Nat} {G : HG} (hk : k < 4) (h : RG (μ.1 126) (73 * k) G) (x : Int32) : f_Model_isVertex (nI k) x μ = some (bI (!decide (x < 0) && !decide (nI G.1 - 1 < x)), μ) := by
  unfold f_Model_isVertex f_Model_isVertex_J26 f_Model_isVertex_J27
  rw [e_isGraph, bd_some]
  have h1 : ¬ nI k < 0 := nI_pos (by omega)
  have h2 : ¬ (3 : Int32) < nI k := nI_nlt (b := k) (a := 3) (by omega) (by omega)
  simp only [h1, h2, decide_false, Bool.not_false, Bool.and_self]
  rw [if_neg (by decide), e_msize (by omega) h, bd_some, e_in, bd_some]
  cases (!decide (x < 0) && !decide (nI G.1 - 1 < x)) with
  | false => rw [if_pos (by decide), e_J0]
  | true => rw [if_neg (by decide), e_J1]
theorem s_near {μ : HMem} {k : Nat} {G : HG} (hk : k < 6) (hn : G.1 ≤ 8) (h : RG (μ.1 126) (73 * k) G) {v : Nat} (hv : v < G.1) {Q : Int32 → HMem → Prop} (hQ : ∀ r, (∀ u, bt r u = true ↔ u < G.1 ∧ ¬ G.2.2 u v = 0) → Q r μ) : wp (f_Model_near (nI k) (nI v) μ) Q := by
  unfold f_Model_near
  refine w_for (fun f i (x : Int32) => wp (f_Model_near_L5 f (nI k) (nI v) x (nI i) μ) Q) (fun i x => ∀ u, bt x u = true ↔ u < i ∧ ¬ G.2.2 u v = 0) G.1 ?_ ?_ 0 0 (by omega) (by omega) ?_
  · intro f x hx
    show wp (f_Model_near_L5_b (f_Model_near_L5 f) (nI k) (nI v) x (nI G.1) μ) Q
    unfold f_Model_near_L5_b
    refine w_bde (e_msize hk h) ?_
    refine w_t (Int32.le_refl _) ?_
    exact w_ret (hQ x hx)
  · intro f i x hi hx ih
    show wp (f_Model_near_L5_b (f_Model_near_L5 f) (nI k) (nI v) x (nI i) μ) Q
    unfold f_Model_near_L5_b f_Model_near_J35
    refine w_bde (e_msize hk h) ?_
    refine w_f (nI_ge hi (by omega)) ?_
    refine w_bde (e_isNear hk hn h hi hv) ?_
    refine w_if (fun hb => ?_) (fun hb => ?_)
    · refine w_let ?_
      refine w_let ?_
      rw [nI_1]
      refine ih _ (fun u => ?_)
      rw [bI_0] at hb
      rw [b_or, b_0, Bool.or_false, hx u]
      constructor
      · rintro ⟨h1, h2⟩; exact ⟨by omega, h2⟩
      · rintro ⟨h1, h2⟩
        rcases Nat.lt_or_ge u i with h3 | h3
        · exact ⟨h3, h2⟩
        · have : u = i := by omega
          subst this
          simp [h2] at hb
    · refine w_let ?_
      refine w_let ?_
      rw [nI_1]
      refine ih _ (fun u => ?_)
      rw [bI_n] at hb
      rw [b_or, Bool.or_eq_true, hx u, b_one (by omega), decide_eq_true_iff]
      constructor
      · rintro (⟨h1, h2⟩ | rfl)
        · exact ⟨by omega, h2⟩
        · exact ⟨by omega, by simpa using hb⟩
      · rintro ⟨h1, h2⟩
        rcases Nat.lt_or_ge u i with h3 | h3
        · exact Or.inl ⟨h3, h2⟩
        · exact Or.inr (by omega)
  · intro u
    rw [b_0]
    simp
theorem bits_k : ∀ k, k < 256 → ∀ j, j < 9 → ¬ k = 0 → (nI k &&& (nI k - 1)) = nI (k &&& (k - 1)) ∧ (k &&& (k - 1)) < k ∧ cn (fun i => bt (nI k) i) 8 = cn (fun i => bt (nI (k &&& (k - 1))) i) 8 + 1 := by
  intro k hk j _ h0
  exact (by decide +kernel : ∀ k, k < 256 → ¬ k = 0 → (nI k &&& (nI k - 1)) = nI (k &&& (k - 1)) ∧ (k &&& (k - 1)) < k ∧ cn (fun i => bt (nI k) i) 8 = cn (fun i => bt (nI (k &&& (k - 1))) i) 8 + 1) k hk h0
theorem b_ask1 (x : Int32) {v : Nat} (hv : v < 32) : ((h_ishr x (nI v)) &&& 1) = 1 ↔ bt x v = true := by
  have h0 := b_ask x hv
  cases hb : bt x v with
  | false =>
    rw [h0.mpr hb]
    exact ⟨fun h => absurd h (by decide), fun h => by cases h⟩
  | true =>
    refine ⟨fun _ => rfl, fun _ => ?_⟩
    unfold h_ishr
    refine b_ext (fun i hi => ?_)
    rw [b_and, b_1]
    by_cases hi0 : i = 0
    · subst hi0
      rw [b_sshr v hv x (by omega), if_pos (by omega)]
      simp [hb]
    · simp [hi0]
theorem e_bits {x : Int32} (h : S8 x) (μ : HMem) : f_Model_bits x μ = some (nI (cn (bt x) 8), μ) := by
  have key : wp (f_Model_bits x μ) (fun r μ' => r = nI (cn (bt x) 8) ∧ μ' = μ) := by
    obtain ⟨k, hk, rfl⟩ := s8_mask h
    unfold f_Model_bits
    refine w_loopF (fun f (s : Int32 × Int32) => wp (f_Model_bits_L4 f s.1 s.2 μ) _) (fun s => ∃ a j, j < 256 ∧ s.1 = nI a ∧ s.2 = nI j ∧ a + cn (fun i => bt (nI j) i) 8 = cn (fun i => bt (nI k) i) 8) (fun s => s.2.toNatClampNeg) ?_ (0, nI k) ⟨0, k, hk, rfl, rfl, by omega⟩ ?_
    · rintro f ⟨_, _⟩ ⟨a, j, hj, rfl, rfl, hs⟩ ih
      show wp (f_Model_bits_L4_b (f_Model_bits_L4 f) (nI a) (nI j) μ) _
      unfold f_Model_bits_L4_b
      by_cases h0 : j = 0
      · subst h0
        refine w_t rfl (w_ret ⟨?_, rfl⟩)
        rw [← hs, show cn (fun i => bt (nI 0) i) 8 = 0 by decide]
        rfl
      · refine w_f (nI_ne0 (by omega) (by omega)) ?_
        obtain ⟨h1, h2, h3⟩ := bits_k j hj 0 (by omega) h0
        refine w_let ?_
        refine w_let ?_
        rw [nI_1, h1]
        refine ih (nI (a + 1), nI (j &&& (j - 1))) ⟨a + 1, j &&& (j - 1), by omega, rfl, rfl, by omega⟩ ?_
        show (nI (j &&& (j - 1))).toNatClampNeg < (nI j).toNatClampNeg
        rw [nI_clamp (by omega), nI_clamp (by omega)]
        exact h2
    · show (nI k).toNatClampNeg < _
      rw [nI_clamp (by omega)]
      omega
  obtain ⟨r, μ', e, rfl, rfl⟩ := key
  exact e
/-- sums -/
def sm (f : Nat → Nat) : Nat → Nat
  | 0 => 0
  | n + 1 => sm f n + f n
theorem sm_ext {f g : Nat → Nat} : ∀ {n : Nat}, (∀ i, i < n → f i = g i) → sm f n = sm g n
  | 0, _ => rfl
  | n + 1, h => by
    unfold sm
    rw [sm_ext (fun i hi => h i (by omega)), h n (by omega)]
theorem sm_add (f g : Nat → Nat) : ∀ n, sm (fun i => f i + g i) n = sm f n + sm g n
  | 0 => rfl
  | n + 1 => by
    show sm (fun i => f i + g i) n + (f n + g n) = (sm f n + f n) + (sm g n + g n)
    rw [sm_add f g n]
    omega
theorem sm_0 : ∀ n, sm (fun _ => 0) n = 0
  | 0 => rfl
  | n + 1 => sm_0 n
theorem sm_comm (f : Nat → Nat → Nat) (m : Nat) : ∀ n, sm (fun u => sm (fun v => f u v) m) n = sm (fun v => sm (fun u => f u v) n) m
  | 0 => (sm_0 m).symm
  | n + 1 => by
    show sm (fun u => sm (fun v => f u v) m) n + sm (fun v => f n v) m = sm (fun v => sm (fun u => f u v) n + f n v) m
    rw [sm_comm f m n, sm_add]
theorem cn_sm (p : Nat → Bool) : ∀ n, cn p n = sm (fun i => if p i then 1 else 0) n
  | 0 => rfl
  | n + 1 => by
    show cn p n + _ = sm _ n + _
    rw [cn_sm p n]
theorem sm_le {f : Nat → Nat} {b : Nat} : ∀ {n : Nat}, (∀ i, i < n → f i ≤ b) → sm f n ≤ n * b
  | 0, _ => Nat.zero_le _
  | n + 1, h => by
    have h1 := sm_le (n := n) (fun i hi => h i (by omega))
    have h2 := h n (by omega)
    show sm f n + f n ≤ _
    rw [Nat.succ_mul]
    omega
def edP (E : Nat → Nat → Int32) (b : Bool) (u v : Nat) : Bool := !decide (E u v = 0) && (b == decide (u = v))
def edN (E : Nat → Nat → Int32) (b : Bool) (n : Nat) : Nat := sm (fun u => cn (fun v => decide (u ≤ v) && edP E b u v) n) n
theorem s_edges {μ : HMem} {k : Nat} {G : HG} (hk : k < 6) (hn : G.1 ≤ 8) (h : RG (μ.1 126) (73 * k) G) (b : Bool) {Q : Int32 → HMem → Prop} (hQ : Q (nI (edN G.2.2 b G.1)) μ) : wp (f_Model_edges (nI k) (bI b) μ) Q := by
  unfold f_Model_edges
  refine w_for (fun f i (x : Nat) => wp (f_Model_edges_L5 f (nI k) (bI b) (nI x) (nI i) μ) Q) (fun i x => x = sm (fun u => cn (fun v => decide (u ≤ v) && edP G.2.2 b u v) G.1) i) G.1 ?_ ?_ 0 0 (by omega) (by omega) rfl
  · rintro f x rfl
    show wp (f_Model_edges_L5_b (f_Model_edges_L5 f) (nI k) (bI b) (nI _) (nI G.1) μ) Q
    unfold f_Model_edges_L5_b
    refine w_bde (e_msize hk h) ?_
    refine w_t (Int32.le_refl _) ?_
    exact w_ret hQ
  · rintro f i x hi rfl ih
    show wp (f_Model_edges_L5_b (f_Model_edges_L5 f) (nI k) (bI b) (nI _) (nI i) μ) Q
    unfold f_Model_edges_L5_b
    refine w_bde (e_msize hk h) ?_
    refine w_f (nI_ge hi (by omega)) ?_
    generalize hA : sm (fun u => cn (fun v => decide (u ≤ v) && edP G.2.2 b u v) G.1) i = A at ih ⊢
    refine w_for (fun f2 j (x : Nat) => wp (f_Model_edges_L19 (f_Model_edges_J71 (f_Model_edges_L5 f)) f2 (nI k) (bI b) (nI x) (nI i) (nI j) μ) Q) (fun j x => i ≤ j ∧ x = A + cn (fun v => decide (i ≤ v) && edP G.2.2 b i v) j) G.1 ?_ ?_ i A (by omega) (by omega) ?_
    · rintro f2 x ⟨_, rfl⟩
      show wp (f_Model_edges_L19_b (f_Model_edges_J71 (f_Model_edges_L5 f)) (f_Model_edges_L19 (f_Model_edges_J71 (f_Model_edges_L5 f)) f2) (nI k) (bI b) (nI _) (nI i) (nI G.1) μ) Q
      unfold f_Model_edges_L19_b f_Model_edges_J71
      refine w_bde (e_msize hk h) ?_
      refine w_t (Int32.le_refl _) ?_
      refine w_let ?_
      rw [nI_1]
      refine ih _ ?_
      show _ = sm _ i + _
      rw [hA]
    · rintro f2 j x hj ⟨hij, rfl⟩ ih'
      show wp (f_Model_edges_L19_b (f_Model_edges_J71 (f_Model_edges_L5 f)) (f_Model_edges_L19 (f_Model_edges_J71 (f_Model_edges_L5 f)) f2) (nI k) (bI b) (nI _) (nI i) (nI j) μ) Q
      unfold f_Model_edges_L19_b
      refine w_bde (e_msize hk h) ?_
      refine w_f (nI_ge hj (by omega)) ?_
      refine w_bde (e_isNear hk hn h hi hj) ?_
      have go0 : edP G.2.2 b i j = false → wp (f_Model_edges_J62 (f_Model_edges_L19 (f_Model_edges_J71 (f_Model_edges_L5 f)) f2) (nI k) (bI b) (nI i) (nI j) (nI (A + cn (fun v => decide (i ≤ v) && edP G.2.2 b i v) j)) μ) Q := by
        intro e
        unfold f_Model_edges_J62 f_Model_edges_J63
        refine w_let ?_
        refine w_let ?_
        rw [Int32.add_zero, nI_1]
        refine ih' _ ⟨by omega, ?_⟩
        show _ = A + (cn _ j + _)
        simp [e]
      have go1 : edP G.2.2 b i j = true → wp (f_Model_edges_J63 (f_Model_edges_L19 (f_Model_edges_J71 (f_Model_edges_L5 f)) f2) (nI k) (bI b) (nI i) (nI j) 1 (nI (A + cn (fun v => decide (i ≤ v) && edP G.2.2 b i v) j)) μ) Q := by
        intro e
        unfold f_Model_edges_J63
        refine w_let ?_
        refine w_let ?_
        rw [nI_1, nI_1]
        refine ih' _ ⟨by omega, ?_⟩
        show _ = A + (cn _ j + _)
        simp [e, hij]
        omega
      refine w_if (fun hb => ?_) (fun hb => ?_)
      · exact go0 (by rw [bI_0] at hb; unfold edP; rw [hb]; rfl)
      · rw [bI_n] at hb
        unfold f_Model_edges_J55
        have e0 : edP G.2.2 b i j = (b == decide (i = j)) := by unfold edP; rw [hb]; rfl
        by_cases huv : i = j
        · refine w_f (fun h => h (by rw [huv])) ?_
          have e1 : (b == decide (i = j)) = b := by rw [decide_eq_true huv]; cases b <;> rfl
          cases b with
          | true => exact w_f (fun h => h rfl) (go1 (by rw [e0, e1]))
          | false => exact w_t (by decide) (go0 (by rw [e0, e1]))
        · refine w_t (fun h => huv ((nI_eq (by omega) (by omega)).mp h)) ?_
          have e1 : (b == decide (i = j)) = !b := by rw [decide_eq_false huv]; cases b <;> rfl
          cases b with
          | true => exact w_t (by decide) (go0 (by rw [e0, e1]; rfl))
          | false => exact w_f (fun h => h rfl) (go1 (by rw [e0, e1]; rfl))
    · refine ⟨Nat.le_refl _, ?_⟩
      show A = A + cn _ i
      rw [cn_zero (fun v hv => by have : ¬ i ≤ v := by omega
                                  simp [this])]
      rfl
