/-! 41: the class's graph: reading -/
theorem w_bde {R R' : Type} {F : Option (R' × HMem)} {x : R'} {μ : HMem} {K : R' → HMem → Option (R × HMem)} {Q : R → HMem → Prop} (h : F = some (x, μ)) (k : wp (K x μ) Q) : wp (h_bd F K) Q := by
  rw [h]
  exact k
theorem w_bdk {R R' : Type} {F : Option (R' × HMem)} {K : R' → HMem → Option (R × HMem)} {Q : R → HMem → Prop} (h : wp F (fun r μ => wp (K r μ) Q)) : wp (h_bd F K) Q := w_bd h (fun _ _ h => h)
theorem ex_s {p : Nat → Prop} {i : Nat} : (∃ u, u < i + 1 ∧ p u) ↔ (∃ u, u < i ∧ p u) ∨ p i := by
  constructor
  · rintro ⟨u, h1, h2⟩
    rcases Nat.lt_or_ge u i with h | h
    · exact Or.inl ⟨u, h, h2⟩
    · have : u = i := by omega
      subst this
      exact Or.inr h2
  · rintro (⟨u, h1, h2⟩ | h)
    · exact ⟨u, by omega, h2⟩
    · exact ⟨i, by omega, h⟩
theorem all_s {p : Nat → Prop} {i : Nat} : (∀ u, u < i + 1 → p u) ↔ (∀ u, u < i → p u) ∧ p i := by
  constructor
  · exact fun h => ⟨fun u hu => h u (by omega), h i (by omega)⟩
  · rintro ⟨h1, h2⟩ u hu
    rcases Nat.lt_or_ge u i with h | h
    · exact h1 u h
    · have : u = i := by omega
      subst this
      exact h2
theorem ex_0 {p : Nat → Prop} : (∃ u, u < 0 ∧ p u) ↔ False := ⟨fun ⟨_, h, _⟩ => absurd h (Nat.not_lt_zero _), False.elim⟩
theorem cn_bd {p : Nat → Bool} {n m : Nat} (h : ∀ i, p i = true → i < n) : cn p m ≤ n := by
  rcases Nat.lt_or_ge m n with h1 | h1
  · exact Nat.le_trans (cn_le p m) (by omega)
  · have := cn_add (p := p) n (m - n) (fun i h2 _ => by
      cases hp : p i with
      | false => rfl
      | true => have := h i hp; omega)
    rw [show m = n + (m - n) by omega, this]
    exact cn_le p n
theorem e_has (x : Int32) {v : Nat} (hv : v < 32) (μ : HMem) : f_Bench_has x (nI v) μ = some (bI (bt x v), μ) := by
  unfold f_Bench_has f_Bench_has_J13
  cases hb : bt x v with
  | false => rw [if_pos ((b_ask x hv).mpr hb), if_pos (by decide)]; rfl
  | true =>
    rw [if_neg (fun h => by rw [(b_ask x hv).mp h] at hb; cases hb), if_pos (by decide)]
    rfl
theorem e_between {μ : HMem} {g : Nat} {G : HG} (hg : IsG g) (h : CG μ g G) (hn : G.1 ≤ 8) {u v : Nat} (hu : u < G.1) (hv : v < G.1) : f_Graph_between g (nI u) (nI v) μ = some (G.2.2 u v, μ) := by
  unfold f_Graph_between
  rw [ix8, len_2 hg]
  unfold h_chk
  rw [if_neg (in_N (by omega) (by omega)), cl_8 (by omega), h.2.2.1 u v hu hv]
def fullS (n : Nat) : Int32 := nI (2 ^ n - 1)
theorem all_k : ∀ n, n < 9 → h_ishl 1 (nI n) - 1 = fullS n := by unfold fullS; decide +kernel
theorem b_full {n : Nat} (hn : n ≤ 8) (v : Nat) : bt (fullS n) v = decide (v < n) := by
  rcases Nat.lt_or_ge v 32 with h | h
  · unfold fullS
    rw [b_nI _ _ h, Nat.testBit_two_pow_sub_one]
  · rw [b_big h]
    have : ¬ v < n := by omega
    simp [this]
theorem e_all {μ : HMem} {g : Nat} {G : HG} (h : CG μ g G) (hn : G.1 ≤ 8) : f_Graph_all g μ = some (fullS G.1, μ) := by
  unfold f_Graph_all
  rw [h.1, all_k _ (by omega)]
theorem near_S8 {μ : HMem} {g : Nat} {G : HG} (h : CG μ g G) (hn : G.1 ≤ 8) {u : Nat} (hu : u < 8) : S8 (μ.1 (g + 3) u) := by
  intro i hi
  cases hb : bt (μ.1 (g + 3) u) i with
  | false => rfl
  | true => have := ((h.2.2.2 u i hu).mp hb).2.1; omega
theorem s_nearOf {μ : HMem} {g : Nat} {G : HG} (hg : IsG g) (h : CG μ g G) (hn : G.1 ≤ 8) (s : Int32) {Q : Int32 → HMem → Prop} (hQ : ∀ r, (∀ v, bt r v = true ↔ ∃ u, u < G.1 ∧ (bt s u = true ∧ v < G.1 ∧ ¬ G.2.2 u v = 0)) → Q r μ) : wp (f_Graph_nearOf g s μ) Q := by
  unfold f_Graph_nearOf
  refine w_for (fun k i (x : Int32) => wp (f_Graph_nearOf_L4 k g s x (nI i) μ) Q) (fun i x => ∀ v, bt x v = true ↔ ∃ u, u < i ∧ (bt s u = true ∧ v < G.1 ∧ ¬ G.2.2 u v = 0)) G.1 ?_ ?_ 0 0 (by omega) (by omega) ?_
  · intro k x hx
    show wp (f_Graph_nearOf_L4_b (f_Graph_nearOf_L4 k) g s x (nI G.1) μ) Q
    unfold f_Graph_nearOf_L4_b
    refine w_t (by rw [h.1]; exact Int32.le_refl _) ?_
    exact w_ret (hQ x hx)
  · intro k i x hi hx ih
    show wp (f_Graph_nearOf_L4_b (f_Graph_nearOf_L4 k) g s x (nI i) μ) Q
    unfold f_Graph_nearOf_L4_b f_Graph_nearOf_J29
    refine w_f (by rw [h.1]; exact nI_ge hi (by omega)) ?_
    refine w_bde (e_has _ (by omega) _) ?_
    refine w_if (fun hb => ?_) (fun hb => ?_)
    · rw [bI_0] at hb
      refine w_let ?_
      rw [nI_1]
      refine ih x (fun v => ?_)
      rw [ex_s, hx v]
      simp [hb]
    · rw [bI_n] at hb
      refine w_chk (by rw [len_3 hg]; exact in_N (by omega) (by omega)) ?_
      refine w_let ?_
      refine w_let ?_
      rw [nI_1, cl_8 (by omega)]
      refine ih _ (fun v => ?_)
      rw [ex_s, b_or, Bool.or_eq_true, hx v, h.2.2.2 i v (by omega)]
      simp [hb, hi]
  · intro v
    rw [b_0, ex_0]
    simp
theorem s_loops {μ : HMem} {g : Nat} {G : HG} (hg : IsG g) (h : CG μ g G) (hn : G.1 ≤ 8) {Q : Int32 → HMem → Prop} (hQ : ∀ r, (∀ v, bt r v = true ↔ v < G.1 ∧ ¬ G.2.2 v v = 0) → Q r μ) : wp (f_Graph_loops g μ) Q := by
  unfold f_Graph_loops
  refine w_for (fun k i (x : Int32) => wp (f_Graph_loops_L4 k g x (nI i) μ) Q) (fun i x => ∀ v, bt x v = true ↔ v < i ∧ ¬ G.2.2 v v = 0) G.1 ?_ ?_ 0 0 (by omega) (by omega) ?_
  · intro k x hx
    show wp (f_Graph_loops_L4_b (f_Graph_loops_L4 k) g x (nI G.1) μ) Q
    unfold f_Graph_loops_L4_b
    refine w_t (by rw [h.1]; exact Int32.le_refl _) ?_
    exact w_ret (hQ x hx)
  · intro k i x hi hx ih
    show wp (f_Graph_loops_L4_b (f_Graph_loops_L4 k) g x (nI i) μ) Q
    unfold f_Graph_loops_L4_b
    refine w_f (by rw [h.1]; exact nI_ge hi (by omega)) ?_
    refine w_chk (by rw [len_3 hg]; exact in_N (by omega) (by omega)) ?_
    refine w_let ?_
    refine w_let ?_
    rw [nI_1, cl_8 (by omega)]
    refine ih _ (fun v => ?_)
    rw [b_or, Bool.or_eq_true, hx v, b_and, Bool.and_eq_true, h.2.2.2 i v (by omega), b_one (by omega), decide_eq_true_iff]
    constructor
    · rintro (⟨h1, h2⟩ | ⟨⟨h1, h2, h3⟩, rfl⟩)
      · exact ⟨by omega, h2⟩
      · exact ⟨by omega, h3⟩
    · rintro ⟨h1, h2⟩
      rcases Nat.lt_or_ge v i with h3 | h3
      · exact Or.inl ⟨h3, h2⟩
      · have : v = i := by omega
        subst this
        exact Or.inr ⟨⟨hi, hi, h2⟩, rfl⟩
  · intro v
    rw [b_0]
    simp
/-- what is reached from s inside a set -/
def Rc (n : Nat) (E : Nat → Nat → Int32) (S : Nat → Prop) (s v : Nat) : Prop := ∀ X : Nat → Prop, X s → (∀ a b, a < n → b < n → X a → ¬ E a b = 0 → S b → X b) → X v
theorem Rc.base {n : Nat} {E : Nat → Nat → Int32} {S : Nat → Prop} {s : Nat} : Rc n E S s s := fun _ h _ => h
theorem Rc.step {n : Nat} {E : Nat → Nat → Int32} {S : Nat → Prop} {s a b : Nat} (h : Rc n E S s a) (ha : a < n) (hb : b < n) (e : ¬ E a b = 0) (hs : S b) : Rc n E S s b := fun X h0 h1 => h1 a b ha hb (h X h0 h1) e hs
theorem Rc.lt {n : Nat} {E : Nat → Nat → Int32} {S : Nat → Prop} {s v : Nat} (h : Rc n E S s v) (hs : s < n) : v < n := h (fun v => v < n) hs (fun _ _ _ hb _ _ _ => hb)
theorem Rc.or {n : Nat} {E : Nat → Nat → Int32} {S : Nat → Prop} {s v : Nat} (h : Rc n E S s v) : v = s ∨ S v := h (fun v => v = s ∨ S v) (Or.inl rfl) (fun _ _ _ _ _ _ h => Or.inr h)
theorem grow8 {x y : Int32} (hy : S8 y) (hm : ∀ v, bt x v = true → bt y v = true) (hne : ¬ x = y) : cn (bt x) 8 < cn (bt y) 8 := by
  refine cn_lt (fun i _ => hm i) ?_
  refine Classical.byContradiction (fun hc => hne (b_ext (fun i hi => ?_)))
  cases hx : bt x i with
  | true => exact (hm i hx).symm
  | false =>
    cases hyi : bt y i with
    | false => rfl
    | true =>
      rcases Nat.lt_or_ge i 8 with h | h
      · exact absurd ⟨i, h, hx, hyi⟩ hc
      · rw [hy i h] at hyi; cases hyi
theorem s_reached {μ : HMem} {g : Nat} {G : HG} (hg : IsG g) (h : CG μ g G) (hn : G.1 ≤ 8) {s : Nat} (hs : s < G.1) (set : Int32) {Q : Int32 → HMem → Prop} (hQ : ∀ r, (∀ v, bt r v = true ↔ Rc G.1 G.2.2 (fun b => bt set b = true) s v) → Q r μ) : wp (f_Graph_reached g (nI s) set μ) Q := by
  unfold f_Graph_reached
  refine w_let ?_
  have fin : ∀ x y : Int32, (∀ v, bt x v = true → Rc G.1 G.2.2 (fun b => bt set b = true) s v) → bt x s = true → (∀ a b, a < G.1 → b < G.1 → bt y a = true → ¬ G.2.2 a b = 0 → bt set b = true → bt x b = true) → x = y → wp (f_Graph_reached_J77 x μ) Q := by
    intro x y h1 h2 h3 e
    subst e
    refine w_ret (hQ x (fun v => ⟨h1 v, fun hr => hr (fun v => bt x v = true) h2 (fun a b ha hb xa e hs => h3 a b ha hb xa e hs)⟩))
  refine w_for (fun k i (x : Int32 × Int32) => wp (f_Graph_reached_L10 f_Graph_reached_J77 k g set x.1 x.2 (nI i) μ) Q)
    (fun i x => (∀ v, bt x.1 v = true → Rc G.1 G.2.2 (fun b => bt set b = true) s v) ∧ bt x.1 s = true ∧ (∀ v, bt x.2 v = true → bt x.1 v = true) ∧ (∀ a b, a < G.1 → b < G.1 → bt x.2 a = true → ¬ G.2.2 a b = 0 → bt set b = true → bt x.1 b = true) ∧ (x.1 = x.2 ∨ i + 1 ≤ cn (bt x.1) 8)) (G.1 + 1) ?_ ?_ 0 (h_ishl 1 (nI s), 0) (by omega) (by omega) ?_
  · rintro k ⟨x, y⟩ ⟨h1, h2, h3, h4, h5⟩
    show wp (f_Graph_reached_L10_b f_Graph_reached_J77 (f_Graph_reached_L10 f_Graph_reached_J77 k) g set x y (nI (G.1 + 1)) μ) Q
    unfold f_Graph_reached_L10_b
    refine w_t (by rw [h.1]; exact nI_lt (by omega) (by omega)) ?_
    refine fin x y h1 h2 h4 ?_
    rcases h5 with h5 | h5
    · exact h5
    · have := cn_bd (p := bt x) (n := G.1) (m := 8) (fun i hi => (h1 i hi).lt hs)
      simp only at h5
      omega
  · rintro k i ⟨x, y⟩ hi ⟨h1, h2, h3, h4, h5⟩ ih
    show wp (f_Graph_reached_L10_b f_Graph_reached_J77 (f_Graph_reached_L10 f_Graph_reached_J77 k) g set x y (nI i) μ) Q
    unfold f_Graph_reached_L10_b
    refine w_f (by rw [h.1]; exact nI_nlt (by omega) (by omega)) ?_
    refine w_if (fun e => fin x y h1 h2 h4 e) (fun e => ?_)
    have h5' : i + 1 ≤ cn (bt x) 8 := h5.resolve_left e
    refine w_for (fun k2 j (z : Int32) => wp (f_Graph_reached_L31 (f_Graph_reached_J71 (f_Graph_reached_L10 f_Graph_reached_J77 k)) k2 g set z x (nI i) (nI j) μ) Q)
      (fun j z => (∀ v, bt x v = true → bt z v = true) ∧ (∀ v, bt z v = true → Rc G.1 G.2.2 (fun b => bt set b = true) s v) ∧ (∀ a b, a < j → b < G.1 → bt x a = true → ¬ G.2.2 a b = 0 → bt set b = true → bt z b = true)) G.1 ?_ ?_ 0 x (by omega) (by omega) ?_
    · rintro k' z ⟨g1, g2, g3⟩
      show wp (f_Graph_reached_L31_b (f_Graph_reached_J71 (f_Graph_reached_L10 f_Graph_reached_J77 k)) (f_Graph_reached_L31 (f_Graph_reached_J71 (f_Graph_reached_L10 f_Graph_reached_J77 k)) k') g set z x (nI i) (nI G.1) μ) Q
      unfold f_Graph_reached_L31_b f_Graph_reached_J71
      refine w_t (by rw [h.1]; exact Int32.le_refl _) ?_
      refine w_let ?_
      rw [nI_1]
      refine ih (z, x) ⟨g2, g1 s h2, g1, g3, ?_⟩
      by_cases hzx : z = x
      · exact Or.inl hzx
      · refine Or.inr ?_
        have hz8 : S8 z := fun v hv => by
          cases hb : bt z v with
          | false => rfl
          | true => have := (g2 v hb).lt hs; omega
        have := grow8 hz8 g1 (fun e => hzx e.symm)
        show i + 1 + 1 ≤ cn (bt z) 8
        omega
    · rintro k' j z hj ⟨g1, g2, g3⟩ ih'
      show wp (f_Graph_reached_L31_b (f_Graph_reached_J71 (f_Graph_reached_L10 f_Graph_reached_J77 k)) (f_Graph_reached_L31 (f_Graph_reached_J71 (f_Graph_reached_L10 f_Graph_reached_J77 k)) k') g set z x (nI i) (nI j) μ) Q
      unfold f_Graph_reached_L31_b f_Graph_reached_J63
      refine w_f (by rw [h.1]; exact nI_ge hj (by omega)) ?_
      refine w_bde (e_has _ (by omega) _) ?_
      refine w_if (fun hb => ?_) (fun hb => ?_)
      · rw [bI_0] at hb
        refine w_let ?_
        refine w_let ?_
        rw [nI_1]
        refine ih' _ ⟨fun v hv => ?_, fun v hv => ?_, ?_⟩
        · rw [b_or, g1 v hv]; rfl
        · rw [b_or, b_0, Bool.or_false] at hv; exact g2 v hv
        · intro a b ha hb' xa e hs'
          rw [b_or]
          rcases Nat.lt_or_ge a j with h6 | h6
          · rw [g3 a b h6 hb' xa e hs']; rfl
          · have : a = j := by omega
            subst this
            rw [g1 a xa] at hb; cases hb
      · rw [bI_n] at hb
        refine w_chk (by rw [len_3 hg]; exact in_N (by omega) (by omega)) ?_
        refine w_let ?_
        refine w_let ?_
        rw [nI_1, cl_8 (by omega)]
        refine ih' _ ⟨fun v hv => ?_, fun v hv => ?_, ?_⟩
        · rw [b_or, g1 v hv]; rfl
        · rw [b_or, b_and, Bool.or_eq_true, Bool.and_eq_true, h.2.2.2 j v (by omega)] at hv
          rcases hv with hv | ⟨⟨_, hv, he⟩, hs'⟩
          · exact g2 v hv
          · exact (g2 j hb).step hj hv he hs'
        · intro a b ha hb' xa e hs'
          rw [b_or, b_and, Bool.or_eq_true, Bool.and_eq_true, h.2.2.2 j b (by omega)]
          rcases Nat.lt_or_ge a j with h6 | h6
          · exact Or.inl (g3 a b h6 hb' xa e hs')
          · have : a = j := by omega
            subst this
            exact Or.inr ⟨⟨hj, hb', e⟩, hs'⟩
    · exact ⟨fun _ h => h, h1, fun a b ha => absurd ha (Nat.not_lt_zero _)⟩
  · refine ⟨fun v hv => ?_, ?_, fun v hv => ?_, fun a b ha hb hv => ?_, Or.inr ?_⟩
    · rw [b_one (by omega), decide_eq_true_iff] at hv
      subst hv
      exact Rc.base
    · rw [b_one (by omega)]; simp
    · rw [b_0] at hv; cases hv
    · rw [b_0] at hv; cases hv
    · have := cn_lt (p := fun _ => false) (q := bt (h_ishl 1 (nI s))) (n := 8) (fun _ _ h => by cases h) ⟨s, by omega, rfl, by rw [b_one (by omega)]; simp⟩
      show 0 + 1 ≤ cn (bt (h_ishl 1 (nI s))) 8
      omega
