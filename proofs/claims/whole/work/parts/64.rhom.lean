/-! 64: the search for a homomorphism (the reference) -/
/-- a homomorphism from a part, with the images that are allowed -/
def Hm (P : Nat → Bool) (ad : Nat → Nat → Bool) (Ex Ey : Nat → Nat → Int32) (f : Nat → Nat) : Prop := (∀ v, P v = true → ad v (f v) = true) ∧ ∀ u v, P u = true → P v = true → ¬ Ex u v = 0 → ¬ Ey (f u) (f v) = 0
theorem s_frees {μ : HMem} {Q : Unit → HMem → Prop} (hQ : ∀ μ', (∀ v, v < 8 → μ'.1 135 v = -1) → Fr 135 136 μ μ' → Q () μ') : wp (f_Model_frees μ) Q := by
  unfold f_Model_frees
  refine w_for (fun f v (m : HMem) => wp (f_Model_frees_L2 f (nI v) m) Q) (fun v m => (∀ u, u < v → m.1 135 u = -1) ∧ Fr 135 136 μ m) 8 ?_ ?_ 0 μ (by omega) (by omega) ⟨fun u hu => absurd hu (Nat.not_lt_zero _), Fr.refl _ _ _⟩
  · rintro f m ⟨h1, h2⟩
    show wp (f_Model_frees_L2_b (f_Model_frees_L2 f) (nI 8) m) Q
    unfold f_Model_frees_L2_b
    exact w_t (by decide) (w_ret (hQ m h1 h2))
  · rintro f v m hv ⟨h1, h2⟩ ih
    show wp (f_Model_frees_L2_b (f_Model_frees_L2 f) (nI v) m) Q
    unfold f_Model_frees_L2_b
    refine w_f (nI_ge (b := 8) hv (by omega)) ?_
    refine w_chk (in_8 hv rfl) ?_
    refine w_let ?_
    refine w_let ?_
    rw [cl_8 (by omega), nI_1]
    refine ih _ ⟨fun u hu => ?_, h2.trans (Fr.wi (a := 135) (b := 136) (by omega) (by omega)) (Nat.le_refl _) (Nat.le_refl _) (Nat.le_refl _) (Nat.le_refl _)⟩
    rw [wi_e]
    by_cases e : u = v
    · rw [if_pos ⟨rfl, e⟩]
    · rw [if_neg (by omega)]
      exact h1 u (by omega)
theorem s_lowestOut {μ : HMem} {s : Int32} {w : Nat} (hw : w < 32) (h : bt s w = false) {Q : Int32 → HMem → Prop} (hQ : ∀ v, v ≤ w → bt s v = false → Q (nI v) μ) : wp (f_Model_lowestOut s μ) Q := by
  unfold f_Model_lowestOut
  refine w_for (fun f v (_ : Unit) => wp (f_Model_lowestOut_L2 f s (nI v) μ) Q) (fun v _ => True) w ?_ ?_ 0 () (by omega) (by omega) trivial
  · intro f _ _
    show wp (f_Model_lowestOut_L2_b (f_Model_lowestOut_L2 f) s (nI w) μ) Q
    unfold f_Model_lowestOut_L2_b
    exact w_t (fun h2 => by rw [b_ask1 s hw, h] at h2; cases h2) (w_ret (hQ w (Nat.le_refl _) h))
  · intro f v _ hv _ ih
    show wp (f_Model_lowestOut_L2_b (f_Model_lowestOut_L2 f) s (nI v) μ) Q
    unfold f_Model_lowestOut_L2_b
    refine w_if (fun h1 => ?_) (fun h1 => ?_)
    · rw [b_ask1 s (by omega), Bool.not_eq_true] at h1
      exact w_ret (hQ v (by omega) h1)
    · refine w_let ?_
      rw [nI_1]
      exact ih () trivial
/-- the order of the search: component by component -/
def Tu (n : Nat) (E : Nat → Nat → Int32) (many : Nat) (tn bg : Nat → Nat) : Prop := (∀ p, p < n → tn p < n) ∧ (∀ v, v < n → ∃ p, p < n ∧ tn p = v) ∧ (∀ p q, p < n → q < n → tn p = tn q → p = q) ∧ many ≤ n ∧ bg 0 = 0 ∧ bg many = n ∧ (∀ c, c < many → bg c < bg (c + 1)) ∧ (∀ c, c ≤ many → bg c ≤ n) ∧ ∀ c p q, c < many → p < bg c → bg c ≤ q → q < n → E (tn p) (tn q) = 0
def TuI (n : Nat) (E : Nat → Nat → Int32) (μ : HMem) (k : Nat) (y : Nat × Int32 × HMem) : Prop := ∃ tn bg : Nat → Nat, (∀ v, bt y.2.1 v = true ↔ ∃ p, p < k ∧ tn p = v) ∧ (∀ p, p < k → tn p < n) ∧ (∀ p q, p < k → q < k → tn p = tn q → p = q) ∧ cn (bt y.2.1) n = k ∧ (k = 0 → y.1 = 0) ∧ (0 < k → 0 < y.1 ∧ bg 0 = 0) ∧ y.1 ≤ k ∧ (∀ c, c < y.1 → bg c < k) ∧ (∀ c, c + 1 < y.1 → bg c < bg (c + 1)) ∧ (∀ c v, c < y.1 → v < n → (∀ p, p < bg c → ¬ tn p = v) → ∀ p, p < bg c → E (tn p) v = 0) ∧ (∀ p, p < k → y.2.2.1 134 p = nI (tn p)) ∧ (∀ c, c < y.1 → y.2.2.1 136 c = nI (bg c)) ∧ Fr 134 137 μ y.2.2 ∧ y.2.2.1 135 = μ.1 135
theorem cn_all {p : Nat → Bool} : ∀ {n : Nat}, cn p n = n → ∀ v, v < n → p v = true
  | 0, _, v, hv => absurd hv (Nat.not_lt_zero _)
  | n + 1, h, v, hv => by
    rw [cn_s] at h
    have h1 := cn_le p n
    have h2 : cn p n = n ∧ p n = true := by
      cases hb : p n with
      | true => rw [hb, if_pos rfl] at h; exact ⟨by omega, rfl⟩
      | false => rw [hb, if_neg (by decide)] at h; omega
    rcases Nat.lt_or_ge v n with h3 | h3
    · exact cn_all h2.1 v h3
    · have : v = n := by omega
      rw [this]
      exact h2.2
theorem cn_less {p : Nat → Bool} : ∀ {n : Nat}, cn p n < n → ∃ v, v < n ∧ p v = false
  | 0, h => absurd h (Nat.not_lt_zero _)
  | n + 1, h => by
    cases hb : p n with
    | false => exact ⟨n, by omega, hb⟩
    | true =>
      rw [cn_s, hb, if_pos rfl] at h
      obtain ⟨v, h1, h2⟩ := cn_less (p := p) (n := n) (by omega)
      exact ⟨v, by omega, h2⟩
theorem s_turns {μ : HMem} {k : Nat} {G : HG} (hk : k < 6) (hn : G.1 ≤ 8) (h : RG (μ.1 126) (73 * k) G) {Q : Int32 → HMem → Prop} (hQ : ∀ many tn bg μ', Tu G.1 G.2.2 many tn bg → (∀ p, p < G.1 → μ'.1 134 p = nI (tn p)) → (∀ c, c ≤ many → μ'.1 136 c = nI (bg c)) → Fr 134 137 μ μ' → μ'.1 135 = μ.1 135 → Q (nI many) μ') : wp (f_Model_turns (nI k) μ) Q := by
  unfold f_Model_turns
  refine w_for (fun f i (y : Nat × Int32 × HMem) => wp (f_Model_turns_L7 f_Model_turns_J117 f (nI k) (nI i) (nI y.1) y.2.1 y.2.2) Q) (fun i y => TuI G.1 G.2.2 μ i y) G.1 ?_ ?_ 0 (0, 0, μ) (by omega) (by omega) ⟨fun _ => 0, fun _ => 0, fun v => by rw [b_0]; exact ⟨fun h => (by cases h), fun ⟨p, hp, _⟩ => absurd hp (Nat.not_lt_zero _)⟩, fun p hp => absurd hp (Nat.not_lt_zero _), fun p q hp => absurd hp (Nat.not_lt_zero _), cn_zero (fun i _ => b_0 i), fun _ => rfl, fun h => absurd h (Nat.not_lt_zero _), Nat.le_refl _, fun c hc => absurd hc (Nat.not_lt_zero _), fun c hc => absurd hc (Nat.not_lt_zero _), fun c v hc => absurd hc (Nat.not_lt_zero _), fun p hp => absurd hp (Nat.not_lt_zero _), fun c hc => absurd hc (Nat.not_lt_zero _), Fr.refl _ _ _, rfl⟩
  · rintro f ⟨many, ds, m⟩ ⟨tn, bg, g1, g2, g3, g4, g5, g6, g7, g8, g9, g10, g11, g12, g13, g14⟩
    show wp (f_Model_turns_L7_b f_Model_turns_J117 (f_Model_turns_L7 f_Model_turns_J117 f) (nI k) (nI G.1) (nI many) ds m) Q
    unfold f_Model_turns_L7_b f_Model_turns_J117
    replace g4 : cn (bt ds) G.1 = G.1 := g4
    replace g7 : many ≤ G.1 := g7
    replace g13 : Fr 134 137 μ m := g13
    replace g6 : 0 < G.1 → 0 < many ∧ bg 0 = 0 := g6
    replace g8 : ∀ c, c < many → bg c < G.1 := g8
    replace g9 : ∀ c, c + 1 < many → bg c < bg (c + 1) := g9
    replace g10 : ∀ c v, c < many → v < G.1 → (∀ p, p < bg c → ¬ tn p = v) → ∀ p, p < bg c → G.2.2 (tn p) v = 0 := g10
    replace g11 : ∀ p, p < G.1 → m.1 134 p = nI (tn p) := g11
    replace g12 : ∀ c, c < many → m.1 136 c = nI (bg c) := g12
    have hm : RG (m.1 126) (73 * k) G := by rw [g13.i (by omega)]; exact h
    refine w_bde (e_msize hk hm) ?_
    refine w_t (nI_le (Nat.le_refl _) (by omega)) ?_
    refine w_chk (in_N (by rw [show h_len 136 = 9 from rfl]; omega) (by decide)) ?_
    refine w_let ?_
    rw [cl_8 (by omega)]
    have b1 : ∀ c, c < many → (if c = many then G.1 else bg c) = bg c := fun c hc => if_neg (by omega)
    have b2 : (if many = many then G.1 else bg many) = G.1 := if_pos rfl
    refine w_ret (hQ many tn (fun c => if c = many then G.1 else bg c) _ ⟨g2, fun v hv => (g1 v).mp (cn_all g4 v hv), g3, g7, ?_, b2, fun c hc => ?_, fun c hc => ?_, fun c p q hc hp hq hqn => ?_⟩ (fun p hp => ?_) (fun c hc => ?_) (g13.trans (Fr.wi (a := 134) (b := 137) (by omega) (by omega)) (Nat.le_refl _) (Nat.le_refl _) (Nat.le_refl _) (Nat.le_refl _)) (by rw [wi_o _ _ (by omega)]; exact g14))
    · show (if 0 = many then G.1 else bg 0) = 0
      rcases Nat.eq_zero_or_pos G.1 with e | e
      · have : many = 0 := by omega
        rw [if_pos this.symm, e]
      · rw [if_neg (by have := (g6 e).1; omega)]
        exact (g6 e).2
    · show (if c = many then G.1 else bg c) < (if c + 1 = many then G.1 else bg (c + 1))
      rw [b1 c hc]
      by_cases e : c + 1 = many
      · rw [if_pos e]
        exact g8 c hc
      · rw [if_neg e]
        exact g9 c (by omega)
    · show (if c = many then G.1 else bg c) ≤ G.1
      by_cases e : c = many
      · rw [if_pos e]; omega
      · rw [if_neg e]
        have := g8 c (by omega)
        omega
    · replace hp : p < (if c = many then G.1 else bg c) := hp
      replace hq : (if c = many then G.1 else bg c) ≤ q := hq
      rw [b1 c hc] at hp hq
      have := g8 c hc
      exact g10 c (tn q) hc (g2 q hqn) (fun p' hp' e => by have := g3 p' q (by omega) hqn e; omega) p hp
    · rw [wi_o _ _ (by omega)]
      exact g11 p hp
    · show _ = nI (if c = many then G.1 else bg c)
      rw [wi_e]
      by_cases e : c = many
      · rw [if_pos ⟨rfl, e⟩, if_pos e]
      · rw [if_neg (by omega), if_neg e]
        exact g12 c (by omega)
  · rintro f i ⟨many, ds, m⟩ hi ⟨tn, bg, g1, g2, g3, g4, g5, g6, g7, g8, g9, g10, g11, g12, g13, g14⟩ ih
    show wp (f_Model_turns_L7_b f_Model_turns_J117 (f_Model_turns_L7 f_Model_turns_J117 f) (nI k) (nI i) (nI many) ds m) Q
    unfold f_Model_turns_L7_b
    replace g1 : ∀ v, bt ds v = true ↔ ∃ p, p < i ∧ tn p = v := g1
    replace g4 : cn (bt ds) G.1 = i := g4
    replace g5 : i = 0 → many = 0 := g5
    replace g7 : many ≤ i := g7
    replace g13 : Fr 134 137 μ m := g13
    replace g14 : m.1 135 = μ.1 135 := g14
    replace g6 : 0 < i → 0 < many ∧ bg 0 = 0 := g6
    replace g8 : ∀ c, c < many → bg c < i := g8
    replace g9 : ∀ c, c + 1 < many → bg c < bg (c + 1) := g9
    replace g10 : ∀ c v, c < many → v < G.1 → (∀ p, p < bg c → ¬ tn p = v) → ∀ p, p < bg c → G.2.2 (tn p) v = 0 := g10
    replace g11 : ∀ p, p < i → m.1 134 p = nI (tn p) := g11
    replace g12 : ∀ c, c < many → m.1 136 c = nI (bg c) := g12
    have hm : RG (m.1 126) (73 * k) G := by rw [g13.i (by omega)]; exact h
    refine w_bde (e_msize hk hm) ?_
    refine w_f (nI_ge hi (by omega)) ?_
    refine w_bde (e_msize hk hm) ?_
    refine w_let ?_
    have go : ∀ (many' : Nat) (bg' : Nat → Nat) (v : Nat) (m' : HMem), v < G.1 → bt ds v = false → 0 < many' → bg' 0 = 0 → many' ≤ i + 1 → (∀ c, c < many' → bg' c < i + 1) → (∀ c, c + 1 < many' → bg' c < bg' (c + 1)) → (∀ c v, c < many' → v < G.1 → (∀ p, p < bg' c → ¬ tn p = v) → ∀ p, p < bg' c → G.2.2 (tn p) v = 0) → (∀ p, p < i → m'.1 134 p = nI (tn p)) → (∀ c, c < many' → m'.1 136 c = nI (bg' c)) → Fr 134 137 μ m' → m'.1 135 = μ.1 135 → wp (f_Model_turns_J94 (f_Model_turns_L7 f_Model_turns_J117 f) (nI k) (nI i) (nI many') ds (nI v) m') Q := by
      intro many' bg' v m' hv hd k1 k2 k3 k4 k5 k6 k7 k8 k9 k10
      unfold f_Model_turns_J94
      refine w_chk (in_N (by rw [show h_len 134 = 8 from rfl]; omega) (by decide)) ?_
      refine w_let ?_
      refine w_let ?_
      refine w_let ?_
      rw [cl_8 (by omega), nI_1]
      have t1 : ∀ p, p < i → (if p = i then v else tn p) = tn p := fun p hp => if_neg (by omega)
      have hnew : ∀ p, p < i → ¬ tn p = v := fun p hp e => by
        have := (g1 v).mpr ⟨p, hp, e⟩
        rw [hd] at this
        cases this
      refine ih (many', ds ||| h_ishl 1 (nI v), h_wi m' 134 i (nI v)) ⟨fun p => if p = i then v else tn p, bg', fun w => ?_, fun p hp => ?_, fun p q hp hq e => ?_, ?_, fun e => by omega, fun _ => ⟨k1, k2⟩, k3, k4, k5, fun c w hc hw hno p hp => ?_, fun p hp => ?_, fun c hc => ?_, k9.trans (Fr.wi (a := 134) (b := 137) (by omega) (by omega)) (Nat.le_refl _) (Nat.le_refl _) (Nat.le_refl _) (Nat.le_refl _), ?_⟩
      · show bt (ds ||| h_ishl 1 (nI v)) w = true ↔ _
        rw [b_or, b_one (by omega), Bool.or_eq_true, g1 w, decide_eq_true_iff]
        constructor
        · rintro (⟨p, hp, e⟩ | e)
          · exact ⟨p, by omega, by show (if p = i then v else tn p) = w; rw [t1 p hp]; exact e⟩
          · exact ⟨i, by omega, by show (if i = i then v else tn i) = w; rw [if_pos rfl]; exact e.symm⟩
        · rintro ⟨p, hp, e⟩
          replace e : (if p = i then v else tn p) = w := e
          by_cases e2 : p = i
          · rw [if_pos e2] at e
            exact Or.inr e.symm
          · rw [if_neg e2] at e
            exact Or.inl ⟨p, by omega, e⟩
      · show (if p = i then v else tn p) < G.1
        by_cases e2 : p = i
        · rw [if_pos e2]; exact hv
        · rw [if_neg e2]; exact g2 p (by omega)
      · replace e : (if p = i then v else tn p) = (if q = i then v else tn q) := e
        by_cases e2 : p = i
        · by_cases e3 : q = i
          · omega
          · rw [if_pos e2, if_neg e3] at e
            exact absurd e.symm (hnew q (by omega))
        · by_cases e3 : q = i
          · rw [if_neg e2, if_pos e3] at e
            exact absurd e (hnew p (by omega))
          · rw [if_neg e2, if_neg e3] at e
            exact g3 p q (by omega) (by omega) e
      · show cn (bt (ds ||| h_ishl 1 (nI v))) G.1 = i + 1
        have e1 : bt (ds ||| h_ishl 1 (nI v)) v = true := by rw [b_or, b_one (by omega)]; simp
        rw [cn_drop e1 G.1 hv]
        have : cn (fun w => bt (ds ||| h_ishl 1 (nI v)) w && !decide (w = v)) G.1 = cn (bt ds) G.1 := cn_ext (fun w _ => by
          rw [b_or, b_one (by omega)]
          by_cases e : w = v
          · rw [e, hd]; simp
          · simp [e])
        rw [this, g4]
      · have hb := k4 c hc
        replace hno : ∀ p, p < bg' c → ¬ (if p = i then v else tn p) = w := hno
        show G.2.2 (if p = i then v else tn p) w = 0
        rw [t1 p (by omega)]
        exact k6 c w hc hw (fun q hq => by have := hno q hq; rwa [t1 q (by omega)] at this) p hp
      · show (h_wi m' 134 i (nI v)).1 134 p = nI (if p = i then v else tn p)
        rw [wi_e]
        by_cases e : p = i
        · rw [if_pos ⟨rfl, e⟩, if_pos e]
        · rw [if_neg (by omega), if_neg e]
          exact k7 p (by omega)
      · show (h_wi m' 134 i (nI v)).1 136 c = _
        rw [wi_o _ _ (by omega)]
        exact k8 c hc
      · show (h_wi m' 134 i (nI v)).1 135 = _
        rw [wi_o _ _ (by omega)]
        exact k10
    refine w_down (fun f2 j (x : Int32) => wp (f_Model_turns_L28 (f_Model_turns_J71 (f_Model_turns_L7 f_Model_turns_J117 f)) f2 (nI k) (nI i) (nI many) ds x (nI j - 1) m) Q) (fun j x => j ≤ G.1 ∧ ((x = -1 ∧ ∀ v, j ≤ v → v < G.1 → bt ds v = false → ∀ u, u < G.1 → bt ds u = true → G.2.2 u v = 0) ∨ (∃ v, v < G.1 ∧ x = nI v ∧ bt ds v = false ∧ ∃ u, bt ds u = true))) ?_ ?_ G.1 (-1) (by omega) ⟨Nat.le_refl _, Or.inl ⟨rfl, fun v h1 h2 => by omega⟩⟩
    · rintro f2 x ⟨_, hx⟩
      show wp (f_Model_turns_L28_b (f_Model_turns_J71 (f_Model_turns_L7 f_Model_turns_J117 f)) (f_Model_turns_L28 (f_Model_turns_J71 (f_Model_turns_L7 f_Model_turns_J117 f)) f2) (nI k) (nI i) (nI many) ds x (nI 0 - 1) m) Q
      unfold f_Model_turns_L28_b f_Model_turns_J71
      refine w_t dn0 ?_
      rcases hx with ⟨rfl, hx⟩ | ⟨v, hv, rfl, hd, u, hu⟩
      · refine w_f (fun h => h rfl) ?_
        obtain ⟨w, hw, hwd⟩ := cn_less (p := bt ds) (n := G.1) (by omega)
        refine w_bdk (s_lowestOut (by omega) hwd (fun v hv hvd => ?_))
        refine w_chk (in_N (by rw [show h_len 136 = 9 from rfl]; omega) (by decide)) ?_
        refine w_let ?_
        refine w_let ?_
        rw [cl_8 (by omega), nI_1]
        have b1 : ∀ c, c < many → (if c = many then i else bg c) = bg c := fun c hc => if_neg (by omega)
        refine go (many + 1) (fun c => if c = many then i else bg c) v _ (by omega) hvd (by omega) ?_ (by omega) (fun c hc => ?_) (fun c hc => ?_) (fun c w' hc hw' hno p hp => ?_) (fun p hp => ?_) (fun c hc => ?_) (g13.trans (Fr.wi (a := 134) (b := 137) (by omega) (by omega)) (Nat.le_refl _) (Nat.le_refl _) (Nat.le_refl _) (Nat.le_refl _)) (by rw [wi_o _ _ (by omega)]; exact g14)
        · show (if 0 = many then i else bg 0) = 0
          rcases Nat.eq_zero_or_pos i with e | e
          · rw [if_pos (g5 e).symm, e]
          · rw [if_neg (by have := (g6 e).1; omega)]
            exact (g6 e).2
        · show (if c = many then i else bg c) < i + 1
          by_cases e : c = many
          · rw [if_pos e]; omega
          · rw [if_neg e]
            have := g8 c (by omega)
            omega
        · show (if c = many then i else bg c) < (if c + 1 = many then i else bg (c + 1))
          rw [b1 c (by omega)]
          by_cases e : c + 1 = many
          · rw [if_pos e]; exact g8 c (by omega)
          · rw [if_neg e]; exact g9 c (by omega)
        · replace hno : ∀ p, p < (if c = many then i else bg c) → ¬ tn p = w' := hno
          replace hp : p < (if c = many then i else bg c) := hp
          by_cases e : c = many
          · rw [if_pos e] at hno hp
            have hwd' : bt ds w' = false := by
              cases hb : bt ds w' with
              | false => rfl
              | true =>
                obtain ⟨p', hp', e'⟩ := (g1 w').mp hb
                exact absurd e' (hno p' hp')
            exact hx w' (by omega) hw' hwd' (tn p) (g2 p hp) ((g1 (tn p)).mpr ⟨p, hp, rfl⟩)
          · rw [if_neg e] at hno hp
            exact g10 c w' (by omega) hw' hno p hp
        · rw [wi_o _ _ (by omega)]
          exact g11 p hp
        · show _ = nI (if c = many then i else bg c)
          rw [wi_e]
          by_cases e : c = many
          · rw [if_pos ⟨rfl, e⟩, if_pos e]
          · rw [if_neg (by omega), if_neg e]
            exact g12 c (by omega)
      · refine w_t (dnN (by omega)) ?_
        obtain ⟨p, hp, _⟩ := (g1 u).mp hu
        have hi0 : 0 < i := by omega
        exact go many bg v m hv hd (g6 hi0).1 (g6 hi0).2 (by omega) (fun c hc => by have := g8 c hc; omega) g9 g10 g11 g12 g13 g14
    · rintro f2 j x ⟨hj, hx⟩ ih2
      show wp (f_Model_turns_L28_b (f_Model_turns_J71 (f_Model_turns_L7 f_Model_turns_J117 f)) (f_Model_turns_L28 (f_Model_turns_J71 (f_Model_turns_L7 f_Model_turns_J117 f)) f2) (nI k) (nI i) (nI many) ds x (nI (j + 1) - 1) m) Q
      unfold f_Model_turns_L28_b f_Model_turns_J61 f_Model_turns_J63
      refine w_f (dnS (by omega)) ?_
      rw [nI_pred]
      have same : (bt ds j = false → ∀ u, u < G.1 → bt ds u = true → G.2.2 u j = 0) → wp (h_let (nI j + (-1)) (fun v6_65 => f_Model_turns_L28 (f_Model_turns_J71 (f_Model_turns_L7 f_Model_turns_J117 f)) f2 (nI k) (nI i) (nI many) ds x v6_65 m)) Q := by
        intro hs
        refine w_let ?_
        rw [dn]
        refine ih2 x ⟨by omega, ?_⟩
        rcases hx with ⟨e, hx⟩ | hx
        · refine Or.inl ⟨e, fun v h1 h2 h3 => ?_⟩
          rcases Nat.lt_or_ge j v with h4 | h4
          · exact hx v h4 h2 h3
          · have : v = j := by omega
            subst this
            exact hs h3
        · exact Or.inr hx
      refine w_if (fun h1 => ?_) (fun h1 => ?_)
      · refine same (fun hd => ?_)
        exact absurd ((b_ask ds (by omega)).mpr hd) h1
      · have h1 := (b_ask ds (by omega)).mp (Classical.not_not.mp h1)
        refine w_bdk (s_near hk hn hm (by omega) (fun r hr => ?_))
        refine w_if (fun h2 => ?_) (fun h2 => ?_)
        · refine same (fun _ u hu hud => ?_)
          refine Classical.byContradiction (fun hE => ?_)
          have h3 := b_eq0.mp h2 u (by omega)
          rw [b_and, hud, Bool.and_true] at h3
          rw [(hr u).mpr ⟨hu, hE⟩] at h3
          cases h3
        · have : ∃ u, bt ds u = true := by
            refine Classical.byContradiction (fun hc => h2 (b_eq0.mpr (fun u _ => ?_)))
            rw [b_and]
            cases hb : bt ds u with
            | false => rw [Bool.and_false]
            | true => exact absurd ⟨u, hb⟩ hc
          refine w_let ?_
          rw [dn]
          exact ih2 (nI j) ⟨by omega, Or.inr ⟨j, by omega, rfl, h1, this⟩⟩
