/-! 58: eliminations: what they are; the class -/
abbrev ES : Type := (Nat → Nat → Bool) × (Nat → Bool) × Nat × Nat
def elA (n : Nat) (E : Nat → Nat → Int32) : Nat → Nat → Bool := fun a b => decide (a < n) && (decide (b < n) && (!decide (E a b = 0) && !decide (a = b)))
def elO (s : ES) (v : Nat) : Nat → Bool := fun u => s.1 v u && s.2.1 u
def elF (s : ES) (v : Nat) : Nat := sm (fun u => cn (fun w => elO s v u && (elO s v w && !s.1 u w)) u) 8
def elT (s : ES) (v : Nat) : ES := (fun a b => s.1 a b || (elO s v a && (elO s v b && !decide (a = b))), fun u => s.2.1 u && !decide (u = v), max s.2.2.1 (cn (elO s v) 8 + 1), s.2.2.2 + elF s v)
noncomputable def elP (s : ES) : Nat := lst (fun v => s.2.1 v = true ∧ ∀ w, s.2.1 w = true → cn (elO s v) 8 ≤ cn (elO s w) 8) 8
noncomputable def elV (gr : Bool) (ord : Nat → Nat) (s : ES) (p : Nat) : Nat := if gr then elP s else ord p
noncomputable def elR (n : Nat) (E : Nat → Nat → Int32) (gr : Bool) (ord : Nat → Nat) : Nat → ES
  | 0 => (elA n E, fun v => decide (v < n), 0, 0)
  | p + 1 => elT (elR n E gr ord p) (elV gr ord (elR n E gr ord p) p)
def elI (n : Nat) (s : ES) : Prop := (∀ a b, s.1 a b = s.1 b a) ∧ (∀ a b, s.1 a b = true → a < n ∧ b < n ∧ a ≠ b) ∧ (∀ v, s.2.1 v = true → v < n) ∧ s.2.2.1 ≤ 9
theorem elO_lt {n : Nat} {s : ES} (h : elI n s) {v u : Nat} (hu : elO s v u = true) : u < n ∧ u ≠ v ∧ s.2.1 u = true := by
  unfold elO at hu
  rw [Bool.and_eq_true] at hu
  obtain ⟨_, h2, h3⟩ := h.2.1 v u hu.1
  exact ⟨h2, fun e => h3 e.symm, hu.2⟩
theorem elI_0 {G : HG} (hV : GV G) (gr : Bool) (ord : Nat → Nat) : elI G.1 (elR G.1 G.2.2 gr ord 0) := by
  refine ⟨fun a b => ?_, fun a b h => ?_, fun v h => ?_, Nat.zero_le _⟩
  · show elA G.1 G.2.2 a b = elA G.1 G.2.2 b a
    unfold elA
    by_cases ha : a < G.1
    · by_cases hb : b < G.1
      · rw [(hV.2.2 a b ha hb).1]
        have : decide (a = b) = decide (b = a) := by
          by_cases e : a = b
          · simp [e]
          · have e' : ¬ b = a := fun h => e h.symm
            simp [e, e']
        rw [this]
        simp [ha, hb]
      · simp [hb]
    · simp [ha]
  · have h' : elA G.1 G.2.2 a b = true := h
    unfold elA at h'
    simp at h'
    exact ⟨h'.1, h'.2.1, h'.2.2.2⟩
  · have h' : decide (v < G.1) = true := h
    simpa using h'
theorem elI_T {n : Nat} (hn : n ≤ 8) {s : ES} (h : elI n s) (v : Nat) : elI n (elT s v) := by
  obtain ⟨h1, h2, h3, h4⟩ := h
  have h0 : elI n s := ⟨h1, h2, h3, h4⟩
  refine ⟨fun a b => ?_, fun a b hab => ?_, fun u hu => ?_, ?_⟩
  · show (s.1 a b || (elO s v a && (elO s v b && !decide (a = b)))) = (s.1 b a || (elO s v b && (elO s v a && !decide (b = a))))
    rw [h1 a b]
    have : decide (a = b) = decide (b = a) := by
      by_cases e : a = b
      · simp [e]
      · have e' : ¬ b = a := fun h => e h.symm
        simp [e, e']
    rw [this]
    cases elO s v a <;> cases elO s v b <;> simp
  · have hab' : (s.1 a b || (elO s v a && (elO s v b && !decide (a = b)))) = true := hab
    rw [Bool.or_eq_true] at hab'
    rcases hab' with hh | hh
    · exact h2 a b hh
    · rw [Bool.and_eq_true, Bool.and_eq_true] at hh
      refine ⟨(elO_lt h0 hh.1).1, (elO_lt h0 hh.2.1).1, by simpa using hh.2.2⟩
  · have hu' : (s.2.1 u && !decide (u = v)) = true := hu
    rw [Bool.and_eq_true] at hu'
    exact h3 u hu'.1
  · show max s.2.2.1 (cn (elO s v) 8 + 1) ≤ 9
    have := cn_le (elO s v) 8
    omega
theorem elI_R {G : HG} (hV : GV G) (gr : Bool) (ord : Nat → Nat) : ∀ p, elI G.1 (elR G.1 G.2.2 gr ord p)
  | 0 => elI_0 hV gr ord
  | p + 1 => elI_T hV.1 (elI_R hV gr ord p) _
theorem elL_R {n : Nat} {E : Nat → Nat → Int32} {gr : Bool} {ord : Nat → Nat} : ∀ p v, (elR n E gr ord p).2.1 v = true ↔ v < n ∧ ∀ q, q < p → v ≠ elV gr ord (elR n E gr ord q) q
  | 0, v => by
    show decide (v < n) = true ↔ _
    rw [decide_eq_true_iff]
    exact ⟨fun h => ⟨h, fun q hq => absurd hq (Nat.not_lt_zero _)⟩, fun h => h.1⟩
  | p + 1, v => by
    show ((elR n E gr ord p).2.1 v && !decide (v = elV gr ord (elR n E gr ord p) p)) = true ↔ _
    rw [Bool.and_eq_true, elL_R p v, Bool.not_eq_true', decide_eq_false_iff_not]
    constructor
    · rintro ⟨⟨h1, h2⟩, h3⟩
      refine ⟨h1, fun q hq => ?_⟩
      rcases Nat.lt_or_ge q p with h4 | h4
      · exact h2 q h4
      · have : q = p := by omega
        subst this
        exact h3
    · rintro ⟨h1, h2⟩
      exact ⟨⟨h1, fun q hq => h2 q (by omega)⟩, h2 p (by omega)⟩
/-- how many are left -/
theorem elC_R {n : Nat} (hn : n ≤ 8) {E : Nat → Nat → Int32} {gr : Bool} {ord : Nat → Nat} : ∀ p, (∀ q, q < p → (elR n E gr ord q).2.1 (elV gr ord (elR n E gr ord q) q) = true) → cn (elR n E gr ord p).2.1 8 + p = n
  | 0, _ => by
    show cn (fun v => decide (v < n)) 8 + 0 = n
    have := cn_add (p := fun v => decide (v < n)) n (8 - n) (fun i h1 _ => by
      have : ¬ i < n := by omega
      simp [this])
    rw [show n + (8 - n) = 8 by omega] at this
    rw [this, cn_ext (q := fun _ => true) (fun i hi => by simp [hi]), cn_true]
    rfl
  | p + 1, h => by
    have ih := elC_R hn p (fun q hq => h q (by omega))
    have hv := h p (by omega)
    have h8 : elV gr ord (elR n E gr ord p) p < 8 := by
      have := ((elL_R p _).mp hv).1
      omega
    have := cn_drop hv 8 h8
    show cn (fun u => (elR n E gr ord p).2.1 u && !decide (u = elV gr ord (elR n E gr ord p) p)) 8 + (p + 1) = n
    omega
theorem cn_min {L : Nat → Bool} (d : Nat → Nat) : ∀ k, (∃ v, L v = true ∧ d v ≤ k) → ∃ v, L v = true ∧ ∀ w, L w = true → d v ≤ d w
  | 0, ⟨v, h1, h2⟩ => ⟨v, h1, fun w _ => by omega⟩
  | k + 1, ⟨v, h1, h2⟩ => by
    by_cases h : ∃ v, L v = true ∧ d v ≤ k
    · exact cn_min d k h
    · refine ⟨v, h1, fun w hw => ?_⟩
      have : ¬ d w ≤ k := fun hk => h ⟨w, hw, hk⟩
      omega
theorem elP_sp {n : Nat} (hn : n ≤ 8) {s : ES} (h : elI n s) (hne : 0 < cn s.2.1 8) : s.2.1 (elP s) = true ∧ (∀ w, s.2.1 w = true → cn (elO s (elP s)) 8 ≤ cn (elO s w) 8) ∧ (∀ w, w < elP s → s.2.1 w = true → cn (elO s (elP s)) 8 < cn (elO s w) 8) := by
  have hex : ∃ v, s.2.1 v = true := by
    refine Classical.byContradiction (fun hc => ?_)
    have := cn_zero (p := s.2.1) (n := 8) (fun i _ => by
      cases hb : s.2.1 i with
      | false => rfl
      | true => exact absurd ⟨i, hb⟩ hc)
    omega
  obtain ⟨v0, hv0⟩ := hex
  obtain ⟨v, hv, hm⟩ := cn_min (L := s.2.1) (fun v => cn (elO s v) 8) (cn (elO s v0) 8) ⟨v0, hv0, Nat.le_refl _⟩
  rcases lst_sp (fun v => s.2.1 v = true ∧ ∀ w, s.2.1 w = true → cn (elO s v) 8 ≤ cn (elO s w) 8) 8 with ⟨a, b, c⟩ | ⟨_, b⟩
  · refine ⟨b.1, b.2, fun w hw hl => ?_⟩
    have h1 := b.2 w hl
    rcases Nat.lt_or_ge (cn (elO s (elP s)) 8) (cn (elO s w) 8) with h2 | h2
    · exact h2
    · exact absurd ⟨hl, fun u hu => Nat.le_trans h2 (b.2 u hu)⟩ (c w hw)
  · have := h.2.2.1 v hv
    exact absurd ⟨hv, hm⟩ (b v (by omega))
/-- the same vertex by another description -/
theorem elP_eq {s : ES} {v : Nat} (h8 : v < 8) (h1 : s.2.1 v = true) (h2 : ∀ w, s.2.1 w = true → cn (elO s v) 8 ≤ cn (elO s w) 8) (h3 : ∀ w, w < v → s.2.1 w = true → cn (elO s v) 8 < cn (elO s w) 8) : elP s = v := by
  refine lst_eq h8 ⟨h1, h2⟩ (fun u hu hc => ?_)
  have a := h3 u hu hc.1
  have b := hc.2 v h1
  omega
theorem pairs2 {P : Nat → Nat → Bool} : ∀ n, (∀ u w, u < n → w < n → P u w = P w u) → sm (fun u => cn (fun w => P u w && !decide (w = u)) n) n = 2 * sm (fun u => cn (fun w => P u w) u) n
  | 0, _ => rfl
  | n + 1, h => by
    have ih := pairs2 n (fun u w hu hw => h u w (by omega) (by omega))
    show sm (fun u => cn (fun w => P u w && !decide (w = u)) n + (if (P u n && !decide (n = u)) = true then 1 else 0)) n + (cn (fun w => P n w && !decide (w = n)) n + (if (P n n && !decide (n = n)) = true then 1 else 0)) = 2 * (sm (fun u => cn (fun w => P u w) u) n + cn (fun w => P n w) n)
    rw [sm_add, ih]
    have e1 : sm (fun u => if (P u n && !decide (n = u)) = true then 1 else 0) n = cn (fun w => P n w) n := by
      rw [cn_sm]
      refine sm_ext (fun u hu => ?_)
      have : ¬ n = u := by omega
      rw [h u n (by omega) (by omega)]
      simp [this]
    have e2 : cn (fun w => P n w && !decide (w = n)) n = cn (fun w => P n w) n := cn_ext (fun w hw => by
      have : ¬ w = n := by omega
      simp [this])
    rw [e1, e2]
    simp
    omega
theorem sm_z {f : Nat → Nat} (n : Nat) : ∀ d, (∀ i, n ≤ i → i < n + d → f i = 0) → sm f (n + d) = sm f n
  | 0, _ => rfl
  | d + 1, h => by
    show sm f (n + d) + f (n + d) = _
    rw [sm_z n d (fun i h1 h2 => h i h1 (by omega)), h (n + d) (by omega) (by omega)]
    rfl
theorem mx_k : ∀ W, W < 10 → ∀ c, c < 9 → h_mmax (nI W - 1) (nI c) = nI (max W (c + 1)) - 1 := by decide +kernel
theorem mx_r : ∀ W, W < 10 → ∀ c, c < 9 → (if nI c ≤ nI W - 1 then nI W - 1 else nI c) = nI (max W (c + 1)) - 1 := by decide +kernel
/-- the class's state of an elimination -/
def PC (n : Nat) (s : ES) (m : HMem) : Prop := (∀ u, u < n → s.2.1 u = true → ∀ w, bt (m.1 95 u) w = (s.1 u w && s.2.1 w)) ∧ (∀ u, u < n → S8 (m.1 95 u)) ∧ m.1 92 2 = nI s.2.2.1 - 1 ∧ m.1 92 3 = nI s.2.2.2
theorem s_begin {μ : HMem} {g : Nat} {G : HG} (hg : IsG g) (h : CG μ g G) (hV : GV G) (gr : Bool) (ord : Nat → Nat) {Q : Unit → HMem → Prop} (hQ : ∀ μ', PC G.1 (elR G.1 G.2.2 gr ord 0) μ' → Fr 92 96 μ μ' → μ'.1 93 = μ.1 93 → Q () μ') : wp (f_Elimination_begin g μ) Q := by
  have hn := hV.1
  have hg2 := hg.2
  unfold f_Elimination_begin
  refine w_let ?_
  refine w_let ?_
  have f0 : Fr 92 93 μ (h_wi (h_wi μ 92 2 (-1)) 92 3 0) := (Fr.wi (a := 92) (b := 93) (by omega) (by omega)).trans (Fr.wi (by omega) (by omega)) (Nat.le_refl 92) (Nat.le_refl 93) (Nat.le_refl 92) (Nat.le_refl 93)
  have q1 : (h_wi (h_wi μ 92 2 (-1)) 92 3 0).1 92 2 = -1 := by rw [wi_n _ _ (by omega), wi_s]
  have q2 : (h_wi (h_wi μ 92 2 (-1)) 92 3 0).1 92 3 = 0 := wi_s _ _ _ _
  generalize h_wi (h_wi μ 92 2 (-1)) 92 3 0 = m0 at f0 q1 q2
  have h0 := h.fr f0 (by omega)
  refine w_for (fun f i (m : HMem) => wp (f_Elimination_begin_L12 f g (nI i) m) Q) (fun i m => Fr 95 96 m0 m ∧ ∀ u, u < i → ∀ w, bt (m.1 95 u) w = elA G.1 G.2.2 u w) G.1 ?_ ?_ 0 m0 (by omega) (by omega) ⟨Fr.refl _ _ _, fun u hu => absurd hu (Nat.not_lt_zero _)⟩
  · rintro f m ⟨g1, g2⟩
    show wp (f_Elimination_begin_L12_b (f_Elimination_begin_L12 f) g (nI G.1) m) Q
    unfold f_Elimination_begin_L12_b
    refine w_t (by rw [(h0.fr g1 (by omega)).1]; exact Int32.le_refl _) ?_
    refine w_ret (hQ m ⟨fun u hu _ w => ?_, fun u hu i hi => ?_, ?_, ?_⟩ (f0.trans g1 (by omega) (by omega) (by omega) (by omega)) ?_)
    · rw [g2 u hu w]
      show _ = (elA G.1 G.2.2 u w && decide (w < G.1))
      unfold elA
      by_cases hw : w < G.1
      · simp [hw]
      · simp [hw]
    · rw [g2 u hu]
      unfold elA
      have : ¬ i < G.1 := by omega
      simp [this]
    · rw [g1.i (by omega), q1]; rfl
    · rw [g1.i (by omega), q2]; rfl
    · rw [g1.i (by omega), f0.i (by omega)]
  · rintro f i m hi ⟨g1, g2⟩ ih
    show wp (f_Elimination_begin_L12_b (f_Elimination_begin_L12 f) g (nI i) m) Q
    unfold f_Elimination_begin_L12_b
    have hm := h0.fr g1 (by omega)
    refine w_f (by rw [hm.1]; exact nI_ge hi (by omega)) ?_
    refine w_chk (by rw [len_3 hg]; exact in_N (by omega) (by omega)) ?_
    refine w_chk (in_N (by rw [show h_len 95 = 8 from rfl]; omega) (by decide)) ?_
    refine w_let ?_
    refine w_let ?_
    rw [nI_1, cl_8 (by omega)]
    refine ih _ ⟨g1.trans (Fr.wi (by omega) (by omega)) (Nat.le_refl _) (Nat.le_refl _) (Nat.le_refl 95) (Nat.le_refl 96), fun u hu w => ?_⟩
    rw [wi_e]
    by_cases e : u = i
    · rw [if_pos ⟨rfl, e⟩, e, b_not, b_one (by omega)]
      have h4 := hm.2.2.2 i w (by omega)
      unfold elA
      cases hb : bt (m.1 (g + 3) i) w with
      | true =>
        obtain ⟨_, h5, h6⟩ := h4.mp hb
        have : decide (w = i) = decide (i = w) := by
          by_cases e : w = i
          · simp [e]
          · have e' : ¬ i = w := fun h => e h.symm
            simp [e, e']
        simp [hi, h5, h6, this]
      | false =>
        by_cases h5 : w < G.1
        · have : G.2.2 i w = 0 := Classical.byContradiction (fun hc => by rw [h4.mpr ⟨hi, h5, hc⟩] at hb; cases hb)
          simp [this]
        · simp [h5]
    · rw [if_neg (by omega)]; exact g2 u (by omega) w
theorem s_eliminate {μ : HMem} {n : Nat} (hn : n ≤ 8) {s : ES} (hs : elI n s) (h : PC n s μ) {v : Nat} (hv : s.2.1 v = true) {Q : Unit → HMem → Prop} (hQ : ∀ μ', PC n (elT s v) μ' → Fr 92 96 μ μ' → μ'.1 93 = μ.1 93 → (∀ w, bt (μ'.1 94 v) w = (elO s v w || decide (w = v))) → (∀ u, u ≠ v → μ'.1 94 u = μ.1 94 u) → Q () μ') : wp (f_Elimination_eliminate (nI v) (nI n) μ) Q := by
  obtain ⟨p1, p2, p3, p4⟩ := h
  have hvn := hs.2.2.1 v hv
  have hO : ∀ w, bt (μ.1 95 v) w = elO s v w := fun w => p1 v hvn hv w
  have hO8 := p2 v hvn
  unfold f_Elimination_eliminate
  rw [cl_8 (by omega)]
  refine w_chk (in_N (by rw [show h_len 95 = 8 from rfl]; omega) (by decide)) ?_
  refine w_let ?_
  refine w_chk (in_N (by rw [show h_len 94 = 8 from rfl]; omega) (by decide)) ?_
  refine w_let ?_
  refine w_bde (f_bitCount hO8 _) ?_
  refine w_let ?_
  have hbt : bt (μ.1 95 v) = elO s v := funext hO
  rw [wi_o _ _ (by omega), p3, hbt, mx_k _ (by have := hs.2.2.2; omega) _ (by have := cn_le (elO s v) 8; omega)]
  have f0 : Fr 92 95 μ (h_wi (h_wi μ 94 v (μ.1 95 v ||| h_ishl 1 (nI v))) 92 2 (nI (max s.2.2.1 (cn (elO s v) 8 + 1)) - 1)) := (Fr.wi (a := 92) (b := 95) (by omega) (by omega)).trans (Fr.wi (by omega) (by omega)) (Nat.le_refl 92) (Nat.le_refl 95) (Nat.le_refl 92) (Nat.le_refl 95)
  have q0 : (h_wi (h_wi μ 94 v (μ.1 95 v ||| h_ishl 1 (nI v))) 92 2 (nI (max s.2.2.1 (cn (elO s v) 8 + 1)) - 1)).1 93 = μ.1 93 := by rw [wi_o _ _ (by omega), wi_o _ _ (by omega)]
  have q1 : (h_wi (h_wi μ 94 v (μ.1 95 v ||| h_ishl 1 (nI v))) 92 2 (nI (max s.2.2.1 (cn (elO s v) 8 + 1)) - 1)).1 92 2 = nI (max s.2.2.1 (cn (elO s v) 8 + 1)) - 1 := wi_s _ _ _ _
  have q2 : (h_wi (h_wi μ 94 v (μ.1 95 v ||| h_ishl 1 (nI v))) 92 2 (nI (max s.2.2.1 (cn (elO s v) 8 + 1)) - 1)).1 92 3 = nI s.2.2.2 := by rw [wi_n _ _ (by omega), wi_o _ _ (by omega)]; exact p4
  have q3 : ∀ w, bt ((h_wi (h_wi μ 94 v (μ.1 95 v ||| h_ishl 1 (nI v))) 92 2 (nI (max s.2.2.1 (cn (elO s v) 8 + 1)) - 1)).1 94 v) w = (elO s v w || decide (w = v)) := by
    intro w
    rw [wi_o _ _ (by omega), wi_s, b_or, hO w, b_one (by omega)]
  have q4 : ∀ u, u ≠ v → (h_wi (h_wi μ 94 v (μ.1 95 v ||| h_ishl 1 (nI v))) 92 2 (nI (max s.2.2.1 (cn (elO s v) 8 + 1)) - 1)).1 94 u = μ.1 94 u := by
    intro u hu
    rw [wi_o _ _ (by omega), wi_n _ _ (by omega)]
  have q5 : (h_wi (h_wi μ 94 v (μ.1 95 v ||| h_ishl 1 (nI v))) 92 2 (nI (max s.2.2.1 (cn (elO s v) 8 + 1)) - 1)).1 95 = μ.1 95 := f0.i (by omega)
  generalize h_wi (h_wi μ 94 v (μ.1 95 v ||| h_ishl 1 (nI v))) 92 2 (nI (max s.2.2.1 (cn (elO s v) 8 + 1)) - 1) = m0 at f0 q0 q1 q2 q3 q4 q5
  generalize μ.1 95 v = oth at hO
  refine w_for (fun f u (x : Nat × HMem) => wp (f_Elimination_eliminate_L39 f_Elimination_eliminate_J113 f (nI v) (nI n) oth (nI x.1) (nI u) x.2) Q) (fun u x => x.1 = sm (fun u => cn (fun w => (elO s v u && (elO s v w && !s.1 u w)) && !decide (w = u)) 8) u ∧ Fr 95 96 m0 x.2 ∧ (∀ a, a < n → ∀ w, bt (x.2.1 95 a) w = if a < u ∧ elO s v a = true then (bt (μ.1 95 a) w || (elO s v w && !decide (w = a))) && !decide (w = v) else bt (μ.1 95 a) w)) n ?_ ?_ 0 (0, m0) (by omega) (by omega) ⟨rfl, Fr.refl _ _ _, fun a ha w => by rw [q5, if_neg (by omega)]⟩
  · rintro f ⟨_, m⟩ ⟨rfl, g1, g2⟩
    show wp (f_Elimination_eliminate_L39_b f_Elimination_eliminate_J113 (f_Elimination_eliminate_L39 f_Elimination_eliminate_J113 f) (nI v) (nI n) oth (nI _) (nI n) m) Q
    unfold f_Elimination_eliminate_L39_b f_Elimination_eliminate_J113
    refine w_t (Int32.le_refl _) ?_
    refine w_f (by decide) ?_
    refine w_let ?_
    have hM : sm (fun u => cn (fun w => (elO s v u && (elO s v w && !s.1 u w)) && !decide (w = u)) 8) n = 2 * elF s v := by
      have e1 := sm_z (f := fun u => cn (fun w => (elO s v u && (elO s v w && !s.1 u w)) && !decide (w = u)) 8) n (8 - n) (fun i h1 _ => cn_zero (fun w _ => by
        cases hb : elO s v i with
        | false => simp
        | true => have := (elO_lt hs hb).1; omega))
      rw [show n + (8 - n) = 8 by omega] at e1
      rw [← e1]
      exact pairs2 (P := fun u w => elO s v u && (elO s v w && !s.1 u w)) 8 (fun u w _ _ => by
        show (elO s v u && (elO s v w && !s.1 u w)) = (elO s v w && (elO s v u && !s.1 w u))
        rw [hs.1 u w]
        cases elO s v u <;> cases elO s v w <;> simp)
    have hF : elF s v ≤ 8 * 8 := sm_le (fun i hi => Nat.le_trans (cn_le _ _) (by omega))
    rw [hM, g1.i (by omega), q2, show (2 : Int32) = nI 2 from rfl, pk_div (by omega) (by omega) (by omega), Nat.mul_div_cancel_left _ (by omega), nI_add]
    have f2 : Fr 92 93 m (h_wi m 92 3 (nI (s.2.2.2 + elF s v))) := Fr.wi (by omega) (by omega)
    have fm : Fr 92 96 μ m := f0.trans g1 (by omega) (by omega) (by omega) (by omega)
    refine w_ret (hQ _ ⟨fun u hu hl w => ?_, fun u hu i hi => ?_, ?_, ?_⟩ (fm.trans f2 (Nat.le_refl 92) (Nat.le_refl 96) (by omega) (by omega)) ?_ ?_ ?_)
    · rw [f2.i (by omega), g2 u hu w]
      have hl' : (s.2.1 u && !decide (u = v)) = true := hl
      rw [Bool.and_eq_true, Bool.not_eq_true', decide_eq_false_iff_not] at hl'
      have hp := p1 u hu hl'.1 w
      show _ = ((s.1 u w || (elO s v u && (elO s v w && !decide (u = w)))) && (s.2.1 w && !decide (w = v)))
      have hd : decide (w = u) = decide (u = w) := by
        by_cases e : w = u
        · simp [e]
        · have e' : ¬ u = w := fun h => e h.symm
          simp [e, e']
      cases ho : elO s v u with
      | true =>
        rw [if_pos ⟨hu, rfl⟩, hp, hd]
        cases hw : elO s v w with
        | true =>
          have := (elO_lt hs hw).2.2
          rw [this]
          simp
        | false => simp; cases s.1 u w <;> cases s.2.1 w <;> simp
      | false =>
        rw [if_neg (fun h => by cases h.2), hp]
        by_cases ewv : w = v
        · subst ewv
          have : s.1 u w = false := by
            cases hb : s.1 u w with
            | false => rfl
            | true =>
              unfold elO at ho
              rw [hs.1 w u, hb, hl'.1] at ho
              cases ho
          simp [this]
        · simp [ewv]
    · rw [f2.i (by omega), g2 u hu i]
      have h1 := p2 u hu i hi
      have h2 : elO s v i = false := by
        cases hb : elO s v i with
        | false => rfl
        | true => have := (elO_lt hs hb).1; omega
      rw [h1, h2]
      split <;> rfl
    · rw [wi_n _ _ (by omega), g1.i (by omega), q1]; rfl
    · rw [wi_s]; rfl
    · rw [f2.i (by omega), g1.i (by omega), q0]
    · intro w; rw [f2.i (by omega), g1.i (by omega)]; exact q3 w
    · intro u hu; rw [f2.i (by omega), g1.i (by omega)]; exact q4 u hu
  · rintro f u ⟨_, m⟩ hu ⟨rfl, g1, g2⟩ ih
    show wp (f_Elimination_eliminate_L39_b f_Elimination_eliminate_J113 (f_Elimination_eliminate_L39 f_Elimination_eliminate_J113 f) (nI v) (nI n) oth (nI _) (nI u) m) Q
    unfold f_Elimination_eliminate_L39_b f_Elimination_eliminate_J107
    replace g2 : ∀ a, a < n → ∀ w, bt (m.1 95 a) w = if a < u ∧ elO s v a = true then (bt (μ.1 95 a) w || (elO s v w && !decide (w = a))) && !decide (w = v) else bt (μ.1 95 a) w := g2
    refine w_f (nI_ge hu (by omega)) ?_
    refine w_bde (e_has _ (by omega) _) ?_
    rw [hO u]
    refine w_if (fun hb => ?_) (fun hb => ?_)
    · rw [bI_0] at hb
      refine w_let ?_
      rw [nI_1]
      refine ih (_, m) ⟨?_, g1, fun a ha w => ?_⟩
      · show sm _ u = sm _ u + cn _ 8
        rw [cn_zero (fun w _ => by rw [hb]; rfl)]
        rfl
      · rw [g2 a ha w]
        by_cases ea : a = u
        · subst ea
          rw [if_neg (by omega), if_neg (fun h => by rw [hb] at h; cases h.2)]
        · by_cases hc : a < u ∧ elO s v a = true
          · rw [if_pos hc, if_pos ⟨by omega, hc.2⟩]
          · rw [if_neg hc, if_neg (fun h => hc ⟨by omega, h.2⟩)]
    · rw [bI_n] at hb
      obtain ⟨hun, huv, hul⟩ := elO_lt hs hb
      refine w_let ?_
      have hcur : ∀ w, bt (m.1 95 u) w = (s.1 u w && s.2.1 w) := fun w => by rw [g2 u hu w, if_neg (by omega)]; exact p1 u hu hul w
      refine w_chk (in_N (by rw [show h_len 95 = 8 from rfl]; omega) (by decide)) ?_
      rw [cl_8 (by omega)]
      have hS : S8 ((oth &&& (h_ishl 1 (nI u) ^^^ -1)) &&& (m.1 95 u ^^^ -1)) := by
        intro i hi
        rw [b_not, b_not, hO i]
        have h2 : elO s v i = false := by
          cases hb : elO s v i with
          | false => rfl
          | true => have := (elO_lt hs hb).1; omega
        rw [h2]
        rfl
      refine w_bde (f_bitCount hS _) ?_
      refine w_let ?_
      refine w_chk (in_N (by rw [show h_len 95 = 8 from rfl]; omega) (by decide)) ?_
      refine w_chk (in_N (by rw [show h_len 95 = 8 from rfl]; omega) (by decide)) ?_
      refine w_let ?_
      refine w_let ?_
      rw [nI_1, nI_add]
      have e9 : cn (bt ((oth &&& (h_ishl 1 (nI u) ^^^ -1)) &&& (m.1 95 u ^^^ -1))) 8 = cn (fun w => (elO s v u && (elO s v w && !s.1 u w)) && !decide (w = u)) 8 := by
        refine cn_ext (fun w _ => ?_)
        rw [b_not, b_not, hO w, b_one (by omega), hcur w, hb]
        cases hw : elO s v w with
        | false => rfl
        | true =>
          rw [(elO_lt hs hw).2.2]
          cases s.1 u w <;> simp
      rw [e9]
      refine ih (sm (fun u => cn (fun w => (elO s v u && (elO s v w && !s.1 u w)) && !decide (w = u)) 8) u + cn (fun w => (elO s v u && (elO s v w && !s.1 u w)) && !decide (w = u)) 8, h_wi m 95 u ((m.1 95 u ||| (oth &&& (h_ishl 1 (nI u) ^^^ -1))) &&& (h_ishl 1 (nI v) ^^^ -1))) ⟨rfl, g1.trans (Fr.wi (by omega) (by omega)) (Nat.le_refl _) (Nat.le_refl _) (Nat.le_refl 95) (Nat.le_refl 96), fun a ha w => ?_⟩
      show bt ((h_wi m 95 u _).1 95 a) w = _
      rw [wi_e]
      by_cases ea : a = u
      · rw [if_pos ⟨rfl, ea⟩, ea, if_pos ⟨by omega, hb⟩, b_not, b_or, b_not, b_one (by omega), b_one (by omega), hO w, hcur w, p1 u hu hul w]
      · rw [if_neg (by omega), g2 a ha w]
        by_cases hc : a < u ∧ elO s v a = true
        · rw [if_pos hc, if_pos ⟨by omega, hc.2⟩]
        · rw [if_neg hc, if_neg (fun h => hc ⟨by omega, h.2⟩)]
theorem s_fewest {μ : HMem} {n : Nat} (hn : n ≤ 8) {s : ES} (hs : elI n s) (h : PC n s μ) (hne : 0 < cn s.2.1 8) {left : Int32} (hl : ∀ v, bt left v = s.2.1 v) {Q : Int32 → HMem → Prop} (hQ : Q (nI (elP s)) μ) : wp (f_Elimination_fewestNeighbors left (nI n) μ) Q := by
  obtain ⟨p1, p2, p3, p4⟩ := h
  unfold f_Elimination_fewestNeighbors
  refine w_for (fun f i (x : Nat × Nat) => wp (f_Elimination_fewestNeighbors_L9 f left (nI n) (nI x.1) (nI x.2) (nI i) μ) Q) (fun i x => x.2 ≤ 8 ∧ ((x.2 = 8 ∧ ∀ v, v < i → s.2.1 v = false) ∨ (x.1 < i ∧ s.2.1 x.1 = true ∧ x.2 = cn (elO s x.1) 8 ∧ (∀ w, w < i → s.2.1 w = true → cn (elO s x.1) 8 ≤ cn (elO s w) 8) ∧ (∀ w, w < x.1 → s.2.1 w = true → cn (elO s x.1) 8 < cn (elO s w) 8)))) n ?_ ?_ 0 (0, 8) (by omega) (by omega) ⟨Nat.le_refl _, Or.inl ⟨rfl, fun v hv => absurd hv (Nat.not_lt_zero _)⟩⟩
  · rintro f ⟨b, c⟩ ⟨_, h5⟩
    show wp (f_Elimination_fewestNeighbors_L9_b (f_Elimination_fewestNeighbors_L9 f) left (nI n) (nI b) (nI c) (nI n) μ) Q
    unfold f_Elimination_fewestNeighbors_L9_b
    refine w_t (Int32.le_refl _) ?_
    rcases h5 with ⟨_, h5⟩ | ⟨h5, h6, h7, h8, h9⟩
    · have := cn_zero (p := s.2.1) (n := 8) (fun i _ => by
        cases hb : s.2.1 i with
        | false => rfl
        | true => rw [h5 i (hs.2.2.1 i hb)] at hb; cases hb)
      omega
    · have e : elP s = b := elP_eq (by simp only at h5; omega) h6 (fun w hw => h8 w (hs.2.2.1 w hw) hw) h9
      rw [e] at hQ
      exact w_ret hQ
  · rintro f i ⟨b, c⟩ hi ⟨hc8, h5⟩ ih
    show wp (f_Elimination_fewestNeighbors_L9_b (f_Elimination_fewestNeighbors_L9 f) left (nI n) (nI b) (nI c) (nI i) μ) Q
    unfold f_Elimination_fewestNeighbors_L9_b f_Elimination_fewestNeighbors_J50
    simp only at hc8 h5
    refine w_f (nI_ge hi (by omega)) ?_
    refine w_chk (in_N (by rw [show h_len 95 = 8 from rfl]; omega) (by decide)) ?_
    rw [cl_8 (by omega)]
    refine w_bde (f_bitCount (p2 i hi) _) ?_
    refine w_bde (e_has _ (by omega) _) ?_
    rw [hl i]
    refine w_if (fun hb => ?_) (fun hb => ?_)
    · rw [bI_0] at hb
      refine w_let ?_
      rw [nI_1]
      refine ih (b, c) ⟨hc8, ?_⟩
      rcases h5 with ⟨h6, h7⟩ | ⟨h5, h6, h7, h8, h9⟩
      · refine Or.inl ⟨h6, fun v hv => ?_⟩
        rcases Nat.lt_or_ge v i with h1 | h1
        · exact h7 v h1
        · have : v = i := by omega
          subst this; exact hb
      · refine Or.inr ⟨by show b < i + 1; omega, h6, h7, fun w hw hwl => ?_, h9⟩
        rcases Nat.lt_or_ge w i with h1 | h1
        · exact h8 w h1 hwl
        · have : w = i := by omega
          subst this; rw [hb] at hwl; cases hwl
    · rw [bI_n] at hb
      have ecn : cn (bt (μ.1 95 i)) 8 = cn (elO s i) 8 := cn_ext (fun w _ => p1 i hi hb w)
      rw [ecn]
      have hlt8 : cn (elO s i) 8 < 8 := by
        have h1 := cn_le (elO s i) 8
        have h2 := cn_lt (p := elO s i) (q := fun _ => true) (n := 8) (fun _ _ _ => rfl) ⟨i, by omega, by
          cases hbb : elO s i i with
          | false => rfl
          | true => exact absurd rfl (elO_lt hs hbb).2.1, rfl⟩
        rw [cn_true] at h2
        exact h2
      refine w_if (fun hh => ?_) (fun hh => ?_)
      · have hh := (nI_leI (by omega) (by omega)).mp hh
        refine w_let ?_
        rw [nI_1]
        refine ih (b, c) ⟨hc8, ?_⟩
        rcases h5 with ⟨h6, h7⟩ | ⟨h5, h6, h7, h8, h9⟩
        · omega
        · refine Or.inr ⟨by show b < i + 1; omega, h6, h7, fun w hw hwl => ?_, h9⟩
          rcases Nat.lt_or_ge w i with h1 | h1
          · exact h8 w h1 hwl
          · have : w = i := by omega
            subst this; show cn (elO s b) 8 ≤ _; omega
      · have hh : ¬ c ≤ cn (elO s i) 8 := fun h => hh (nI_le h (by omega))
        refine w_let ?_
        rw [nI_1]
        refine ih (i, cn (elO s i) 8) ⟨by show cn (elO s i) 8 ≤ 8; omega, Or.inr ⟨by show i < i + 1; omega, hb, rfl, fun w hw hwl => ?_, fun w hw hwl => ?_⟩⟩
        · rcases Nat.lt_or_ge w i with h1 | h1
          · rcases h5 with ⟨h6, h7⟩ | ⟨h5, h6, h7, h8, h9⟩
            · rw [h7 w h1] at hwl; cases hwl
            · have := h8 w h1 hwl
              show cn (elO s i) 8 ≤ cn (elO s w) 8
              omega
          · have : w = i := by omega
            subst this; exact Nat.le_refl _
        · have hw' : w < i := hw
          rcases h5 with ⟨h6, h7⟩ | ⟨h5, h6, h7, h8, h9⟩
          · rw [h7 w hw'] at hwl; cases hwl
          · have := h8 w hw' hwl
            show cn (elO s i) 8 < cn (elO s w) 8
            omega
/-- each vertex that goes is left -/
theorem elV_ok {G : HG} (hV : GV G) (ord : Nat → Nat) : ∀ p, p < G.1 → (elR G.1 G.2.2 true ord p).2.1 (elV true ord (elR G.1 G.2.2 true ord p) p) = true := by
  intro p hp
  have key : ∀ p, p ≤ G.1 → ∀ q, q < p → (elR G.1 G.2.2 true ord q).2.1 (elV true ord (elR G.1 G.2.2 true ord q) q) = true := by
    intro p
    induction p with
    | zero => intro _ q hq; exact absurd hq (Nat.not_lt_zero _)
    | succ p ih =>
      intro hp q hq
      rcases Nat.lt_or_ge q p with h1 | h1
      · exact ih (by omega) q h1
      · have : q = p := by omega
        subst this
        have hc := elC_R hV.1 q (ih (by omega))
        exact (elP_sp hV.1 (elI_R hV true ord q) (by omega)).1
  exact key (p + 1) hp p (by omega)
/-- what the arrays hold at the end -/
def elEnd (n : Nat) (E : Nat → Nat → Int32) (gr : Bool) (ord : Nat → Nat) (c0 c1 : Nat) (p : Nat) (m : HMem) : Prop := (∀ q, q < p → m.1 c0 q = nI (elV gr ord (elR n E gr ord q) q)) ∧ (∀ q, q < p → ∀ w, bt (m.1 c1 (elV gr ord (elR n E gr ord q) q)) w = (elO (elR n E gr ord q) (elV gr ord (elR n E gr ord q) q) w || decide (w = elV gr ord (elR n E gr ord q) q)))
theorem s_runGreedily {μ : HMem} {g : Nat} {G : HG} (hg : IsG g) (h : CG μ g G) (hV : GV G) (ord : Nat → Nat) {Q : Unit → HMem → Prop} (hQ : ∀ μ', elEnd G.1 G.2.2 true ord 93 94 G.1 μ' → μ'.1 92 2 = nI (elR G.1 G.2.2 true ord G.1).2.2.1 - 1 → μ'.1 92 3 = nI (elR G.1 G.2.2 true ord G.1).2.2.2 → Fr 92 96 μ μ' → Q () μ') : wp (f_Elimination_runGreedily g μ) Q := by
  have hn := hV.1
  have hg2 := hg.2
  have hok := elV_ok hV ord
  unfold f_Elimination_runGreedily
  refine w_bdk (s_begin hg h hV true ord (fun m0 a1 a2 _ => ?_))
  have h0 := h.fr a2 (by omega)
  refine w_bde (e_all h0 hn) ?_
  refine w_for (fun f p (x : Int32 × HMem) => wp (f_Elimination_runGreedily_L12 f g x.1 (nI p) x.2) Q) (fun p x => (∀ v, bt x.1 v = (elR G.1 G.2.2 true ord p).2.1 v) ∧ PC G.1 (elR G.1 G.2.2 true ord p) x.2 ∧ Fr 92 96 μ x.2 ∧ elEnd G.1 G.2.2 true ord 93 94 p x.2) G.1 ?_ ?_ 0 (fullS G.1, m0) (by omega) (by omega) ⟨fun v => b_full hn v, a1, a2, fun q hq => absurd hq (Nat.not_lt_zero _), fun q hq => absurd hq (Nat.not_lt_zero _)⟩
  · rintro f ⟨x, m⟩ ⟨g1, g2, g3, g4⟩
    show wp (f_Elimination_runGreedily_L12_b (f_Elimination_runGreedily_L12 f) g x (nI G.1) m) Q
    unfold f_Elimination_runGreedily_L12_b
    refine w_t (by rw [(h.fr g3 (by omega)).1]; exact Int32.le_refl _) ?_
    exact w_ret (hQ m g4 g2.2.2.1 g2.2.2.2 g3)
  · rintro f p ⟨x, m⟩ hp ⟨g1, g2, g3, g4⟩ ih
    show wp (f_Elimination_runGreedily_L12_b (f_Elimination_runGreedily_L12 f) g x (nI p) m) Q
    unfold f_Elimination_runGreedily_L12_b
    have hm := h.fr g3 (by omega)
    have hI := elI_R hV true ord p
    have hc := elC_R hn p (fun q hq => hok q (by omega))
    have hvl := hok p hp
    have hvn := hI.2.2.1 _ hvl
    refine w_f (by rw [hm.1]; exact nI_ge hp (by omega)) ?_
    rw [hm.1]
    refine w_bdk (s_fewest hn hI g2 (by omega) g1 ?_)
    have eV : elP (elR G.1 G.2.2 true ord p) = elV true ord (elR G.1 G.2.2 true ord p) p := rfl
    rw [eV]
    generalize hv : elV true ord (elR G.1 G.2.2 true ord p) p = v at hvl hvn
    refine w_chk (in_N (by rw [show h_len 93 = 8 from rfl]; omega) (by decide)) ?_
    refine w_let ?_
    refine w_let ?_
    rw [cl_8 (by omega), wi_o _ _ (by omega), hm.1]
    have f1 : Fr 93 94 m (h_wi m 93 p (nI v)) := Fr.wi (by omega) (by omega)
    have hPC : PC G.1 (elR G.1 G.2.2 true ord p) (h_wi m 93 p (nI v)) := by
      unfold PC
      rw [f1.i (c := 95) (by omega), f1.i (c := 92) (by omega)]
      exact g2
    refine w_bdk (s_eliminate hn hI hPC hvl (fun m2 b1 b2 b3 b4 b5 => ?_))
    refine w_let ?_
    rw [nI_1]
    have hne : ∀ q, q < p → elV true ord (elR G.1 G.2.2 true ord q) q ≠ v := fun q hq e => ((elL_R p v).mp hvl).2 q hq e.symm
    refine ih (x &&& (h_ishl 1 (nI v) ^^^ -1), m2) ⟨fun w => ?_, ?_, (g3.trans f1 (by omega) (by omega) (by omega) (by omega) : Fr 92 96 μ _).trans b2 (by omega) (by omega) (by omega) (by omega), fun q hq => ?_, fun q hq w => ?_⟩
    · rw [b_not, g1 w, b_one (by omega)]
      show _ = ((elR G.1 G.2.2 true ord p).2.1 w && !decide (w = elV true ord (elR G.1 G.2.2 true ord p) p))
      rw [hv]
    · show PC G.1 (elT (elR G.1 G.2.2 true ord p) (elV true ord (elR G.1 G.2.2 true ord p) p)) m2
      rw [hv]; exact b1
    · rw [b3]
      by_cases e : q = p
      · rw [e, wi_s, hv]
      · rw [wi_n _ _ (by omega)]; exact g4.1 q (by omega)
    · by_cases e : q = p
      · rw [e, hv]; exact b4 w
      · rw [b5 _ (hne q (by omega)), wi_o _ _ (by omega)]
        exact g4.2 q (by omega) w
theorem s_runInOrder {μ : HMem} {g : Nat} {G : HG} (hg : IsG g) (h : CG μ g G) (hV : GV G) (ord : Nat → Nat) (hord : ∀ p, p < G.1 → μ.1 93 p = nI (ord p)) (hok : ∀ p, p < G.1 → (elR G.1 G.2.2 false ord p).2.1 (ord p) = true) {Q : Unit → HMem → Prop} (hQ : ∀ μ', μ'.1 92 2 = nI (elR G.1 G.2.2 false ord G.1).2.2.1 - 1 → μ'.1 92 3 = nI (elR G.1 G.2.2 false ord G.1).2.2.2 → Fr 92 96 μ μ' → Q () μ') : wp (f_Elimination_runInOrder g μ) Q := by
  have hn := hV.1
  have hg2 := hg.2
  unfold f_Elimination_runInOrder
  refine w_bdk (s_begin hg h hV false ord (fun m0 a1 a2 a3 => ?_))
  refine w_for (fun f p (m : HMem) => wp (f_Elimination_runInOrder_L7 f g (nI p) m) Q) (fun p m => PC G.1 (elR G.1 G.2.2 false ord p) m ∧ Fr 92 96 μ m ∧ m.1 93 = μ.1 93) G.1 ?_ ?_ 0 m0 (by omega) (by omega) ⟨a1, a2, a3⟩
  · rintro f m ⟨g1, g2, g3⟩
    show wp (f_Elimination_runInOrder_L7_b (f_Elimination_runInOrder_L7 f) g (nI G.1) m) Q
    unfold f_Elimination_runInOrder_L7_b
    refine w_t (by rw [(h.fr g2 (by omega)).1]; exact Int32.le_refl _) ?_
    exact w_ret (hQ m g1.2.2.1 g1.2.2.2 g2)
  · rintro f p m hp ⟨g1, g2, g3⟩ ih
    show wp (f_Elimination_runInOrder_L7_b (f_Elimination_runInOrder_L7 f) g (nI p) m) Q
    unfold f_Elimination_runInOrder_L7_b
    have hm := h.fr g2 (by omega)
    refine w_f (by rw [hm.1]; exact nI_ge hp (by omega)) ?_
    refine w_chk (in_N (by rw [show h_len 93 = 8 from rfl]; omega) (by decide)) ?_
    rw [cl_8 (by omega), g3, hord p hp, hm.1]
    refine w_bdk (s_eliminate hn (elI_R hV false ord p) g1 (hok p hp) (fun m2 b1 b2 b3 _ _ => ?_))
    refine w_let ?_
    rw [nI_1]
    exact ih m2 ⟨b1, g2.trans b2 (by omega) (by omega) (by omega) (by omega), b3.trans g3⟩
