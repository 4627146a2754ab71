/-! 59: eliminations: the reference; greedy, bag -/
/-- only the reference's rows for reckoning have changed -/
def Fs (μ μ' : HMem) : Prop := Fr 125 143 μ μ' ∧ μ'.1 126 = μ.1 126 ∧ μ'.1 127 = μ.1 127 ∧ μ'.1 128 = μ.1 128 ∧ μ'.1 125 2 = μ.1 125 2 ∧ μ'.1 125 4 = μ.1 125 4 ∧ μ'.1 125 5 = μ.1 125 5
theorem Fs.refl (μ : HMem) : Fs μ μ := ⟨Fr.refl _ _ _, rfl, rfl, rfl, rfl, rfl, rfl⟩
theorem Fs.trans {μ μ1 μ2 : HMem} (h1 : Fs μ μ1) (h2 : Fs μ1 μ2) : Fs μ μ2 := by
  obtain ⟨a, b, c, d, e, f, g⟩ := h1
  obtain ⟨a', b', c', d', e', f', g'⟩ := h2
  exact ⟨a.trans a' (by omega) (by omega) (by omega) (by omega), b'.trans b, c'.trans c, d'.trans d, e'.trans e, f'.trans f, g'.trans g⟩
theorem Fs.wi {μ : HMem} {c i : Nat} {x : Int32} (h1 : 129 ≤ c) (h2 : c < 143) : Fs μ (h_wi μ c i x) :=
  ⟨Fr.wi (by omega) (by omega), wi_o _ _ (by omega), wi_o _ _ (by omega), wi_o _ _ (by omega), by rw [wi_o _ _ (by omega)], by rw [wi_o _ _ (by omega)], by rw [wi_o _ _ (by omega)]⟩
theorem Fs.wf {μ : HMem} {i : Nat} {x : Int32} (h : i ≠ 2 ∧ i ≠ 4 ∧ i ≠ 5) : Fs μ (h_wi μ 125 i x) :=
  ⟨Fr.wi (by omega) (by omega), wi_o _ _ (by omega), wi_o _ _ (by omega), wi_o _ _ (by omega), wi_n _ _ (by omega), wi_n _ _ (by omega), wi_n _ _ (by omega)⟩
theorem Fs.wl {μ : HMem} {c i : Nat} {x : Int64} (h1 : 125 ≤ c) (h2 : c < 143) : Fs μ (h_wl μ c i x) := ⟨Fr.wl h1 h2, rfl, rfl, rfl, rfl, rfl, rfl⟩
theorem Fs.fr {μ μ' : HMem} {a b : Nat} (h : Fr a b μ μ') (h1 : 129 ≤ a) (h2 : b ≤ 143) : Fs μ μ' :=
  ⟨h.wide (by omega) (by omega), h.i (by omega), h.i (by omega), h.i (by omega), by rw [h.i (by omega)], by rw [h.i (by omega)], by rw [h.i (by omega)]⟩
theorem RS.fs {σ : HS} {μ μ' : HMem} (hr : RS σ μ) (hf : Fs μ μ') : RS σ μ' := by
  obtain ⟨a, b, c, d, e, f, g⟩ := hf
  refine ⟨fun i hi => by rw [b]; exact hr.1 i hi, ?_, ?_⟩
  · have := hr.2.1
    unfold RH at this ⊢
    rw [e, c]; exact this
  · have := hr.2.2
    unfold RT at this ⊢
    rw [f, d]; exact this
theorem CS.fs {σ : HS} {μ μ' : HMem} (hc : CS σ μ) (hf : Fs μ μ') : CS σ μ' := hc.fr hf.1 (by omega)
theorem Fs.out {μ μ' : HMem} (hf : Fs μ μ') : μ'.2 143 = μ.2 143 := hf.1.l (by omega)
theorem RG.fs {μ μ' : HMem} {b : Nat} {G : HG} (h : RG (μ.1 126) b G) (hf : Fs μ μ') : RG (μ'.1 126) b G := by rw [hf.2.1]; exact h
def PR (n : Nat) (s : ES) (m : HMem) : Prop := (∀ u, u < n → ∀ w, bt (m.1 129 u) w = s.1 u w) ∧ m.1 125 9 = nI s.2.2.1 - 1 ∧ m.1 125 10 = nI s.2.2.2
theorem s_joins {μ : HMem} {n : Nat} (hn : n ≤ 8) {s : ES} (hs : elI n s) {v : Nat} (h : ∀ u, u < n → ∀ w, bt (μ.1 129 u) w = s.1 u w) (hF : μ.1 125 10 = nI s.2.2.2) {set : Int32} (hO : ∀ w, bt set w = elO s v w) {Q : Unit → HMem → Prop} (hQ : ∀ μ', (∀ u, u < n → ∀ w, bt (μ'.1 129 u) w = (elT s v).1 u w) → μ'.1 125 10 = nI (s.2.2.2 + elF s v) → Fs μ μ' → μ'.1 125 9 = μ.1 125 9 → μ'.1 130 = μ.1 130 → μ'.1 131 = μ.1 131 → Q () μ') : wp (f_Model_joins set μ) Q := by
  unfold f_Model_joins
  refine w_for (fun f u (m : HMem) => wp (f_Model_joins_L2 f set (nI u) m) Q) (fun u m => Fs μ m ∧ m.1 125 9 = μ.1 125 9 ∧ m.1 130 = μ.1 130 ∧ m.1 131 = μ.1 131 ∧ m.1 125 10 = nI (s.2.2.2 + sm (fun u => cn (fun w => elO s v u && (elO s v w && !s.1 u w)) u) u) ∧ ∀ a, a < n → ∀ w, bt (m.1 129 a) w = if a < u then (elT s v).1 a w else s.1 a w) 8 ?_ ?_ 0 μ (by omega) (by omega) ⟨Fs.refl _, rfl, rfl, rfl, hF, fun a ha w => by rw [if_neg (by omega)]; exact h a ha w⟩
  · rintro f m ⟨g1, g2, g3, g4, g5, g6⟩
    show wp (f_Model_joins_L2_b (f_Model_joins_L2 f) set (nI 8) m) Q
    unfold f_Model_joins_L2_b
    refine w_t (by decide) ?_
    exact w_ret (hQ m (fun u hu w => by rw [g6 u hu w, if_pos (by omega)]) g5 g1 g2 g3 g4)
  · rintro f u m hu ⟨g1, g2, g3, g4, g5, g6⟩ ih
    show wp (f_Model_joins_L2_b (f_Model_joins_L2 f) set (nI u) m) Q
    unfold f_Model_joins_L2_b f_Model_joins_J63
    refine w_f (nI_ge (b := 8) hu (by omega)) ?_
    rw [e_bit set (by omega), hO u]
    refine w_if (fun hb => ?_) (fun hb => ?_)
    · rw [bI_e1] at hb
      refine w_let ?_
      rw [nI_1]
      refine ih m ⟨g1, g2, g3, g4, ?_, fun a ha w => ?_⟩
      · rw [g5]
        show _ = nI (s.2.2.2 + (sm _ u + cn _ u))
        rw [cn_zero (fun w _ => by rw [hb]; rfl)]
        rfl
      · rw [g6 a ha w]
        by_cases ea : a = u
        · rw [if_neg (by omega), if_pos (by omega)]
          show _ = (s.1 a w || (elO s v a && (elO s v w && !decide (a = w))))
          rw [ea, hb]
          simp
        · by_cases hc : a < u
          · rw [if_pos hc, if_pos (by omega)]
          · rw [if_neg hc, if_neg (by omega)]
    · rw [bI_ne1] at hb
      obtain ⟨hun, _, _⟩ := elO_lt hs hb
      have hcur : ∀ w, bt (m.1 129 u) w = s.1 u w := fun w => by rw [g6 u hun w, if_neg (by omega)]
      refine w_chk (in_N (by rw [show h_len 129 = 8 from rfl]; omega) (by decide)) ?_
      refine w_let ?_
      rw [cl_8 (by omega), all_k u (by omega)]
      have hmore : ∀ w, bt ((set &&& (h_ishl 1 (nI u) ^^^ -1)) &&& (m.1 129 u ^^^ -1)) w = ((elO s v w && !decide (w = u)) && !s.1 u w) := by
        intro w
        rw [b_not, b_not, hO w, b_one (by omega), hcur w]
      generalize (set &&& (h_ishl 1 (nI u) ^^^ -1)) &&& (m.1 129 u ^^^ -1) = more at hmore
      have hS : S8 (more &&& fullS u) := by
        intro i hi
        rw [b_and, b_full (by omega)]
        have : ¬ i < u := by omega
        simp [this]
      refine w_bde (e_bits hS _) ?_
      have ecn : cn (bt (more &&& fullS u)) 8 = cn (fun w => elO s v u && (elO s v w && !s.1 u w)) u := by
        have e1 := cn_add (p := bt (more &&& fullS u)) u (8 - u) (fun i h1 _ => by
          rw [b_and, b_full (by omega)]
          have : ¬ i < u := by omega
          simp [this])
        rw [show u + (8 - u) = 8 by omega] at e1
        rw [e1]
        refine cn_ext (fun w hw => ?_)
        rw [b_and, b_full (by omega), hmore w, hb]
        have : ¬ w = u := by omega
        simp [hw, this]
      rw [ecn, g5, nI_add]
      refine w_let ?_
      refine w_chk (in_N (by rw [show h_len 129 = 8 from rfl]; omega) (by decide)) ?_
      refine w_chk (in_N (by rw [show h_len 129 = 8 from rfl]; omega) (by decide)) ?_
      refine w_let ?_
      refine w_let ?_
      rw [nI_1, wi_o _ _ (by omega)]
      have f1 : Fs m (h_wi m 125 10 (nI (s.2.2.2 + sm (fun u => cn (fun w => elO s v u && (elO s v w && !s.1 u w)) u) u + cn (fun w => elO s v u && (elO s v w && !s.1 u w)) u))) := Fs.wf ⟨by omega, by omega, by omega⟩
      refine ih _ ⟨g1.trans (f1.trans (Fs.wi (by omega) (by omega))), ?_, ?_, ?_, ?_, fun a ha w => ?_⟩
      · rw [wi_o _ _ (by omega), wi_n _ _ (by omega)]; exact g2
      · rw [wi_o _ _ (by omega), wi_o _ _ (by omega)]; exact g3
      · rw [wi_o _ _ (by omega), wi_o _ _ (by omega)]; exact g4
      · rw [wi_o _ _ (by omega), wi_s]
        show nI (_ + _ + _) = nI (_ + (_ + _))
        rw [Nat.add_assoc]
      · rw [wi_e]
        by_cases ea : a = u
        · rw [if_pos ⟨rfl, ea⟩, if_pos (by omega), b_or, hcur w, hmore w]
          show _ = (s.1 a w || (elO s v a && (elO s v w && !decide (a = w))))
          rw [ea, hb]
          have hd : decide (w = u) = decide (u = w) := by
            by_cases e : w = u
            · simp [e]
            · have e' : ¬ u = w := fun h => e h.symm
              simp [e, e']
          rw [hd]
          cases s.1 u w <;> cases elO s v w <;> simp
        · rw [if_neg (by omega), wi_o _ _ (by omega), g6 a ha w]
          by_cases hc : a < u
          · rw [if_pos hc, if_pos (by omega)]
          · rw [if_neg hc, if_neg (by omega)]
theorem s_mfewest {μ : HMem} {n : Nat} (hn : n ≤ 8) {s : ES} (hs : elI n s) (h : ∀ u, u < n → ∀ w, bt (μ.1 129 u) w = s.1 u w) (hne : 0 < cn s.2.1 8) {left : Int32} (hl : ∀ v, bt left v = s.2.1 v) {Q : Int32 → HMem → Prop} (hQ : Q (nI (elP s)) μ) : wp (f_Model_fewest left μ) Q := by
  unfold f_Model_fewest
  have h8 : S8 left := fun i hi => by
    rw [hl i]
    cases hb : s.2.1 i with
    | false => rfl
    | true => have := hs.2.2.1 i hb; omega
  refine w_for (fun f i (x : Int32 × Nat) => wp (f_Model_fewest_L8 f left x.1 (nI x.2) (nI i) μ) Q) (fun i x => x.2 ≤ 9 ∧ ((x.2 = 9 ∧ ∀ v, v < i → s.2.1 v = false) ∨ (∃ b, x.1 = nI b ∧ b < i ∧ s.2.1 b = true ∧ x.2 = cn (elO s b) 8 ∧ (∀ w, w < i → s.2.1 w = true → cn (elO s b) 8 ≤ cn (elO s w) 8) ∧ (∀ w, w < b → s.2.1 w = true → cn (elO s b) 8 < cn (elO s w) 8)))) 8 ?_ ?_ 0 (-1, 9) (by omega) (by omega) ⟨Nat.le_refl _, Or.inl ⟨rfl, fun v hv => absurd hv (Nat.not_lt_zero _)⟩⟩
  · rintro f ⟨x, c⟩ ⟨_, h5⟩
    show wp (f_Model_fewest_L8_b (f_Model_fewest_L8 f) left x (nI c) (nI 8) μ) Q
    unfold f_Model_fewest_L8_b
    refine w_t (by decide) ?_
    rcases h5 with ⟨_, h5⟩ | ⟨b, hxb, h5, h6, h7, h8, h9⟩
    · have := cn_zero (p := s.2.1) (n := 8) (fun i hi => h5 i hi)
      omega
    · have e : elP s = b := elP_eq h5 h6 (fun w hw => h8 w (by have := hs.2.2.1 w hw; omega) hw) h9
      rw [e] at hQ
      simp only at hxb
      rw [hxb]
      exact w_ret hQ
  · rintro f i ⟨x, c⟩ hi ⟨hc9, h5⟩ ih
    show wp (f_Model_fewest_L8_b (f_Model_fewest_L8 f) left x (nI c) (nI i) μ) Q
    unfold f_Model_fewest_L8_b f_Model_fewest_J51
    simp only at hc9 h5
    refine w_f (nI_ge (b := 8) hi (by omega)) ?_
    refine w_chk (in_N (by rw [show h_len 129 = 8 from rfl]; omega) (by decide)) ?_
    rw [cl_8 (by omega)]
    have hS : S8 (μ.1 129 i &&& left) := fun j hj => by rw [b_and, h8 j hj, Bool.and_false]
    refine w_bde (e_bits hS _) ?_
    rw [e_bit left (by omega), hl i]
    refine w_if (fun hb => ?_) (fun hb => ?_)
    · rw [bI_e1] at hb
      refine w_let ?_
      rw [nI_1]
      refine ih (x, c) ⟨hc9, ?_⟩
      rcases h5 with ⟨h6, h7⟩ | ⟨b, hxb, h5, h6, h7, h8, h9⟩
      · refine Or.inl ⟨h6, fun v hv => ?_⟩
        rcases Nat.lt_or_ge v i with h1 | h1
        · exact h7 v h1
        · have : v = i := by omega
          subst this; exact hb
      · refine Or.inr ⟨b, hxb, by omega, h6, h7, fun w hw hwl => ?_, h9⟩
        rcases Nat.lt_or_ge w i with h1 | h1
        · exact h8 w h1 hwl
        · have : w = i := by omega
          subst this; rw [hb] at hwl; cases hwl
    · rw [bI_ne1] at hb
      have hin := hs.2.2.1 i hb
      have ecn : cn (bt (μ.1 129 i &&& left)) 8 = cn (elO s i) 8 := cn_ext (fun w _ => by
        rw [b_and, h i hin w, hl w]
        rfl)
      rw [ecn]
      have hlt8 := cn_le (elO s i) 8
      refine w_if (fun hh => ?_) (fun hh => ?_)
      · have hh := (nI_leI (by omega) (by omega)).mp hh
        refine w_let ?_
        rw [nI_1]
        refine ih (x, c) ⟨hc9, ?_⟩
        rcases h5 with ⟨h6, h7⟩ | ⟨b, hxb, h5, h6, h7, h8, h9⟩
        · omega
        · refine Or.inr ⟨b, hxb, by omega, h6, h7, fun w hw hwl => ?_, h9⟩
          rcases Nat.lt_or_ge w i with h1 | h1
          · exact h8 w h1 hwl
          · have : w = i := by omega
            subst this; omega
      · have hh : ¬ c ≤ cn (elO s i) 8 := fun h => hh (nI_le h (by omega))
        refine w_let ?_
        rw [nI_1]
        refine ih (nI i, cn (elO s i) 8) ⟨by show cn (elO s i) 8 ≤ 9; omega, Or.inr ⟨i, rfl, by omega, hb, rfl, fun w hw hwl => ?_, fun w hw hwl => ?_⟩⟩
        · rcases Nat.lt_or_ge w i with h1 | h1
          · rcases h5 with ⟨h6, h7⟩ | ⟨b, hxb, h5, h6, h7, h8, h9⟩
            · rw [h7 w h1] at hwl; cases hwl
            · have := h8 w h1 hwl
              omega
          · have : w = i := by omega
            subst this; exact Nat.le_refl _
        · rcases h5 with ⟨h6, h7⟩ | ⟨b, hxb, h5, h6, h7, h8, h9⟩
          · rw [h7 w hw] at hwl; cases hwl
          · have := h8 w hw hwl
            omega
theorem s_eliminates {μ : HMem} {k : Nat} {G : HG} (hk : k < 4) (h : RG (μ.1 126) (73 * k) G) (hV : GV G) (gr : Bool) (ord : Nat → Nat) (hord : gr = false → ∀ p, p < G.1 → μ.1 130 p = nI (ord p)) (hok : ∀ p, p < G.1 → (elR G.1 G.2.2 gr ord p).2.1 (elV gr ord (elR G.1 G.2.2 gr ord p) p) = true) {Q : Unit → HMem → Prop} (hQ : ∀ μ', elEnd G.1 G.2.2 gr ord 130 131 G.1 μ' → μ'.1 125 9 = nI (elR G.1 G.2.2 gr ord G.1).2.2.1 - 1 → μ'.1 125 10 = nI (elR G.1 G.2.2 gr ord G.1).2.2.2 → Fs μ μ' → Q () μ') : wp (f_Model_eliminates (nI k) (bI gr) μ) Q := by
  have hn := hV.1
  unfold f_Model_eliminates
  refine w_bde (e_msize (by omega) h) ?_
  refine w_for (fun f i (m : HMem) => wp (f_Model_eliminates_L9 f_Model_eliminates_J42 f (nI k) (bI gr) (nI G.1) (nI i) m) Q) (fun i m => Fs μ m ∧ m.1 130 = μ.1 130 ∧ ∀ u, u < i → ∀ w, bt (m.1 129 u) w = elA G.1 G.2.2 u w) G.1 ?_ ?_ 0 μ (by omega) (by omega) ⟨Fs.refl _, rfl, fun u hu => absurd hu (Nat.not_lt_zero _)⟩
  · rintro f m ⟨g1, g2, g3⟩
    show wp (f_Model_eliminates_L9_b f_Model_eliminates_J42 (f_Model_eliminates_L9 f_Model_eliminates_J42 f) (nI k) (bI gr) (nI G.1) (nI G.1) m) Q
    unfold f_Model_eliminates_L9_b f_Model_eliminates_J42
    refine w_t (Int32.le_refl _) ?_
    refine w_let ?_
    refine w_let ?_
    refine w_let ?_
    rw [all_k _ (by omega)]
    have f0 : Fs m (h_wi (h_wi m 125 9 (-1)) 125 10 0) := (Fs.wf (by omega)).trans (Fs.wf (by omega))
    have q0 : PR G.1 (elR G.1 G.2.2 gr ord 0) (h_wi (h_wi m 125 9 (-1)) 125 10 0) := by
      refine ⟨fun u hu w => ?_, ?_, ?_⟩
      · rw [wi_o _ _ (by omega), wi_o _ _ (by omega)]; exact g3 u hu w
      · rw [wi_n _ _ (by omega), wi_s]; rfl
      · rw [wi_s]; rfl
    have q1 : (h_wi (h_wi m 125 9 (-1)) 125 10 0).1 130 = μ.1 130 := by rw [wi_o _ _ (by omega), wi_o _ _ (by omega)]; exact g2
    generalize h_wi (h_wi m 125 9 (-1)) 125 10 0 = m0 at f0 q0 q1
    refine w_for (fun f p (x : Int32 × HMem) => wp (f_Model_eliminates_L62 f (bI gr) (nI G.1) x.1 (nI p) x.2) Q) (fun p x => (∀ v, bt x.1 v = (elR G.1 G.2.2 gr ord p).2.1 v) ∧ PR G.1 (elR G.1 G.2.2 gr ord p) x.2 ∧ Fs μ x.2 ∧ elEnd G.1 G.2.2 gr ord 130 131 p x.2 ∧ (gr = false → x.2.1 130 = μ.1 130)) G.1 ?_ ?_ 0 (fullS G.1, m0) (by omega) (by omega) ⟨fun v => b_full hn v, q0, g1.trans f0, ⟨fun q hq => absurd hq (Nat.not_lt_zero _), fun q hq => absurd hq (Nat.not_lt_zero _)⟩, fun _ => q1⟩
    · rintro f ⟨x, m⟩ ⟨g1, g2, g3, g4, g5⟩
      show wp (f_Model_eliminates_L62_b (f_Model_eliminates_L62 f) (bI gr) (nI G.1) x (nI G.1) m) Q
      unfold f_Model_eliminates_L62_b
      refine w_t (Int32.le_refl _) ?_
      exact w_ret (hQ m g4 g2.2.1 g2.2.2 g3)
    · rintro f p ⟨x, m⟩ hp ⟨g1, g2, g3, g4, g5⟩ ih
      show wp (f_Model_eliminates_L62_b (f_Model_eliminates_L62 f) (bI gr) (nI G.1) x (nI p) m) Q
      unfold f_Model_eliminates_L62_b
      have hI := elI_R hV gr ord p
      have hvl := hok p hp
      have hvn := hI.2.2.1 _ hvl
      have hc := elC_R hn p (fun q hq => hok q (by omega))
      have go : ∀ s0, s0 = nI (elV gr ord (elR G.1 G.2.2 gr ord p) p) → wp (f_Model_eliminates_J94 (f_Model_eliminates_L62 f) (bI gr) (nI G.1) x (nI p) s0 (nI p) m) Q := by
        intro s0 hs0
        rw [hs0]
        generalize hv : elV gr ord (elR G.1 G.2.2 gr ord p) p = v at hvl hvn hs0
        unfold f_Model_eliminates_J94
        refine w_chk (in_N (by rw [show h_len 130 = 8 from rfl]; omega) (by decide)) ?_
        refine w_let ?_
        refine w_chk (in_N (by rw [show h_len 130 = 8 from rfl]; omega) (by decide)) ?_
        refine w_let ?_
        rw [cl_8 (by omega), wi_s]
        refine w_chk (in_N (by rw [show h_len 129 = 8 from rfl]; omega) (by decide)) ?_
        refine w_let ?_
        rw [cl_8 (by omega), wi_o _ _ (by omega)]
        have hO : ∀ w, bt (m.1 129 v &&& x) w = elO (elR G.1 G.2.2 gr ord p) v w := fun w => by
          rw [b_and, g2.1 v hvn w, g1 w]
          rfl
        generalize m.1 129 v &&& x = oth at hO
        have hO8 : S8 oth := fun i hi => by
          rw [hO i]
          cases hb : elO (elR G.1 G.2.2 gr ord p) v i with
          | false => rfl
          | true => have := (elO_lt hI hb).1; omega
        refine w_chk (in_N (by rw [show h_len 131 = 8 from rfl]; omega) (by decide)) ?_
        refine w_let ?_
        refine w_bde (e_bits hO8 _) ?_
        have ecn : cn (bt oth) 8 = cn (elO (elR G.1 G.2.2 gr ord p) v) 8 := cn_ext (fun w _ => hO w)
        have hW := hI.2.2.2
        have hC := cn_le (elO (elR G.1 G.2.2 gr ord p) v) 8
        have f1 : Fs m (h_wi (h_wi m 130 p (nI v)) 131 v (oth ||| h_ishl 1 (nI v))) := (Fs.wi (by omega) (by omega)).trans (Fs.wi (by omega) (by omega))
        have r1 : (h_wi (h_wi m 130 p (nI v)) 131 v (oth ||| h_ishl 1 (nI v))).1 130 = upd (m.1 130) p (nI v) := by
          rw [wi_o _ _ (by omega)]
          funext j
          rw [wi_e]
          by_cases e : j = p
          · rw [if_pos ⟨rfl, e⟩, e, pk_us]
          · rw [if_neg (by omega), pk_un e]
        have r2 : ∀ u, (h_wi (h_wi m 130 p (nI v)) 131 v (oth ||| h_ishl 1 (nI v))).1 131 u = if u = v then oth ||| h_ishl 1 (nI v) else m.1 131 u := by
          intro u
          rw [wi_e]
          by_cases e : u = v
          · rw [if_pos ⟨rfl, e⟩, if_pos e]
          · rw [if_neg (by omega), if_neg e, wi_o _ _ (by omega)]
        have r3 : (h_wi (h_wi m 130 p (nI v)) 131 v (oth ||| h_ishl 1 (nI v))).1 129 = m.1 129 := by rw [wi_o _ _ (by omega), wi_o _ _ (by omega)]
        have r4 : (h_wi (h_wi m 130 p (nI v)) 131 v (oth ||| h_ishl 1 (nI v))).1 125 = m.1 125 := by rw [wi_o _ _ (by omega), wi_o _ _ (by omega)]
        generalize h_wi (h_wi m 130 p (nI v)) 131 v (oth ||| h_ishl 1 (nI v)) = m1 at f1 r1 r2 r3 r4
        have last : ∀ w9, w9 = nI (max (elR G.1 G.2.2 gr ord p).2.2.1 (cn (elO (elR G.1 G.2.2 gr ord p) v) 8 + 1)) - 1 → wp (f_Model_eliminates_J155 (f_Model_eliminates_L62 f) (bI gr) (nI G.1) x (nI p) (nI v) oth w9 m1) Q := by
          intro w9 hw9
          unfold f_Model_eliminates_J155
          refine w_let ?_
          have f2 : Fs m1 (h_wi m1 125 9 w9) := Fs.wf (by omega)
          refine w_bdk (s_joins hn hI (v := v) (fun u hu w => by rw [wi_o _ _ (by omega), r3]; exact g2.1 u hu w) (by rw [wi_n _ _ (by omega), r4]; exact g2.2.2) hO (fun m2 b1 b2 b3 b4 b5 b6 => ?_))
          refine w_let ?_
          refine w_let ?_
          rw [nI_1]
          have hne : ∀ q, q < p → elV gr ord (elR G.1 G.2.2 gr ord q) q ≠ v := fun q hq e => ((elL_R p v).mp hvl).2 q hq e.symm
          have e130 : m2.1 130 = upd (m.1 130) p (nI v) := by rw [b5, wi_o _ _ (by omega), r1]
          refine ih (x &&& (h_ishl 1 (nI v) ^^^ -1), m2) ⟨fun w => ?_, ⟨fun u hu w => ?_, ?_, ?_⟩, g3.trans (f1.trans (f2.trans b3)), ⟨fun q hq => ?_, fun q hq w => ?_⟩, fun hgr => ?_⟩
          · rw [b_not, g1 w, b_one (by omega)]
            show _ = ((elR G.1 G.2.2 gr ord p).2.1 w && !decide (w = elV gr ord (elR G.1 G.2.2 gr ord p) p))
            rw [hv]
          · rw [b1 u hu w]
            show _ = (elT (elR G.1 G.2.2 gr ord p) (elV gr ord (elR G.1 G.2.2 gr ord p) p)).1 u w
            rw [hv]
          · rw [b4, wi_s, hw9]
            show _ = nI (elT (elR G.1 G.2.2 gr ord p) (elV gr ord (elR G.1 G.2.2 gr ord p) p)).2.2.1 - 1
            rw [hv]
            rfl
          · rw [b2]
            show _ = nI (elT (elR G.1 G.2.2 gr ord p) (elV gr ord (elR G.1 G.2.2 gr ord p) p)).2.2.2
            rw [hv]
            rfl
          · rw [e130]
            by_cases e : q = p
            · rw [e, pk_us, hv]
            · rw [pk_un e]; exact g4.1 q (by omega)
          · rw [b6, wi_o _ _ (by omega), r2]
            by_cases e : q = p
            · rw [e, hv, if_pos rfl, b_or, hO w, b_one (by omega)]
            · rw [if_neg (hne q (by omega))]
              exact g4.2 q (by omega) w
          · rw [e130]
            funext j
            by_cases e : j = p
            · rw [e, pk_us, hord hgr p hp, ← hv]
              show nI (if gr then _ else ord p) = _
              rw [hgr]
              rfl
            · have := g5 hgr
              simp only at this
              rw [pk_un e, this]
        have mm := mx_r _ (by omega : (elR G.1 G.2.2 gr ord p).2.2.1 < 10) _ (by omega : cn (elO (elR G.1 G.2.2 gr ord p) v) 8 < 9)
        rw [r4, g2.2.1, ecn]
        refine w_if (fun hh => ?_) (fun hh => ?_)
        · rw [if_pos hh] at mm
          exact last _ mm
        · rw [if_neg hh] at mm
          refine w_bde (e_bits hO8 _) ?_
          rw [ecn]
          exact last _ mm
      refine w_f (nI_ge hp (by omega)) ?_
      refine w_if (fun hb => ?_) (fun hb => ?_)
      · rw [bI_0] at hb
        refine w_chk (in_N (by rw [show h_len 130 = 8 from rfl]; omega) (by decide)) ?_
        rw [cl_8 (by omega)]
        refine go _ ?_
        have e5 := g5 hb
        simp only at e5
        rw [e5, hord hb p hp]
        show _ = nI (if gr then _ else ord p)
        rw [hb]
        rfl
      · rw [bI_n] at hb
        refine w_bdk (s_mfewest hn hI g2.1 (by omega) g1 ?_)
        refine go _ ?_
        show _ = nI (if gr then _ else ord p)
        rw [hb]
        rfl
  · rintro f i m hi ⟨g1, g2, g3⟩ ih
    show wp (f_Model_eliminates_L9_b f_Model_eliminates_J42 (f_Model_eliminates_L9 f_Model_eliminates_J42 f) (nI k) (bI gr) (nI G.1) (nI i) m) Q
    unfold f_Model_eliminates_L9_b
    have hm := h.fs g1
    refine w_f (nI_ge hi (by omega)) ?_
    refine w_bdk (s_near (by omega) hn hm hi (fun r hr => ?_))
    refine w_chk (in_N (by rw [show h_len 129 = 8 from rfl]; omega) (by decide)) ?_
    refine w_let ?_
    refine w_let ?_
    rw [nI_1, cl_8 (by omega)]
    refine ih _ ⟨g1.trans (Fs.wi (by omega) (by omega)), by rw [wi_o _ _ (by omega)]; exact g2, fun u hu w => ?_⟩
    rw [wi_e]
    by_cases e : u = i
    · rw [if_pos ⟨rfl, e⟩, e, b_not, b_one (by omega)]
      unfold elA
      cases hb : bt r w with
      | true =>
        obtain ⟨h5, h6⟩ := (hr w).mp hb
        rw [(hV.2.2 w i h5 hi).1] at h6
        have : decide (w = i) = decide (i = w) := by
          by_cases e : w = i
          · simp [e]
          · have e' : ¬ i = w := fun h => e h.symm
            simp [e, e']
        simp [hi, h5, h6, this]
      | false =>
        by_cases h5 : w < G.1
        · have : G.2.2 i w = 0 := Classical.byContradiction (fun hc => by
            rw [(hV.2.2 i w hi h5).1] at hc
            rw [(hr w).mpr ⟨h5, hc⟩] at hb; cases hb)
          simp [this]
        · simp [h5]
    · rw [if_neg (by omega)]; exact g3 u (by omega) w
theorem LM_greedy (a b : Int32) {μ : HMem} (h : SI μ) : Fc (f_Law_greedy a b μ) (f_Model_greedy a b) := by
  obtain ⟨σ, ok, hc, hr⟩ := h
  unfold Fc f_Law_greedy f_Bench_greedy
  rcases ix_g a (n := 4) (by omega) with ha | ⟨i, hi, rfl⟩
  · rw [e_graphAtX ha, bdx_r, bdt_r]
    refine w_ret ?_
    unfold f_Model_greedy
    rw [e_isVG ha, bd_some]
    exact w_f (by decide) (w_ret (Q_err ok hc hr (by decide) _))
  · rw [e_graphAt hi, bdx_l]
    have hri := hr.1 i hi
    have hci := hc.1 i hi
    have hV := ok.1 i hi
    have hn := hV.1
    rcases ix_g b (n := (σ.1 i).1) (by omega) with hb | ⟨v, hv, rfl⟩
    · rw [e_reqVX hci hb, bdx_r, bdt_r]
      refine w_ret ?_
      unfold f_Model_greedy
      rw [e_isVX hi hri hn hb, bd_some]
      exact w_f (by decide) (w_ret (Q_err ok hc hr (by decide) _))
    · rw [e_reqV hci hn hv, bdx_l]
      refine LM_obs ok (r := nI (elV true (fun _ => 0) (elR (σ.1 i).1 (σ.1 i).2.2 true (fun _ => 0) v) v)) ?_ (fun m2 c2 r2 => ?_)
      · refine w_bdk (s_runGreedily (isg_g hi) hci hV (fun _ => 0) (fun m1 a1 _ _ a2 => ?_))
        refine w_chk (in_N (by rw [show h_len 93 = 8 from rfl]; omega) (by decide)) ?_
        rw [cl_8 (by omega), a1.1 v hv]
        exact w_ret ⟨rfl, hc.fr a2 (by omega), hr.fr a2 (by omega)⟩
      · unfold f_Model_greedy
        rw [e_isV hi (r2.1 i hi) hn hv, bd_some]
        refine w_t (by decide) ?_
        refine w_bdk (s_eliminates hi (r2.1 i hi) hV true (fun _ => 0) (fun h => by cases h) (elV_ok hV _) (fun m3 a1 _ _ a2 => ?_))
        refine w_chk (in_N (by rw [show h_len 130 = 8 from rfl]; omega) (by decide)) ?_
        rw [cl_8 (by omega), a1.1 v hv]
        refine w_bde (e_tells _ _) ?_
        exact w_ret (ob_tell (c2.fs a2) (r2.fs a2) (by rw [a2.out]) _)
theorem LM_bag (a b : Int32) {μ : HMem} (h : SI μ) : Fc (f_Law_bag a b μ) (f_Model_bag a b) := by
  obtain ⟨σ, ok, hc, hr⟩ := h
  unfold Fc f_Law_bag f_Bench_bag
  rcases ix_g a (n := 4) (by omega) with ha | ⟨i, hi, rfl⟩
  · rw [e_graphAtX ha, bdx_r, bdt_r]
    refine w_ret ?_
    unfold f_Model_bag
    rw [e_isVG ha, bd_some]
    exact w_f (by decide) (w_ret (Q_err ok hc hr (by decide) _))
  · rw [e_graphAt hi, bdx_l]
    have hri := hr.1 i hi
    have hci := hc.1 i hi
    have hV := ok.1 i hi
    have hn := hV.1
    rcases ix_g b (n := (σ.1 i).1) (by omega) with hb | ⟨v, hv, rfl⟩
    · rw [e_reqVX hci hb, bdx_r, bdt_r]
      refine w_ret ?_
      unfold f_Model_bag
      rw [e_isVX hi hri hn hb, bd_some]
      exact w_f (by decide) (w_ret (Q_err ok hc hr (by decide) _))
    · rw [e_reqV hci hn hv, bdx_l]
      have hok := elV_ok hV (fun _ => 0)
      have hall : ∃ q, q < (σ.1 i).1 ∧ v = elV true (fun _ => 0) (elR (σ.1 i).1 (σ.1 i).2.2 true (fun _ => 0) q) q := by
        refine Classical.byContradiction (fun hcn => ?_)
        have hl : (elR (σ.1 i).1 (σ.1 i).2.2 true (fun _ => 0) (σ.1 i).1).2.1 v = true := (elL_R _ v).mpr ⟨hv, fun q hq e => hcn ⟨q, hq, e⟩⟩
        have hcc := elC_R hn (σ.1 i).1 hok
        have := cn_of0 (p := (elR (σ.1 i).1 (σ.1 i).2.2 true (fun _ => 0) (σ.1 i).1).2.1) (n := 8) (by omega) v (by omega)
        rw [hl] at this
        cases this
      obtain ⟨q, hq, ev⟩ := hall
      obtain ⟨x, m1, ex, hx⟩ := s_runGreedily (Q := fun _ m1 => elEnd (σ.1 i).1 (σ.1 i).2.2 true (fun _ => 0) 93 94 (σ.1 i).1 m1 ∧ Fr 92 96 μ m1) (isg_g hi) hci hV (fun _ => 0) (fun m1 a1 _ _ a2 => ⟨a1, a2⟩)
      obtain ⟨a1, a2⟩ := hx
      rw [ex, bd_some]
      refine LM_obs ok (r := m1.1 94 v) ?_ (fun m2 c2 r2 => ?_)
      · refine w_chk (in_N (by rw [show h_len 94 = 8 from rfl]; omega) (by decide)) ?_
        rw [cl_8 (by omega)]
        exact w_ret ⟨rfl, hc.fr a2 (by omega), hr.fr a2 (by omega)⟩
      · unfold f_Model_bag
        rw [e_isV hi (r2.1 i hi) hn hv, bd_some]
        refine w_t (by decide) ?_
        refine w_bdk (s_eliminates hi (r2.1 i hi) hV true (fun _ => 0) (fun h => by cases h) (elV_ok hV _) (fun m3 b1 _ _ b2 => ?_))
        refine w_chk (in_N (by rw [show h_len 131 = 8 from rfl]; omega) (by decide)) ?_
        rw [cl_8 (by omega)]
        refine w_bde (e_tells _ _) ?_
        have e : m3.1 131 v = m1.1 94 v := b_ext (fun w _ => by
          rw [ev, b1.2 q hq w, a1.2 q hq w])
        rw [e]
        exact w_ret (ob_tell (c2.fs b2) (r2.fs b2) (by rw [b2.out]) _)
