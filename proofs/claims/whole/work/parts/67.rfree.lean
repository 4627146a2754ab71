/-! 67: all components; free search (the reference) -/
def tS (Ex Ey : Nat → Nat → Int32) (M : Nat) (tn : Nat → Nat) (ad : Nat → Nat → Bool) (K : Nat) (g : Nat → Nat) : Prop := ∀ p, p < K → g p < M ∧ ad (tn p) (g p) = true ∧ ∀ q, q < K → ¬ Ex (tn p) (tn q) = 0 → ¬ Ey (g p) (g q) = 0
theorem tS.less {Ex Ey : Nat → Nat → Int32} {M : Nat} {tn : Nat → Nat} {ad : Nat → Nat → Bool} {K K' : Nat} {g : Nat → Nat} (h : tS Ex Ey M tn ad K g) (hK : K' ≤ K) : tS Ex Ey M tn ad K' g := fun p hp => ⟨(h p (by omega)).1, (h p (by omega)).2.1, fun q hq => (h p (by omega)).2.2 q (by omega)⟩
theorem tS_step {X Y : HG} (hX : GV X) (hY : GV Y) {many : Nat} {tn bg : Nat → Nat} (hT : Tu X.1 X.2.2 many tn bg) {ad : Nat → Nat → Bool} {c : Nat} (hc : c < many) : (∃ g, tS X.2.2 Y.2.2 Y.1 tn ad (bg (c + 1)) g) ↔ (∃ g, tS X.2.2 Y.2.2 Y.1 tn ad (bg c) g) ∧ ∃ a, pS X.2.2 Y.2.2 Y.1 tn ad (bg c) (bg (c + 1)) a := by
  obtain ⟨h1, h2, h3, h4, h5, h6, h7, h8, h9⟩ := hT
  have hlt := h7 c hc
  have hle := h8 (c + 1) (by omega)
  constructor
  · rintro ⟨g, hg⟩
    exact ⟨⟨g, hg.less (by omega)⟩, g, fun i hi hi2 => ⟨(hg i hi2).1, (hg i hi2).2.1, fun j hj hj2 => (hg i hi2).2.2 j (by omega)⟩⟩
  · rintro ⟨⟨g, hg⟩, a, ha⟩
    have symX : ∀ p q, p < bg (c + 1) → q < bg (c + 1) → X.2.2 (tn p) (tn q) = X.2.2 (tn q) (tn p) := fun p q hp hq => (hX.2.2 _ _ (h1 p (by omega)) (h1 q (by omega))).1
    refine ⟨fun p => if p < bg c then g p else a p, fun p hp => ?_⟩
    by_cases e : p < bg c
    · have eg : (if p < bg c then g p else a p) = g p := if_pos e
      show (if p < bg c then g p else a p) < Y.1 ∧ ad (tn p) (if p < bg c then g p else a p) = true ∧ ∀ q, q < bg (c + 1) → ¬ X.2.2 (tn p) (tn q) = 0 → ¬ Y.2.2 (if p < bg c then g p else a p) (if q < bg c then g q else a q) = 0
      rw [eg]
      refine ⟨(hg p e).1, (hg p e).2.1, fun q hq hE => ?_⟩
      by_cases e2 : q < bg c
      · rw [if_pos e2]
        exact (hg p e).2.2 q e2 hE
      · exact absurd (h9 c p q hc e (by omega) (by omega)) hE
    · have eg : (if p < bg c then g p else a p) = a p := if_neg e
      show (if p < bg c then g p else a p) < Y.1 ∧ ad (tn p) (if p < bg c then g p else a p) = true ∧ ∀ q, q < bg (c + 1) → ¬ X.2.2 (tn p) (tn q) = 0 → ¬ Y.2.2 (if p < bg c then g p else a p) (if q < bg c then g q else a q) = 0
      rw [eg]
      obtain ⟨a1, a2, a3⟩ := ha p (by omega) hp
      refine ⟨a1, a2, fun q hq hE => ?_⟩
      by_cases e2 : q < bg c
      · rw [symX p q hp hq] at hE
        exact absurd (h9 c q p hc e2 (by omega) (by omega)) hE
      · rw [if_neg e2]
        rcases Nat.lt_or_ge p q with h | h
        · obtain ⟨b1, b2, b3⟩ := ha q (by omega) hq
          have := b3 p (by omega) (by omega) (by rw [← symX p q hp hq]; exact hE)
          rwa [(hY.2.2 _ _ b1 a1).1] at this
        · exact a3 q (by omega) h hE
theorem Hm.cg {P : Nat → Bool} {ad ad' : Nat → Nat → Bool} {Ex Ey : Nat → Nat → Int32} {f : Nat → Nat} (h : Hm P ad Ex Ey f) (e : ∀ v t, P v = true → ad v t = ad' v t) : Hm P ad' Ex Ey f := ⟨fun v hv => by rw [← e v _ hv]; exact h.1 v hv, h.2⟩
theorem tS_hm {X Y : HG} {many : Nat} {tn bg : Nat → Nat} (hT : Tu X.1 X.2.2 many tn bg) {ad : Nat → Nat → Bool} : (∃ g, tS X.2.2 Y.2.2 Y.1 tn ad X.1 g) ↔ ∃ f, Hm (fun v => decide (v < X.1)) (fun v t => decide (t < Y.1) && ad v t) X.2.2 Y.2.2 f := by
  obtain ⟨h1, h2, h3, h4, h5, h6, h7, h8, h9⟩ := hT
  constructor
  · rintro ⟨g, hg⟩
    have pos : ∀ v, v < X.1 → ∃ p, p < X.1 ∧ tn p = v ∧ lst (fun q => tn q = v) X.1 = p := fun v hv => by
      obtain ⟨p, hp, e⟩ := h2 v hv
      exact ⟨p, hp, e, lst_eq hp e (fun u hu e2 => by have := h3 u p (by omega) hp (e2.trans e.symm); omega)⟩
    refine ⟨fun v => g (lst (fun q => tn q = v) X.1), fun v hv => ?_, fun u v hu hv hE => ?_⟩
    · obtain ⟨p, hp, e, e2⟩ := pos v (of_decide_eq_true hv)
      show (decide (g (lst (fun q => tn q = v) X.1) < Y.1) && ad v (g (lst (fun q => tn q = v) X.1))) = true
      rw [e2, decide_eq_true (hg p hp).1, Bool.true_and]
      have := (hg p hp).2.1
      rwa [e] at this
    · obtain ⟨p, hp, e, e2⟩ := pos u (of_decide_eq_true hu)
      obtain ⟨q, hq, e3, e4⟩ := pos v (of_decide_eq_true hv)
      show ¬ Y.2.2 (g (lst (fun q => tn q = u) X.1)) (g (lst (fun q => tn q = v) X.1)) = 0
      rw [e2, e4]
      exact (hg p hp).2.2 q hq (by rw [e, e3]; exact hE)
  · rintro ⟨f, hf1, hf2⟩
    refine ⟨fun p => f (tn p), fun p hp => ?_⟩
    have := hf1 (tn p) (decide_eq_true (h1 p hp))
    rw [Bool.and_eq_true, decide_eq_true_iff] at this
    exact ⟨this.1, this.2, fun q hq hE => hf2 _ _ (decide_eq_true (h1 p hp)) (decide_eq_true (h1 q hq)) hE⟩
theorem s_isThere {μ : HMem} {kx ky : Nat} {X Y : HG} (hkx : kx < 6) (hky : ky < 6) (hX : GV X) (hY : GV Y) (h1 : RG (μ.1 126) (73 * kx) X) (h2 : RG (μ.1 126) (73 * ky) Y) {bn : Int32} {Q : Int32 → HMem → Prop} (hQ : ∀ b μ', (b = true ↔ ∃ f, Hm (fun v => decide (v < X.1)) (fun v t => decide (t < Y.1) && adB bn (μ.1 135) v t) X.2.2 Y.2.2 f) → Fr 133 137 μ μ' → μ'.1 135 = μ.1 135 → Q (bI b) μ') : wp (f_Model_isThere (nI kx) (nI ky) bn μ) Q := by
  have nX := hX.1
  have nY := hY.1
  unfold f_Model_isThere
  refine w_bdk (s_turns hkx nX h1 (fun many tn bg m1 hT g1 g2 g3 g4 => ?_))
  have hT' := hT
  obtain ⟨u1, u2, u3, u4, u5, u6, u7, u8, u9⟩ := hT'
  refine w_for (fun f c (y : Bool × HMem) => wp (f_Model_isThere_L13 f_Model_isThere_J56 f (nI kx) (nI ky) bn (nI many) (bI y.1) (nI c) y.2) Q) (fun c y => (y.1 = true ↔ ∃ g, tS X.2.2 Y.2.2 Y.1 tn (adB bn (μ.1 135)) (bg c) g) ∧ Fr 133 134 m1 y.2) many ?_ ?_ 0 (true, m1) (by omega) (by omega) ⟨⟨fun _ => ⟨fun _ => 0, fun p hp => by rw [u5] at hp; exact absurd hp (Nat.not_lt_zero _)⟩, fun _ => rfl⟩, Fr.refl _ _ _⟩
  · rintro f ⟨b, m⟩ ⟨k1, k2⟩
    show wp (f_Model_isThere_L13_b f_Model_isThere_J56 (f_Model_isThere_L13 f_Model_isThere_J56 f) (nI kx) (nI ky) bn (nI many) (bI b) (nI many) m) Q
    unfold f_Model_isThere_L13_b f_Model_isThere_J56
    refine w_t (nI_le (Nat.le_refl _) (by omega)) ?_
    rw [e_J]
    replace k1 : b = true ↔ ∃ g, tS X.2.2 Y.2.2 Y.1 tn (adB bn (μ.1 135)) (bg many) g := k1
    rw [u6] at k1
    replace k2 : Fr 133 134 m1 m := k2
    exact w_ret (hQ b m (k1.trans (tS_hm hT)) (g3.trans k2 (by omega) (by omega) (by omega) (by omega)) (by rw [k2.i (by omega), g4]))
  · rintro f c ⟨b, m⟩ hc ⟨k1, k2⟩ ih
    show wp (f_Model_isThere_L13_b f_Model_isThere_J56 (f_Model_isThere_L13 f_Model_isThere_J56 f) (nI kx) (nI ky) bn (nI many) (bI b) (nI c) m) Q
    unfold f_Model_isThere_L13_b f_Model_isThere_J56
    replace k1 : b = true ↔ ∃ g, tS X.2.2 Y.2.2 Y.1 tn (adB bn (μ.1 135)) (bg c) g := k1
    replace k2 : Fr 133 134 m1 m := k2
    refine w_f (nI_ge hc (by omega)) ?_
    rw [e_J]
    refine w_if (fun h0 => ?_) (fun h0 => ?_)
    · rw [bI_0] at h0
      refine w_ret (hQ b m ?_ (g3.trans k2 (by omega) (by omega) (by omega) (by omega)) (by rw [k2.i (by omega), g4]))
      rw [← tS_hm hT]
      constructor
      · intro h; rw [h0] at h; cases h
      · rintro ⟨g, hg⟩
        exact k1.mpr ⟨g, hg.less (u8 c (by omega))⟩
    · rw [bI_n] at h0
      refine w_chk (in_N (by rw [show h_len 136 = 9 from rfl]; omega) (by decide)) ?_
      rw [nI_1]
      refine w_chk (in_N (by rw [show h_len 136 = 9 from rfl]; omega) (by decide)) ?_
      rw [cl_8 (by omega), cl_8 (by omega), k2.i (c := 136) (by omega), g2 c (by omega), g2 (c + 1) (by omega)]
      have hlt := u7 c hc
      have hle := u8 (c + 1) (by omega)
      have e1 : bg (c + 1) = bg c + (bg (c + 1) - bg c) := by omega
      have f01 : Fr 133 137 μ m := g3.trans k2 (by omega) (by omega) (by omega) (by omega)
      have l135 : m.1 135 = μ.1 135 := by rw [k2.i (by omega), g4]
      rw [e1]
      refine w_bdk (s_isPart (tn := tn) hkx hky nX nY (by rw [f01.i (by omega)]; exact h1) (by rw [f01.i (by omega)]; exact h2) (by omega) (by omega) (fun p hp => ⟨by rw [k2.i (by omega)]; exact g1 p hp, u1 p hp⟩) u3 (fun b2 m2 hb2 f2 => ?_))
      rw [← e1, l135] at hb2
      refine w_let ?_
      refine ih (b2, m2) ⟨?_, k2.trans f2 (by omega) (by omega) (by omega) (by omega)⟩
      show b2 = true ↔ ∃ g, tS X.2.2 Y.2.2 Y.1 tn (adB bn (μ.1 135)) (bg (c + 1)) g
      rw [tS_step hX hY hT hc, hb2]
      exact ⟨fun h => ⟨k1.mp h0, h⟩, fun h => h.2⟩
theorem s_isFree {μ : HMem} {kx ky : Nat} {X Y : HG} (hkx : kx < 6) (hky : ky < 6) (hX : GV X) (hY : GV Y) (h1 : RG (μ.1 126) (73 * kx) X) (h2 : RG (μ.1 126) (73 * ky) Y) {bn : Int32} {Q : Int32 → HMem → Prop} (hQ : ∀ b μ', (b = true ↔ ∃ f, Hm (fun v => decide (v < X.1)) (fun _ t => decide (t < Y.1) && !decide (nI t = bn)) X.2.2 Y.2.2 f) → Fr 133 137 μ μ' → (∀ v, v < 8 → μ'.1 135 v = -1) → Q (bI b) μ') : wp (f_Model_isFree (nI kx) (nI ky) bn μ) Q := by
  unfold f_Model_isFree
  refine w_bdk (s_frees (fun m1 l1 f1 => ?_))
  refine w_bdk (s_isThere hkx hky hX hY (by rw [f1.i (by omega)]; exact h1) (by rw [f1.i (by omega)]; exact h2) (fun b m2 hb f2 l2 => ?_))
  rw [e_J]
  have e : ∀ v t, decide (v < X.1) = true → (decide (t < Y.1) && adB bn (m1.1 135) v t) = (decide (t < Y.1) && !decide (nI t = bn)) := fun v t hv => by
    have hv := of_decide_eq_true hv
    have := hX.1
    unfold adB
    rw [l1 v (by omega), decide_eq_true (show (-1 : Int32) < 0 by decide), Bool.true_or, Bool.and_true]
  refine w_ret (hQ b m2 (hb.trans ⟨fun ⟨f, hf⟩ => ⟨f, hf.cg e⟩, fun ⟨f, hf⟩ => ⟨f, hf.cg (fun v t hv => (e v t hv).symm)⟩⟩) (f1.trans f2 (by omega) (by omega) (by omega) (by omega)) (fun v hv => by rw [l2]; exact l1 v hv))
