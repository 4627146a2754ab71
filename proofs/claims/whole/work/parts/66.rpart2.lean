/-! 66: the search of one component, by going back -/
abbrev DS : Type := Nat × (Nat → Nat) × Nat × HMem
def dsF (fr L : Nat) (j : Nat) (a : Nat → Nat) (t : Nat) : Nat := match j with
  | 0 => 0
  | j + 1 => sm (fun i => (8 - a (fr + i)) * 10 ^ (8 - i)) j + (if j < L then (9 - t) * 10 ^ (8 - j) else 0)
def dsz (fr L : Nat) (s : DS) : Nat := dsF fr L s.1 s.2.1 s.2.2.1
/-- no answer lies behind -/
def Ded (S : (Nat → Nat) → Prop) (fr L : Nat) (j : Nat) (a : Nat → Nat) (t : Nat) : Prop := ∀ b, S b → 0 < j ∧ ∀ p, fr ≤ p → p < fr + j → (∀ q, fr ≤ q → q < p → b q = a q) → (p + 1 < fr + j → a p ≤ b p) ∧ (p + 1 = fr + j → j ≤ L → t ≤ b p)
def DI (Ex Ey : Nat → Nat → Int32) (M : Nat) (tn : Nat → Nat) (ad : Nat → Nat → Bool) (fr L : Nat) (μ : HMem) (s : DS) : Prop := s.1 ≤ L + 1 ∧ Fr 133 134 μ s.2.2.2 ∧ (∀ i, fr ≤ i → i + 1 < fr + s.1 → s.2.2.2.1 133 (tn i) = nI (s.2.1 i) ∧ s.2.1 i < M ∧ pO Ex Ey tn ad fr s.2.1 i) ∧ (0 < s.1 → s.1 ≤ L → s.2.2.1 ≤ M ∧ s.2.2.2.1 133 (tn (fr + (s.1 - 1))) = nI s.2.2.1 - 1) ∧ Ded (pS Ex Ey M tn ad fr (fr + L)) fr L s.1 s.2.1 s.2.2.1
theorem pre_ne : ∀ a, a < 10 → ∀ b, b < 10 → a ≤ b → ¬ nI a - 1 = nI b := by decide +kernel
theorem pre_lt : ∀ a, a < 10 → nI a - 1 < nI a := by decide +kernel
theorem dsz_down {fr L j t t1 : Nat} {a a2 : Nat → Nat} (hj : j < L) (hL : L ≤ 8) (ht : t ≤ t1) (h1 : t1 < 8) (ha : ∀ i, i < j → a2 (fr + i) = a (fr + i)) (h2 : a2 (fr + j) = t1) : dsF fr L (j + 2) a2 0 < dsF fr L (j + 1) a t := by
  show sm (fun i => (8 - a2 (fr + i)) * 10 ^ (8 - i)) j + (8 - a2 (fr + j)) * 10 ^ (8 - j) + (if j + 1 < L then (9 - 0) * 10 ^ (8 - (j + 1)) else 0) < sm (fun i => (8 - a (fr + i)) * 10 ^ (8 - i)) j + (if j < L then (9 - t) * 10 ^ (8 - j) else 0)
  rw [if_pos hj]
  have e1 : sm (fun i => (8 - a2 (fr + i)) * 10 ^ (8 - i)) j = sm (fun i => (8 - a (fr + i)) * 10 ^ (8 - i)) j := sm_ext (fun i hi => by rw [ha i hi])
  rw [e1, h2]
  have e2 : 10 ^ (8 - j) = 10 * 10 ^ (8 - (j + 1)) := by
    rw [show 8 - j = (8 - (j + 1)) + 1 by omega, Nat.pow_succ, Nat.mul_comm]
  have e3 : 0 < 10 ^ (8 - (j + 1)) := Nat.pow_pos (by omega)
  have e4 : (8 - t1 + 1) * 10 ^ (8 - j) ≤ (9 - t) * 10 ^ (8 - j) := Nat.mul_le_mul_right _ (by omega)
  rw [Nat.succ_mul] at e4
  have e5 : (if j + 1 < L then (9 - 0) * 10 ^ (8 - (j + 1)) else 0) ≤ 9 * 10 ^ (8 - (j + 1)) := by
    by_cases h : j + 1 < L
    · rw [if_pos h]; exact Nat.le_refl _
    · rw [if_neg h]; exact Nat.zero_le _
  generalize (if j + 1 < L then (9 - 0) * 10 ^ (8 - (j + 1)) else 0) = z at e5 ⊢
  generalize (8 - t1) * 10 ^ (8 - j) = z1 at e4 ⊢
  generalize (9 - t) * 10 ^ (8 - j) = z2 at e4 ⊢
  omega
theorem dsz_up {fr L j t : Nat} {a : Nat → Nat} (hj : j < L) (ht : t ≤ 8) (hL : L ≤ 8) : dsF fr L j a (a (fr + (j - 1)) + 1) < dsF fr L (j + 1) a t := by
  have e3 : 0 < 10 ^ (8 - j) := Nat.pow_pos (by omega)
  have e4 : 1 * 10 ^ (8 - j) ≤ (9 - t) * 10 ^ (8 - j) := Nat.mul_le_mul_right _ (by omega)
  show _ < sm (fun i => (8 - a (fr + i)) * 10 ^ (8 - i)) j + (if j < L then (9 - t) * 10 ^ (8 - j) else 0)
  rw [if_pos hj]
  cases j with
  | zero =>
    show 0 < _
    omega
  | succ j =>
    show sm (fun i => (8 - a (fr + i)) * 10 ^ (8 - i)) j + (if j < L then (9 - (a (fr + j) + 1)) * 10 ^ (8 - j) else 0) < sm (fun i => (8 - a (fr + i)) * 10 ^ (8 - i)) j + (8 - a (fr + j)) * 10 ^ (8 - j) + _
    rw [if_pos (by omega), show 9 - (a (fr + j) + 1) = 8 - a (fr + j) by omega]
    omega
theorem s_isPart {μ : HMem} {kx ky : Nat} {X Y : HG} (hkx : kx < 6) (hky : ky < 6) (hX : X.1 ≤ 8) (hY : Y.1 ≤ 8) (h1 : RG (μ.1 126) (73 * kx) X) (h2 : RG (μ.1 126) (73 * ky) Y) {bn : Int32} {tn : Nat → Nat} {fr L : Nat} (hL : 0 < L) (hto : fr + L ≤ X.1) (ht : ∀ p, p < X.1 → μ.1 134 p = nI (tn p) ∧ tn p < X.1) (inj : ∀ p q, p < X.1 → q < X.1 → tn p = tn q → p = q) {Q : Int32 → HMem → Prop} (hQ : ∀ b μ', (b = true ↔ ∃ a, pS X.2.2 Y.2.2 Y.1 tn (adB bn (μ.1 135)) fr (fr + L) a) → Fr 133 134 μ μ' → Q (bI b) μ') : wp (f_Model_isPart (nI kx) (nI ky) (nI fr) (nI (fr + L)) bn μ) Q := by
  obtain ⟨t1, t2⟩ := ht fr (by omega)
  unfold f_Model_isPart
  refine w_chk (in_8 (by omega) rfl) ?_
  rw [cl_8 (by omega), t1]
  refine w_chk (in_N (by rw [show h_len 133 = 9 from rfl]; omega) (by decide)) ?_
  refine w_let ?_
  rw [cl_8 (by omega), show nI fr = nI (fr + 1) - 1 from (nI_pred fr).symm]
  refine w_loopF (fun f (s : DS) => wp (f_Model_isPart_L15 f_Model_isPart_J138 f (nI kx) (nI ky) (nI (fr + 1) - 1) (nI (fr + L)) bn (nI (fr + s.1) - 1) s.2.2.2) Q) (DI X.2.2 Y.2.2 Y.1 tn (adB bn (μ.1 135)) fr L μ) (dsz fr L) ?_ (1, fun _ => 0, 0, h_wi μ 133 (tn fr) (-1)) ⟨by show 1 ≤ L + 1; omega, Fr.wi (by omega) (by omega), fun i hi hi2 => by replace hi2 : i + 1 < fr + 1 := hi2; omega, fun _ _ => ⟨Nat.zero_le _, ?_⟩, fun b _ => ⟨Nat.lt_succ_self 0, fun p hp hp2 _ => ⟨fun hp3 => (by replace hp3 : p + 1 < fr + 1 := hp3; omega), fun _ _ => Nat.zero_le _⟩⟩⟩ ?_
  · rintro f ⟨j, a, t, m⟩ ⟨g1, g2, g3, g4, g5⟩ ih
    show wp (f_Model_isPart_L15_b f_Model_isPart_J138 (f_Model_isPart_L15 f_Model_isPart_J138 f) (nI kx) (nI ky) (nI (fr + 1) - 1) (nI (fr + L)) bn (nI (fr + j) - 1) m) Q
    replace g1 : j ≤ L + 1 := g1
    replace g2 : Fr 133 134 μ m := g2
    replace g3 : ∀ i, fr ≤ i → i + 1 < fr + j → m.1 133 (tn i) = nI (a i) ∧ a i < Y.1 ∧ pO X.2.2 Y.2.2 tn (adB bn (μ.1 135)) fr a i := g3
    replace g4 : 0 < j → j ≤ L → t ≤ Y.1 ∧ m.1 133 (tn (fr + (j - 1))) = nI t - 1 := g4
    replace g5 : Ded (pS X.2.2 Y.2.2 Y.1 tn (adB bn (μ.1 135)) fr (fr + L)) fr L j a t := g5
    unfold f_Model_isPart_L15_b
    cases j with
    | zero =>
      refine w_t (by rw [nI_pred]; exact pre_lt fr (by omega)) ?_
      unfold f_Model_isPart_J138 f_Model_isPart_J150
      refine w_t (pre_ne _ (by omega) _ (by omega) (by omega)) ?_
      rw [e_J0]
      exact w_ret (hQ false m ⟨fun h => (by cases h), fun ⟨b, hb⟩ => absurd (g5 b hb).1 (Nat.lt_irrefl 0)⟩ g2)
    | succ j =>
      rw [show nI (fr + (j + 1)) - 1 = nI (fr + j) from nI_pred (fr + j), show nI (fr + 1) - 1 = nI fr from nI_pred fr]
      refine w_f (nI_nlt (by omega) (by omega)) ?_
      rcases Nat.lt_or_ge j L with hj | hj
      · refine w_f (nI_ge (by omega) (by omega)) ?_
        obtain ⟨u1, u2⟩ := ht (fr + j) (by omega)
        obtain ⟨g4a, g4b⟩ := g4 (by omega) (by omega)
        replace g4b : m.1 133 (tn (fr + j)) = nI t - 1 := g4b
        refine w_chk (in_8 (by omega) rfl) ?_
        rw [cl_8 (by omega), g2.i (c := 134) (by omega), u1]
        refine w_let ?_
        refine w_chk (in_N (by rw [show h_len 133 = 9 from rfl]; omega) (by decide)) ?_
        refine w_chk (in_N (by rw [show h_len 133 = 9 from rfl]; omega) (by decide)) ?_
        refine w_let ?_
        rw [cl_8 (by omega), g4b, show nI t - 1 + 1 = nI t by rw [← dn, Int32.add_assoc, show (-1 : Int32) + 1 = 0 by decide, Int32.add_zero]]
        refine w_for (fun f2 s (m2 : HMem) => wp (f_Model_isPart_L48 (f_Model_isPart_J91 (f_Model_isPart_L15 f_Model_isPart_J138 f)) f2 (nI kx) (nI ky) (nI fr) (nI (fr + L)) bn (nI (fr + j)) (nI (tn (fr + j))) m2) Q) (fun s m2 => t ≤ s ∧ Fr 133 134 m m2 ∧ m2.1 133 (tn (fr + j)) = nI s ∧ (∀ i, fr ≤ i → i < fr + j → m2.1 133 (tn i) = nI (a i)) ∧ ∀ s', t ≤ s' → s' < s → ¬ pO X.2.2 Y.2.2 tn (adB bn (μ.1 135)) fr (fun i => if i = fr + j then s' else a i) (fr + j)) Y.1 ?_ ?_ t _ g4a (by omega) ⟨Nat.le_refl _, Fr.wi (by omega) (by omega), wi_s _ _ _ _, fun i hi hi2 => ?_, fun s' h3 h4 => by omega⟩
        · /- none left: one place back -/
          rintro f2 m2 ⟨k1, k2, k3, k4, k5⟩
          show wp (f_Model_isPart_L48_b (f_Model_isPart_J91 (f_Model_isPart_L15 f_Model_isPart_J138 f)) (f_Model_isPart_L48 (f_Model_isPart_J91 (f_Model_isPart_L15 f_Model_isPart_J138 f)) f2) (nI kx) (nI ky) (nI fr) (nI (fr + L)) bn (nI (fr + j)) (nI (tn (fr + j))) m2) Q
          unfold f_Model_isPart_L48_b f_Model_isPart_J91 f_Model_isPart_J135
          have r2 : RG (m2.1 126) (73 * ky) Y := by rw [k2.i (by omega), g2.i (by omega)]; exact h2
          refine w_chk (in_N (by rw [show h_len 133 = 9 from rfl]; omega) (by decide)) ?_
          refine w_bde (e_msize hky r2) ?_
          rw [cl_8 (by omega), k3]
          refine w_t (nI_le (Nat.le_refl _) (by omega)) ?_
          refine w_chk (in_N (by rw [show h_len 133 = 9 from rfl]; omega) (by decide)) ?_
          refine w_bde (e_msize hky r2) ?_
          refine w_t (nI_le (Nat.le_refl _) (by omega)) ?_
          refine w_let ?_
          rw [dn, show nI fr = nI (fr + 1) - 1 from (nI_pred fr).symm]
          have last : ∀ b, pS X.2.2 Y.2.2 Y.1 tn (adB bn (μ.1 135)) fr (fr + L) b → ¬ ∀ q, fr ≤ q → q < fr + j → b q = a q := by
            intro b hb hq
            have c1 := ((g5 b hb).2 (fr + j) (by omega) (by omega) hq).2 (by omega) (by omega)
            obtain ⟨c2, c3⟩ := hb (fr + j) (by omega) (by omega)
            refine k5 (b (fr + j)) c1 c2 (c3.cg (by omega) (fun i h3 h4 => ?_))
            show (if i = fr + j then b (fr + j) else a i) = b i
            by_cases e : i = fr + j
            · rw [if_pos e, e]
            · rw [if_neg e, hq i h3 (by omega)]
          refine ih (j, a, a (fr + (j - 1)) + 1, m2) ⟨by show j ≤ L + 1; omega, g2.trans k2 (by omega) (by omega) (by omega) (by omega), fun i h3 h4 => ?_, fun h3 h4 => ?_, fun b hb => ?_⟩ (dsz_up (t := t) (by omega) (by omega) (by omega))
          · replace h4 : i + 1 < fr + j := h4
            obtain ⟨_, q2, q3⟩ := g3 i h3 (by omega)
            exact ⟨k4 i h3 (by omega), q2, q3⟩
          · replace h3 : 0 < j := h3
            obtain ⟨q1, q2, q3⟩ := g3 (fr + (j - 1)) (by omega) (by omega)
            refine ⟨by show a (fr + (j - 1)) + 1 ≤ Y.1; omega, ?_⟩
            show m2.1 133 (tn (fr + (j - 1))) = nI (a (fr + (j - 1)) + 1) - 1
            rw [nI_pred]
            exact k4 _ (by omega) (by omega)
          · have hl := last b hb
            have hj0 : 0 < j := by
              rcases Nat.eq_zero_or_pos j with e | e
              · exact absurd (fun q h3 h4 => by omega) hl
              · exact e
            refine ⟨hj0, fun p h3 h4 h5 => ⟨fun h6 => ?_, fun h6 _ => ?_⟩⟩
            · exact ((g5 b hb).2 p h3 (by omega) h5).1 (by omega)
            · have c1 := ((g5 b hb).2 p h3 (by omega) h5).1 (by omega)
              have ep : fr + (j - 1) = p := by omega
              show a (fr + (j - 1)) + 1 ≤ b p
              rw [ep]
              refine Nat.lt_of_le_of_ne c1 (fun e => hl (fun q h7 h8 => ?_))
              rcases Nat.lt_or_ge q p with h9 | h9
              · exact h5 q h7 h9
              · have : q = p := by omega
                rw [this, e]
        · rintro f2 s m2 hs ⟨k1, k2, k3, k4, k5⟩ ih2
          show wp (f_Model_isPart_L48_b (f_Model_isPart_J91 (f_Model_isPart_L15 f_Model_isPart_J138 f)) (f_Model_isPart_L48 (f_Model_isPart_J91 (f_Model_isPart_L15 f_Model_isPart_J138 f)) f2) (nI kx) (nI ky) (nI fr) (nI (fr + L)) bn (nI (fr + j)) (nI (tn (fr + j))) m2) Q
          unfold f_Model_isPart_L48_b
          have r1 : RG (m2.1 126) (73 * kx) X := by rw [k2.i (by omega), g2.i (by omega)]; exact h1
          have r2 : RG (m2.1 126) (73 * ky) Y := by rw [k2.i (by omega), g2.i (by omega)]; exact h2
          have l135 : m2.1 135 = μ.1 135 := by rw [k2.i (by omega), g2.i (by omega)]
          refine w_chk (in_N (by rw [show h_len 133 = 9 from rfl]; omega) (by decide)) ?_
          refine w_bde (e_msize hky r2) ?_
          rw [cl_8 (by omega), k3]
          refine w_f (nI_ge hs (by omega)) ?_
          refine w_bdk (s_goes (tn := tn) (a := fun i => if i = fr + j then s else a i) hkx hky hX hY r1 r2 (show fr ≤ fr + j by omega) (by omega) (fun p h3 h4 => ?_) (fun p h3 h4 => ?_) (fun b hb => ?_))
          · rw [k2.i (c := 134) (by omega), g2.i (c := 134) (by omega)]
            exact ht p (by omega)
          · show m2.1 133 (tn p) = nI (if p = fr + j then s else a p) ∧ (if p = fr + j then s else a p) < Y.1
            by_cases e : p = fr + j
            · rw [if_pos e, e]
              exact ⟨k3, hs⟩
            · rw [if_neg e]
              exact ⟨k4 p h3 (by omega), (g3 p h3 (by omega)).2.1⟩
          · rw [l135] at hb
            refine w_if (fun h3 => ?_) (fun h3 => ?_)
            · rw [bI_n] at h3
              have hp := hb.mp h3
              unfold f_Model_isPart_J91 f_Model_isPart_J135
              refine w_chk (in_N (by rw [show h_len 133 = 9 from rfl]; omega) (by decide)) ?_
              refine w_bde (e_msize hky r2) ?_
              rw [cl_8 (by omega), k3]
              refine w_f (nI_ge hs (by omega)) ?_
              refine w_let ?_
              rw [nI_1]
              have a2e : ∀ i, i < fr + j → (if i = fr + j then s else a i) = a i := fun i hi => if_neg (by omega)
              have dd : ∀ b, pS X.2.2 Y.2.2 Y.1 tn (adB bn (μ.1 135)) fr (fr + L) b → 0 < j + 2 ∧ ∀ p, fr ≤ p → p < fr + (j + 2) → (∀ q, fr ≤ q → q < p → b q = (if q = fr + j then s else a q)) → (p + 1 < fr + (j + 2) → (if p = fr + j then s else a p) ≤ b p) ∧ (p + 1 = fr + (j + 2) → j + 2 ≤ L → 0 ≤ b p) := by
                intro b hb'
                refine ⟨by omega, fun p h4 h5 h6 => ⟨fun h7 => ?_, fun _ _ => Nat.zero_le _⟩⟩
                have h6' : ∀ q, fr ≤ q → q < p → b q = a q := fun q h8 h9 => by rw [h6 q h8 h9, a2e q (by omega)]
                obtain ⟨c1, c2⟩ := (g5 b hb').2 p h4 (by omega) h6'
                by_cases e : p = fr + j
                · rw [if_pos e]
                  have c3 := c2 (by omega) (by omega)
                  refine Nat.le_of_not_lt (fun hlt => ?_)
                  obtain ⟨c4, c5⟩ := hb' p h4 (by omega)
                  subst e
                  refine k5 (b (fr + j)) c3 hlt (c5.cg (by omega) (fun i h8 h9 => ?_))
                  show (if i = fr + j then b (fr + j) else a i) = b i
                  by_cases e : i = fr + j
                  · rw [if_pos e, e]
                  · rw [if_neg e, h6' i h8 (by omega)]
                · rw [if_neg e]
                  exact c1 (by omega)
              have ms : ∀ m3, dsz fr L (j + 2, (fun i => if i = fr + j then s else a i), 0, m3) < dsz fr L (j + 1, a, t, m) := fun m3 => dsz_down (a := a) (a2 := fun i => if i = fr + j then s else a i) hj (by omega) k1 (by omega) (fun i hi => a2e (fr + i) (by omega)) (if_pos rfl)
              have old : ∀ i, fr ≤ i → i + 1 < fr + (j + 2) → m2.1 133 (tn i) = nI (if i = fr + j then s else a i) ∧ (if i = fr + j then s else a i) < Y.1 ∧ pO X.2.2 Y.2.2 tn (adB bn (μ.1 135)) fr (fun i => if i = fr + j then s else a i) i := by
                intro i h4 h5
                by_cases e : i = fr + j
                · rw [if_pos e, e]
                  exact ⟨k3, hs, hp⟩
                · rw [if_neg e]
                  obtain ⟨_, q2, q3⟩ := g3 i h4 (by omega)
                  exact ⟨k4 i h4 (by omega), q2, q3.cg h4 (fun q h8 h9 => a2e q (by omega))⟩
              refine w_if (fun h4 => ?_) (fun h4 => ?_)
              · have h4 := (nI_leI (by omega) (by omega)).mp h4
                rw [show nI fr = nI (fr + 1) - 1 from (nI_pred fr).symm, show nI (fr + j + 1) = nI (fr + (j + 2)) - 1 from (nI_pred (fr + j + 1)).symm]
                exact ih (j + 2, (fun i => if i = fr + j then s else a i), 0, m2) ⟨by show j + 2 ≤ L + 1; omega, g2.trans k2 (by omega) (by omega) (by omega) (by omega), old, fun _ h5 => (by replace h5 : j + 2 ≤ L := h5; omega), dd⟩ (ms m2)
              · have h4 : fr + j + 1 < fr + L := Nat.lt_of_not_le (fun h => h4 (nI_le h (by omega)))
                obtain ⟨w1, w2⟩ := ht (fr + j + 1) (by omega)
                refine w_chk (in_8 (by omega) rfl) ?_
                rw [cl_8 (by omega), k2.i (c := 134) (by omega), g2.i (c := 134) (by omega), w1]
                refine w_chk (in_N (by rw [show h_len 133 = 9 from rfl]; omega) (by decide)) ?_
                refine w_let ?_
                rw [cl_8 (by omega), show nI fr = nI (fr + 1) - 1 from (nI_pred fr).symm, show nI (fr + j + 1) = nI (fr + (j + 2)) - 1 from (nI_pred (fr + j + 1)).symm]
                refine ih (j + 2, (fun i => if i = fr + j then s else a i), 0, h_wi m2 133 (tn (fr + j + 1)) (-1)) ⟨by show j + 2 ≤ L + 1; omega, (g2.trans k2 (by omega) (by omega) (by omega) (by omega) : Fr 133 134 μ m2).trans (Fr.wi (a := 133) (b := 134) (by omega) (by omega)) (by omega) (by omega) (by omega) (by omega), fun i h5 h6 => ?_, fun _ _ => ⟨Nat.zero_le _, ?_⟩, dd⟩ (ms _)
                · replace h6 : i + 1 < fr + (j + 2) := h6
                  obtain ⟨q1, q2⟩ := old i h5 h6
                  refine ⟨?_, q2⟩
                  show (h_wi m2 133 (tn (fr + j + 1)) (-1)).1 133 (tn i) = _
                  rw [wi_n _ _ (Or.inr (fun e => by have := inj i (fr + j + 1) (by omega) (by omega) e; omega))]
                  exact q1
                · show (h_wi m2 133 (tn (fr + j + 1)) (-1)).1 133 (tn (fr + (j + 2 - 1))) = nI 0 - 1
                  rw [show fr + (j + 2 - 1) = fr + j + 1 by omega, wi_s]
                  decide
            · have h3 := Classical.not_not.mp h3
              rw [bI_0] at h3
              refine w_chk (in_N (by rw [show h_len 133 = 9 from rfl]; omega) (by decide)) ?_
              refine w_chk (in_N (by rw [show h_len 133 = 9 from rfl]; omega) (by decide)) ?_
              refine w_let ?_
              rw [k3, nI_1]
              refine ih2 _ ⟨by omega, k2.trans (Fr.wi (a := 133) (b := 134) (by omega) (by omega)) (by omega) (by omega) (by omega) (by omega), wi_s _ _ _ _, fun i h4 h5 => ?_, fun s' h4 h5 => ?_⟩
              · rw [wi_n _ _ (Or.inr (fun e => by have := inj i (fr + j) (by omega) (by omega) e; omega))]
                exact k4 i h4 h5
              · rcases Nat.lt_or_ge s' s with h6 | h6
                · exact k5 s' h4 h6
                · have : s' = s := by omega
                  subst this
                  exact fun hp => by rw [hb.mpr hp] at h3; cases h3
        · rw [wi_n _ _ (Or.inr (fun e => by have := inj i (fr + j) (by omega) (by omega) e; omega))]
          exact (g3 i hi (by omega)).1
      · have ej : j = L := by omega
        subst ej
        refine w_t (nI_le (Nat.le_refl _) (by omega)) ?_
        unfold f_Model_isPart_J138 f_Model_isPart_J150
        refine w_f (fun h => h rfl) ?_
        rw [e_J1]
        refine w_ret (hQ true m ⟨fun _ => ⟨a, fun i h3 h4 => (g3 i h3 (by omega)).2⟩, fun _ => rfl⟩ g2)
  · show (h_wi μ 133 (tn fr) (-1)).1 133 (tn (fr + (1 - 1))) = nI 0 - 1
    rw [show fr + (1 - 1) = fr by omega, wi_s]
    decide
  · show 0 + (if 0 < L then (9 - 0) * 10 ^ (8 - 0) else 0) < _
    rw [if_pos hL]
    decide
