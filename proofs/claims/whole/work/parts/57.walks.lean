/-! 57: independent sets, walks -/
def isP (n : Nat) (E : Nat → Nat → Int32) (k : Nat) : Prop := ∀ v, v < n → k.testBit v = true → ∀ u, u < n → k.testBit u = true → E v u = 0
noncomputable def isB (n : Nat) (E : Nat → Nat → Int32) (b : Int32) (k : Nat) : Bool := @decide ((b = -1 ∨ nI (cn (bt (nI k)) 8) = b) ∧ isP n E k) (Classical.propDecidable _)
theorem isB_t {n : Nat} {E : Nat → Nat → Int32} {b : Int32} {k : Nat} : isB n E b k = true ↔ (b = -1 ∨ nI (cn (bt (nI k)) 8) = b) ∧ isP n E k := @decide_eq_true_iff _ (Classical.propDecidable _)
theorem p2_8 {n : Nat} (hn : n ≤ 8) : 2 ^ n ≤ 256 := Nat.le_trans (Nat.pow_le_pow_right (by omega) hn) (by decide)
theorem p2_1 (n : Nat) : 1 ≤ 2 ^ n := Nat.one_le_two_pow
theorem LM_independent (a b : Int32) {μ : HMem} (h : SI μ) : Fc (f_Law_independent a b μ) (f_Model_independent a b) := by
  obtain ⟨σ, ok, hc, hr⟩ := h
  unfold Fc f_Law_independent f_Bench_independent
  rcases ix_g a (n := 4) (by omega) with ha | ⟨i, hi, rfl⟩
  · rw [e_graphAtX ha, bdx_r, bdt_r]
    refine w_ret ?_
    unfold f_Model_independent
    rw [e_isGX ha, bd_some]
    exact w_f (by decide) (w_ret (Q_err ok hc hr (by decide) _))
  · rw [e_graphAt hi, bdx_l]
    have hV := ok.1 i hi
    have hn := hV.1
    have hci := hc.1 i hi
    by_cases hb : b < -1 ∨ 8 < b
    · rw [e_reqRX hb, bdx_r, bdt_r]
      refine w_ret ?_
      unfold f_Model_independent
      rw [e_isG hi, bd_some, e_inX hb, bd_some]
      exact w_t (by decide) (w_f (by decide) (w_ret (Q_err ok hc hr (by decide) _)))
    · rw [e_reqR hb, bdx_l]
      generalize hX : σ.1 i = X at hV hn hci
      have h256 := p2_8 hn
      have h1p := p2_1 X.1
      refine LM_obs ok (r := nI (cn (isB X.1 X.2.2 b) (2 ^ X.1))) ?_ (fun m2 c2 r2 => ?_)
      · refine w_for (fun f k (x : Nat) => wp (f_Bench_independent_L19 f b (4 * i) (nI x) (nI k) μ) _) (fun k x => x = cn (isB X.1 X.2.2 b) k) (2 ^ X.1) ?_ ?_ 0 0 (by omega) (by omega) rfl
        · rintro f x rfl
          show wp (f_Bench_independent_L19_b (f_Bench_independent_L19 f) b (4 * i) (nI _) (nI (2 ^ X.1)) μ) _
          unfold f_Bench_independent_L19_b
          refine w_bde (e_all hci hn) ?_
          refine w_t ?_ (w_ret ⟨rfl, hc, hr⟩)
          unfold fullS
          exact nI_lt (by omega) (by omega)
        · rintro f k x hk rfl ih
          show wp (f_Bench_independent_L19_b (f_Bench_independent_L19 f) b (4 * i) (nI _) (nI k) μ) _
          unfold f_Bench_independent_L19_b f_Bench_independent_J57
          have h8 : S8 (nI k) := s8_nI (by omega)
          refine w_bde (e_all hci hn) ?_
          refine w_f (by unfold fullS; exact nI_nlt (by omega) (by omega)) ?_
          have no : isB X.1 X.2.2 b k = false → wp (h_let (nI k + 1) (fun v5_57 => f_Bench_independent_L19 f b (4 * i) (nI (cn (isB X.1 X.2.2 b) k)) v5_57 μ)) (fun x μ1 => x = Sum.inl (nI (cn (isB X.1 X.2.2 b) (2 ^ X.1))) ∧ CS σ μ1 ∧ RS σ μ1) := by
            intro e
            refine w_let ?_
            rw [nI_1]
            refine ih _ ?_
            rw [cn_s, e]
            simp
          have go : (b = -1 ∨ nI (cn (bt (nI k)) 8) = b) → wp (f_Bench_independent_J42 (f_Bench_independent_L19 f) b (4 * i) (nI (cn (isB X.1 X.2.2 b) k)) (nI k) μ) (fun x μ1 => x = Sum.inl (nI (cn (isB X.1 X.2.2 b) (2 ^ X.1))) ∧ CS σ μ1 ∧ RS σ μ1) := by
            intro hsz
            unfold f_Bench_independent_J42 f_Bench_independent_J57
            refine w_bdk (s_nearOf (isg_g hi) hci hn (nI k) (fun r hrr => ?_))
            have hz : r &&& nI k = 0 ↔ isP X.1 X.2.2 k := by
              rw [b_eq0]
              constructor
              · intro hall v hv kv u hu ku
                refine Classical.byContradiction (fun hne => ?_)
                have := hall u (by omega)
                rw [b_and, (hrr u).mpr ⟨v, hv, by rw [b_nI _ _ (by omega)]; exact kv, hu, hne⟩, b_nI _ _ (by omega), ku] at this
                cases this
              · intro hp u hu
                rw [b_and]
                cases h1 : bt r u with
                | false => rfl
                | true =>
                  obtain ⟨v, hv, kv, hu2, hne⟩ := (hrr u).mp h1
                  cases h2 : bt (nI k) u with
                  | false => rfl
                  | true =>
                    rw [b_nI _ _ (by omega)] at kv h2
                    exact absurd (hp v hv kv u hu2 h2) hne
            refine w_if (fun h0 => ?_) (fun h0 => ?_)
            · refine no ?_
              cases hib : isB X.1 X.2.2 b k with
              | false => rfl
              | true => exact absurd (hz.mpr (isB_t.mp hib).2) h0
            · have hp := hz.mp (Classical.not_not.mp h0)
              refine w_let ?_
              refine w_let ?_
              rw [nI_1, nI_1]
              refine ih _ ?_
              rw [cn_s, isB_t.mpr ⟨hsz, hp⟩]
              rfl
          refine w_if (fun h0 => ?_) (fun h0 => ?_)
          · exact go (Or.inl h0)
          · refine w_bde (f_bitCount h8 _) ?_
            refine w_if (fun h1 => ?_) (fun h1 => ?_)
            · refine no ?_
              cases hib : isB X.1 X.2.2 b k with
              | false => rfl
              | true => exact absurd (isB_t.mp hib).1 (fun h => h.elim h0 h1)
            · exact go (Or.inr (Classical.not_not.mp h1))
      · have hri := r2.1 i hi
        rw [hX] at hri
        unfold f_Model_independent
        rw [e_isG hi, bd_some, e_inT hb, bd_some]
        refine w_t (by decide) (w_t (by decide) ?_)
        refine w_for (fun f k (x : Nat) => wp (f_Model_independent_L34 f_Model_independent_J84 f (nI i) b (nI x) (nI k) m2) _) (fun k x => x = cn (isB X.1 X.2.2 b) k) (2 ^ X.1) ?_ ?_ 0 0 (by omega) (by omega) rfl
        · rintro f x rfl
          show wp (f_Model_independent_L34_b f_Model_independent_J84 (f_Model_independent_L34 f_Model_independent_J84 f) (nI i) b (nI _) (nI (2 ^ X.1)) m2) _
          unfold f_Model_independent_L34_b f_Model_independent_J84
          refine w_bde (e_msize (by omega) hri) ?_
          have e1 : h_ishl 1 (nI X.1) = nI (2 ^ X.1) := (by decide +kernel : ∀ n, n < 9 → h_ishl 1 (nI n) = nI (2 ^ n)) X.1 (by omega)
          rw [e1]
          refine w_t (Int32.le_refl _) ?_
          exact w_ret (ob_tell c2 r2 rfl _)
        · rintro f k x hk rfl ih
          show wp (f_Model_independent_L34_b f_Model_independent_J84 (f_Model_independent_L34 f_Model_independent_J84 f) (nI i) b (nI _) (nI k) m2) _
          unfold f_Model_independent_L34_b
          have h8 : S8 (nI k) := s8_nI (by omega)
          refine w_bde (e_msize (by omega) hri) ?_
          have e1 : h_ishl 1 (nI X.1) = nI (2 ^ X.1) := (by decide +kernel : ∀ n, n < 9 → h_ishl 1 (nI n) = nI (2 ^ n)) X.1 (by omega)
          rw [e1]
          refine w_f (nI_ge hk (by omega)) ?_
          have add : ∀ d : Bool, isB X.1 X.2.2 b k = d → wp (f_Model_independent_J76 (f_Model_independent_L34 f_Model_independent_J84 f) (nI i) b (nI k) (bI d) (nI (cn (isB X.1 X.2.2 b) k)) m2) (ObQ σ (m2.2 143 0) (nI (cn (isB X.1 X.2.2 b) (2 ^ X.1)))) := by
            intro d e
            unfold f_Model_independent_J76
            refine w_let ?_
            refine w_let ?_
            rw [nI_1, bI_nI, nI_add]
            refine ih _ ?_
            rw [cn_s, e]
          have go : (b = -1 ∨ nI (cn (bt (nI k)) 8) = b) → wp (f_Model_independent_J61 (f_Model_independent_L34 f_Model_independent_J84 f) (nI i) b (nI k) (nI (cn (isB X.1 X.2.2 b) k)) m2) (ObQ σ (m2.2 143 0) (nI (cn (isB X.1 X.2.2 b) (2 ^ X.1)))) := by
            intro hsz
            unfold f_Model_independent_J61 f_Model_independent_J75
            have ind : wp (f_Model_isIndependent (nI i) (nI k) m2) (fun r μ' => ∃ d, r = bI d ∧ μ' = m2 ∧ (d = true ↔ isP X.1 X.2.2 k)) := by
              unfold f_Model_isIndependent
              refine w_for (fun f v (x : Bool) => wp (f_Model_isIndependent_L5 f (nI i) (nI k) (bI x) (nI v) m2) _) (fun v x => x = true ↔ ∀ w, w < v → k.testBit w = true → ∀ u, u < X.1 → k.testBit u = true → X.2.2 w u = 0) X.1 ?_ ?_ 0 true (by omega) (by omega) ⟨fun _ w hw => absurd hw (Nat.not_lt_zero _), fun _ => rfl⟩
              · intro f x hx
                show wp (f_Model_isIndependent_L5_b (f_Model_isIndependent_L5 f) (nI i) (nI k) (bI x) (nI X.1) m2) _
                unfold f_Model_isIndependent_L5_b
                refine w_bde (e_msize (by omega) hri) ?_
                refine w_t (Int32.le_refl _) ?_
                rw [e_J]
                exact w_ret ⟨x, rfl, rfl, hx⟩
              · intro f v x hv hx ih
                show wp (f_Model_isIndependent_L5_b (f_Model_isIndependent_L5 f) (nI i) (nI k) (bI x) (nI v) m2) _
                unfold f_Model_isIndependent_L5_b f_Model_isIndependent_J44 f_Model_isIndependent_J40 f_Model_isIndependent_J45
                refine w_bde (e_msize (by omega) hri) ?_
                refine w_f (nI_ge hv (by omega)) ?_
                have no : ¬ (∀ w, w < v + 1 → k.testBit w = true → ∀ u, u < X.1 → k.testBit u = true → X.2.2 w u = 0) → wp (h_let (nI v + 1) (fun v4_46 => f_Model_isIndependent_L5 f (nI i) (nI k) 0 v4_46 m2)) (fun r μ' => ∃ d, r = bI d ∧ μ' = m2 ∧ (d = true ↔ isP X.1 X.2.2 k)) := by
                  intro hno
                  refine w_let ?_
                  rw [nI_1]
                  exact ih false ⟨fun h => (by cases h), fun h => absurd h hno⟩
                have yes : (∀ w, w < v + 1 → k.testBit w = true → ∀ u, u < X.1 → k.testBit u = true → X.2.2 w u = 0) → wp (h_let (nI v + 1) (fun v4_46 => f_Model_isIndependent_L5 f (nI i) (nI k) 1 v4_46 m2)) (fun r μ' => ∃ d, r = bI d ∧ μ' = m2 ∧ (d = true ↔ isP X.1 X.2.2 k)) := by
                  intro hyes
                  refine w_let ?_
                  rw [nI_1]
                  exact ih true ⟨fun _ => hyes, fun _ => rfl⟩
                refine w_if (fun h0 => ?_) (fun h0 => ?_)
                · rw [bI_0] at h0
                  subst h0
                  refine no (fun h => ?_)
                  have := hx.mpr (fun w hw => h w (by omega))
                  cases this
                · rw [bI_n] at h0
                  subst h0
                  have hx := hx.mp rfl
                  rw [e_bit (nI k) (by omega), b_nI _ _ (by omega)]
                  refine w_if (fun h1 => ?_) (fun h1 => ?_)
                  · rw [bI_0] at h1
                    refine yes (fun w hw kw => ?_)
                    rcases Nat.lt_or_ge w v with h2 | h2
                    · exact hx w h2 kw
                    · have : w = v := by omega
                      subst this
                      rw [h1] at kw; cases kw
                  · rw [bI_n] at h1
                    refine w_bdk (s_near (by omega) hn hri hv (fun r hrr => ?_))
                    have hz : r &&& nI k = 0 ↔ ∀ u, u < X.1 → k.testBit u = true → X.2.2 v u = 0 := by
                      rw [b_eq0]
                      constructor
                      · intro hall u hu ku
                        refine Classical.byContradiction (fun hne => ?_)
                        have := hall u (by omega)
                        rw [b_and, (hrr u).mpr ⟨hu, by rw [(hV.2.2 u v hu hv).1]; exact hne⟩, b_nI _ _ (by omega), ku] at this
                        cases this
                      · intro hp u hu
                        rw [b_and]
                        cases h2 : bt r u with
                        | false => rfl
                        | true =>
                          obtain ⟨h3, h4⟩ := (hrr u).mp h2
                          cases h5 : bt (nI k) u with
                          | false => rfl
                          | true =>
                            rw [b_nI _ _ (by omega)] at h5
                            rw [(hV.2.2 u v h3 hv).1] at h4
                            exact absurd (hp u h3 h5) h4
                    refine w_if (fun h2 => ?_) (fun h2 => ?_)
                    · exact no (fun h => h2 (hz.mpr (h v (by omega) h1)))
                    · have h2 := hz.mp (Classical.not_not.mp h2)
                      refine yes (fun w hw kw => ?_)
                      rcases Nat.lt_or_ge w v with h3 | h3
                      · exact hx w h3 kw
                      · have : w = v := by omega
                        subst this
                        exact h2
            refine w_bd ind (fun r μ' hq => ?_)
            obtain ⟨d, rfl, rfl, hd⟩ := hq
            refine w_if (fun h0 => ?_) (fun h0 => ?_)
            · rw [bI_0] at h0
              refine add false ?_
              cases hib : isB X.1 X.2.2 b k with
              | false => rfl
              | true => rw [hd.mpr (isB_t.mp hib).2] at h0; cases h0
            · rw [bI_n] at h0
              exact add true (isB_t.mpr ⟨hsz, hd.mp h0⟩)
          refine w_if (fun h0 => ?_) (fun h0 => ?_)
          · exact go (Or.inl h0)
          · refine w_bde (e_bits h8 _) ?_
            refine w_if (fun h1 => ?_) (fun h1 => ?_)
            · unfold f_Model_independent_J75
              refine add false ?_
              cases hib : isB X.1 X.2.2 b k with
              | false => rfl
              | true => exact absurd (isB_t.mp hib).1 (fun h => h.elim h0 h1)
            · exact go (Or.inr (Classical.not_not.mp h1))
/-! walks -/
def sL (f : Nat → Int64) : Nat → Int64
  | 0 => 0
  | n + 1 => sL f n + f n
theorem sL_ext {f g : Nat → Int64} : ∀ {n : Nat}, (∀ i, i < n → f i = g i) → sL f n = sL g n
  | 0, _ => rfl
  | n + 1, h => by
    show sL f n + f n = sL g n + g n
    rw [sL_ext (fun i hi => h i (by omega)), h n (by omega)]
def wkV (n : Nat) (E : Nat → Nat → Int32) (s : Nat) : Nat → Nat → Int64
  | 0, u => if u = s then 1 else 0
  | k + 1, u => sL (fun o => wkV n E s k o * (E o u).toInt64) n
def wkT (n : Nat) (E : Nat → Nat → Int32) (len : Nat) (cl : Bool) (s : Nat) : Int64 := sL (fun v => if cl = true ∧ v ≠ s then 0 else wkV n E s len v) n
theorem s_fill2 {μ : HMem} {a : Nat} (ha : h_len a ≤ 1000) (x : Int64) {Q : Unit → HMem → Prop} (hQ : ∀ μ', (∀ i, i < h_len a → μ'.2 a i = x) → Fr a (a + 1) μ μ' → Q () μ') : wp (f_Arrays_fill2 a x μ) Q := by
  unfold f_Arrays_fill2
  refine w_let ?_
  refine w_for (fun f i (m : HMem) => wp (f_Arrays_fill2_L6 f a x (nI i) (nI (h_len a)) m) Q) (fun i m => (∀ j, j < i → m.2 a j = x) ∧ Fr a (a + 1) μ m) (h_len a) ?_ ?_ 0 μ (by omega) (by omega) ?_
  · rintro f m ⟨h1, h2⟩
    show wp (f_Arrays_fill2_L6_b (f_Arrays_fill2_L6 f) a x (nI (h_len a)) (nI (h_len a)) m) Q
    unfold f_Arrays_fill2_L6_b
    refine w_t (Int32.le_refl _) ?_
    exact w_ret (hQ m h1 h2)
  · rintro f i m hi ⟨h1, h2⟩ ih
    show wp (f_Arrays_fill2_L6_b (f_Arrays_fill2_L6 f) a x (nI i) (nI (h_len a)) m) Q
    unfold f_Arrays_fill2_L6_b
    refine w_f (nI_ge hi (by omega)) ?_
    refine w_chk (in_N hi (by omega)) ?_
    refine w_let ?_
    refine w_let ?_
    rw [nI_1, cl_8 (by omega)]
    refine ih _ ⟨fun j hj => ?_, h2.trans (Fr.wl (by omega) (by omega)) (Nat.le_refl _) (Nat.le_refl _) (Nat.le_refl a) (Nat.le_refl (a + 1))⟩
    rw [wl_e]
    by_cases e : j = i
    · rw [if_pos ⟨rfl, e⟩]
    · rw [if_neg (by omega)]; exact h1 j (by omega)
  · exact ⟨fun j hj => absurd hj (Nat.not_lt_zero _), Fr.refl _ _ _⟩
theorem s_advance {μ : HMem} {g : Nat} {G : HG} (hg : IsG g) (hg2 : g < 84) (h : CG μ g G) (hn : G.1 ≤ 8) {V : Nat → Int64} (hv : ∀ u, u < G.1 → μ.2 123 u = V u) {Q : Unit → HMem → Prop} (hQ : ∀ μ', (∀ u, u < G.1 → μ'.2 123 u = sL (fun o => V o * (G.2.2 o u).toInt64) G.1) → Fr 123 125 μ μ' → Q () μ') : wp (f_Walks_advance g μ) Q := by
  unfold f_Walks_advance
  refine w_for (fun f i (m : HMem) => wp (f_Walks_advance_L2 f_Walks_advance_J62 f g (nI i) m) Q) (fun i m => Fr 124 125 μ m ∧ ∀ u, u < i → m.2 124 u = sL (fun o => V o * (G.2.2 o u).toInt64) G.1) G.1 ?_ ?_ 0 μ (by omega) (by omega) ⟨Fr.refl _ _ _, fun u hu => absurd hu (Nat.not_lt_zero _)⟩
  · rintro f m ⟨g1, g2⟩
    show wp (f_Walks_advance_L2_b f_Walks_advance_J62 (f_Walks_advance_L2 f_Walks_advance_J62 f) g (nI G.1) m) Q
    unfold f_Walks_advance_L2_b f_Walks_advance_J62
    have hm := h.fr g1 (by omega)
    refine w_t (by rw [hm.1]; exact Int32.le_refl _) ?_
    refine w_chk2 (by decide) ?_
    refine w_let ?_
    refine w_ret (hQ _ (fun u hu => ?_) (fun c hc => ?_))
    · show va_cpy (m.2 124) (m.2 123) 0 0 8 u = _
      rw [pk_cpy_in (by omega) (by omega), show 0 + (u - 0) = u by omega]
      exact g2 u hu
    · have e1 : ¬ c = 123 := by omega
      simp only [h_cpl, e1, if_false]
      exact g1 c (by omega)
  · rintro f i m hi ⟨g1, g2⟩ ih
    show wp (f_Walks_advance_L2_b f_Walks_advance_J62 (f_Walks_advance_L2 f_Walks_advance_J62 f) g (nI i) m) Q
    unfold f_Walks_advance_L2_b
    have hm := h.fr g1 (by omega)
    refine w_f (by rw [hm.1]; exact nI_ge hi (by omega)) ?_
    refine w_for (fun f2 j (x : Int64) => wp (f_Walks_advance_L15 (f_Walks_advance_J49 (f_Walks_advance_L2 f_Walks_advance_J62 f)) f2 g (nI i) x (nI j) m) Q) (fun j x => x = sL (fun o => V o * (G.2.2 o i).toInt64) j) G.1 ?_ ?_ 0 0 (by omega) (by omega) rfl
    · rintro f2 x rfl
      show wp (f_Walks_advance_L15_b (f_Walks_advance_J49 (f_Walks_advance_L2 f_Walks_advance_J62 f)) (f_Walks_advance_L15 (f_Walks_advance_J49 (f_Walks_advance_L2 f_Walks_advance_J62 f)) f2) g (nI i) _ (nI G.1) m) Q
      unfold f_Walks_advance_L15_b f_Walks_advance_J49
      refine w_t (by rw [hm.1]; exact Int32.le_refl _) ?_
      refine w_chk (in_N (by rw [show h_len 124 = 8 from rfl]; omega) (by decide)) ?_
      refine w_let ?_
      refine w_let ?_
      rw [nI_1, cl_8 (by omega)]
      refine ih _ ⟨g1.trans (Fr.wl (by omega) (by omega)) (Nat.le_refl _) (Nat.le_refl _) (Nat.le_refl 124) (Nat.le_refl 125), fun u hu => ?_⟩
      rw [wl_e]
      by_cases e : u = i
      · rw [if_pos ⟨rfl, e⟩, e]
      · rw [if_neg (by omega)]; exact g2 u (by omega)
    · rintro f2 j x hj rfl ih'
      show wp (f_Walks_advance_L15_b (f_Walks_advance_J49 (f_Walks_advance_L2 f_Walks_advance_J62 f)) (f_Walks_advance_L15 (f_Walks_advance_J49 (f_Walks_advance_L2 f_Walks_advance_J62 f)) f2) g (nI i) _ (nI j) m) Q
      unfold f_Walks_advance_L15_b
      refine w_f (by rw [hm.1]; exact nI_ge hj (by omega)) ?_
      refine w_chk (in_N (by rw [show h_len 123 = 8 from rfl]; omega) (by decide)) ?_
      refine w_bde (e_between hg hm hn hj hi) ?_
      refine w_let ?_
      refine w_let ?_
      rw [nI_1, cl_8 (by omega), g1.l (by omega), hv j hj]
      exact ih' _ rfl
theorem s_sumFrom {μ : HMem} {g : Nat} {G : HG} (hg : IsG g) (hg2 : g < 84) (h : CG μ g G) (hn : G.1 ≤ 8) {s len : Nat} (hs : s < G.1) (hlen : len ≤ 12) (cl : Bool) {Q : Int64 → HMem → Prop} (hQ : ∀ μ', Fr 123 125 μ μ' → Q (wkT G.1 G.2.2 len cl s) μ') : wp (f_Walks_sumFrom g (nI s) (nI len) (bI cl) μ) Q := by
  unfold f_Walks_sumFrom
  refine w_bdk (s_fill2 (by decide) 0 (fun m1 a1 a2 => ?_))
  refine w_chk (in_N (by rw [show h_len 123 = 8 from rfl]; omega) (by decide)) ?_
  refine w_let ?_
  rw [cl_8 (by omega)]
  refine w_for (fun f k (m : HMem) => wp (f_Walks_sumFrom_L18 f_Walks_sumFrom_J35 f g (nI s) (nI len) (bI cl) (nI k) m) Q) (fun k m => Fr 123 125 μ m ∧ ∀ u, u < G.1 → m.2 123 u = wkV G.1 G.2.2 s k u) len ?_ ?_ 0 _ (by omega) (by omega) ⟨a2.trans (Fr.wl (by omega) (by omega)) (by omega) (by omega) (Nat.le_refl 123) (Nat.le_refl 125), fun u hu => ?_⟩
  · rintro f m ⟨g1, g2⟩
    show wp (f_Walks_sumFrom_L18_b f_Walks_sumFrom_J35 (f_Walks_sumFrom_L18 f_Walks_sumFrom_J35 f) g (nI s) (nI len) (bI cl) (nI len) m) Q
    unfold f_Walks_sumFrom_L18_b f_Walks_sumFrom_J35
    refine w_t (Int32.le_refl _) ?_
    have hm := h.fr g1 (by omega)
    refine w_for (fun f2 j (x : Int64) => wp (f_Walks_sumFrom_L41 f2 g (nI s) (bI cl) x (nI j) m) Q) (fun j x => x = sL (fun v => if cl = true ∧ v ≠ s then 0 else wkV G.1 G.2.2 s len v) j) G.1 ?_ ?_ 0 0 (by omega) (by omega) rfl
    · rintro f2 x rfl
      show wp (f_Walks_sumFrom_L41_b (f_Walks_sumFrom_L41 f2) g (nI s) (bI cl) _ (nI G.1) m) Q
      unfold f_Walks_sumFrom_L41_b
      refine w_t (by rw [hm.1]; exact Int32.le_refl _) ?_
      exact w_ret (hQ m g1)
    · rintro f2 j x hj rfl ih'
      show wp (f_Walks_sumFrom_L41_b (f_Walks_sumFrom_L41 f2) g (nI s) (bI cl) _ (nI j) m) Q
      unfold f_Walks_sumFrom_L41_b f_Walks_sumFrom_J67 f_Walks_sumFrom_J74
      refine w_f (by rw [hm.1]; exact nI_ge hj (by omega)) ?_
      rw [cl_8 (by omega), g2 j hj]
      have take : ¬ (cl = true ∧ j ≠ s) → wp (h_chk (nI j) (h_len 123) (h_let (sL (fun v => if cl = true ∧ v ≠ s then 0 else wkV G.1 G.2.2 s len v) j + wkV G.1 G.2.2 s len j) (fun v5_75 => h_let (nI j + 1) (fun v7_77 => f_Walks_sumFrom_L41 f2 g (nI s) (bI cl) v5_75 v7_77 m)))) Q := by
        intro hc
        refine w_chk (in_N (by rw [show h_len 123 = 8 from rfl]; omega) (by decide)) ?_
        refine w_let ?_
        refine w_let ?_
        rw [nI_1]
        refine ih' _ ?_
        show _ = sL _ j + (if cl = true ∧ j ≠ s then 0 else wkV G.1 G.2.2 s len j)
        rw [if_neg hc]
      refine w_if (fun h0 => ?_) (fun h0 => ?_)
      · rw [bI_0] at h0
        exact take (fun hc => by rw [h0] at hc; cases hc.1)
      · rw [bI_n] at h0
        refine w_if (fun e => ?_) (fun e => ?_)
        · have e := (eqI (by omega) (by omega)).mp e
          exact take (fun hc => hc.2 e)
        · have e : ¬ j = s := fun h => e (by rw [h])
          refine w_let ?_
          refine w_let ?_
          rw [nI_1]
          refine ih' _ ?_
          show _ = sL _ j + (if cl = true ∧ j ≠ s then 0 else wkV G.1 G.2.2 s len j)
          rw [if_pos ⟨h0, e⟩]
  · rintro f k m hk ⟨g1, g2⟩ ih
    show wp (f_Walks_sumFrom_L18_b f_Walks_sumFrom_J35 (f_Walks_sumFrom_L18 f_Walks_sumFrom_J35 f) g (nI s) (nI len) (bI cl) (nI k) m) Q
    unfold f_Walks_sumFrom_L18_b
    refine w_f (nI_ge hk (by omega)) ?_
    refine w_bdk (s_advance hg hg2 (h.fr g1 (by omega)) hn g2 (fun m2 b1 b2 => ?_))
    refine w_let ?_
    rw [nI_1]
    exact ih m2 ⟨g1.trans b2 (by omega) (by omega) (by omega) (by omega), b1⟩
  · rw [wl_e]
    show _ = if u = s then 1 else 0
    by_cases e : u = s
    · rw [if_pos ⟨rfl, e⟩, if_pos e]
    · rw [if_neg (by omega), if_neg e]; exact a1 u (by rw [show h_len 123 = 8 from rfl]; omega)
theorem s_walksFrom {μ : HMem} {k : Nat} {G : HG} (hk : k < 4) (hn : G.1 ≤ 8) (h : RG (μ.1 126) (73 * k) G) {s len : Nat} (hs : s < G.1) (hlen : len ≤ 12) {Q : Unit → HMem → Prop} (hQ : ∀ μ', (∀ u, u < G.1 → μ'.2 140 u = wkV G.1 G.2.2 s len u) → Fr 140 142 μ μ' → Q () μ') : wp (f_Model_walksFrom (nI k) (nI s) (nI len) μ) Q := by
  unfold f_Model_walksFrom
  refine w_for (fun f i (m : HMem) => wp (f_Model_walksFrom_L3 f_Model_walksFrom_J34 f (nI k) (nI s) (nI len) (nI i) m) Q) (fun i m => Fr 140 142 μ m ∧ ∀ u, u < i → m.2 140 u = if u = s then 1 else 0) 8 ?_ ?_ 0 μ (by omega) (by omega) ⟨Fr.refl _ _ _, fun u hu => absurd hu (Nat.not_lt_zero _)⟩
  · rintro f m ⟨g1, g2⟩
    show wp (f_Model_walksFrom_L3_b f_Model_walksFrom_J34 (f_Model_walksFrom_L3 f_Model_walksFrom_J34 f) (nI k) (nI s) (nI len) (nI 8) m) Q
    unfold f_Model_walksFrom_L3_b f_Model_walksFrom_J34
    refine w_t (by decide) ?_
    refine w_for (fun f i (m : HMem) => wp (f_Model_walksFrom_L37 f (nI k) (nI len) (nI i) m) Q) (fun i m => Fr 140 142 μ m ∧ ∀ u, u < G.1 → m.2 140 u = wkV G.1 G.2.2 s i u) len ?_ ?_ 0 m (by omega) (by omega) ⟨g1, fun u hu => g2 u (by omega)⟩
    · rintro f m ⟨g1, g2⟩
      show wp (f_Model_walksFrom_L37_b (f_Model_walksFrom_L37 f) (nI k) (nI len) (nI len) m) Q
      unfold f_Model_walksFrom_L37_b
      exact w_t (Int32.le_refl _) (w_ret (hQ m g2 g1))
    · rintro f i m hi ⟨g1, g2⟩ ih
      show wp (f_Model_walksFrom_L37_b (f_Model_walksFrom_L37 f) (nI k) (nI len) (nI i) m) Q
      unfold f_Model_walksFrom_L37_b
      refine w_f (nI_ge hi (by omega)) ?_
      have hR : ∀ m', Fr 140 142 μ m' → RG (m'.1 126) (73 * k) G := fun m' hf => by rw [hf.i (by omega)]; exact h
      refine w_for (fun f2 u (m : HMem) => wp (f_Model_walksFrom_L46 (f_Model_walksFrom_J117 (f_Model_walksFrom_L37 f)) f2 (nI k) (nI len) (nI i) (nI u) m) Q) (fun u m => Fr 140 142 μ m ∧ (∀ o, o < G.1 → m.2 140 o = wkV G.1 G.2.2 s i o) ∧ ∀ w, w < u → m.2 141 w = wkV G.1 G.2.2 s (i + 1) w) G.1 ?_ ?_ 0 m (by omega) (by omega) ⟨g1, g2, fun u hu => absurd hu (Nat.not_lt_zero _)⟩
      · rintro f2 m ⟨g1, g2, g3⟩
        show wp (f_Model_walksFrom_L46_b (f_Model_walksFrom_J117 (f_Model_walksFrom_L37 f)) (f_Model_walksFrom_L46 (f_Model_walksFrom_J117 (f_Model_walksFrom_L37 f)) f2) (nI k) (nI len) (nI i) (nI G.1) m) Q
        unfold f_Model_walksFrom_L46_b f_Model_walksFrom_J117
        refine w_bde (e_msize (by omega) (hR m g1)) ?_
        refine w_t (Int32.le_refl _) ?_
        refine w_for (fun f3 u (m : HMem) => wp (f_Model_walksFrom_L120 (f_Model_walksFrom_J150 (f_Model_walksFrom_L37 f)) f3 (nI k) (nI len) (nI i) (nI u) m) Q) (fun u m => Fr 140 142 μ m ∧ (∀ w, w < G.1 → m.2 141 w = wkV G.1 G.2.2 s (i + 1) w) ∧ ∀ w, w < u → m.2 140 w = wkV G.1 G.2.2 s (i + 1) w) G.1 ?_ ?_ 0 m (by omega) (by omega) ⟨g1, g3, fun u hu => absurd hu (Nat.not_lt_zero _)⟩
        · rintro f3 m ⟨g1, g2, g3⟩
          show wp (f_Model_walksFrom_L120_b (f_Model_walksFrom_J150 (f_Model_walksFrom_L37 f)) (f_Model_walksFrom_L120 (f_Model_walksFrom_J150 (f_Model_walksFrom_L37 f)) f3) (nI k) (nI len) (nI i) (nI G.1) m) Q
          unfold f_Model_walksFrom_L120_b f_Model_walksFrom_J150
          refine w_bde (e_msize (by omega) (hR m g1)) ?_
          refine w_t (Int32.le_refl _) ?_
          refine w_let ?_
          rw [nI_1]
          exact ih m ⟨g1, g3⟩
        · rintro f3 u m hu ⟨g1, g2, g3⟩ ih3
          show wp (f_Model_walksFrom_L120_b (f_Model_walksFrom_J150 (f_Model_walksFrom_L37 f)) (f_Model_walksFrom_L120 (f_Model_walksFrom_J150 (f_Model_walksFrom_L37 f)) f3) (nI k) (nI len) (nI i) (nI u) m) Q
          unfold f_Model_walksFrom_L120_b
          refine w_bde (e_msize (by omega) (hR m g1)) ?_
          refine w_f (nI_ge hu (by omega)) ?_
          refine w_chk (in_N (by rw [show h_len 141 = 8 from rfl]; omega) (by decide)) ?_
          refine w_chk (in_N (by rw [show h_len 140 = 8 from rfl]; omega) (by decide)) ?_
          refine w_let ?_
          refine w_let ?_
          rw [nI_1, cl_8 (by omega), g2 u hu]
          refine ih3 _ ⟨g1.trans (Fr.wl (by omega) (by omega)) (Nat.le_refl _) (Nat.le_refl _) (Nat.le_refl 140) (Nat.le_refl 142), fun w hw => ?_, fun w hw => ?_⟩
          · rw [wl_e, if_neg (by omega)]; exact g2 w hw
          · rw [wl_e]
            by_cases e : w = u
            · rw [if_pos ⟨rfl, e⟩, e]
            · rw [if_neg (by omega)]; exact g3 w (by omega)
      · rintro f2 u m hu ⟨g1, g2, g3⟩ ih2
        show wp (f_Model_walksFrom_L46_b (f_Model_walksFrom_J117 (f_Model_walksFrom_L37 f)) (f_Model_walksFrom_L46 (f_Model_walksFrom_J117 (f_Model_walksFrom_L37 f)) f2) (nI k) (nI len) (nI i) (nI u) m) Q
        unfold f_Model_walksFrom_L46_b
        refine w_bde (e_msize (by omega) (hR m g1)) ?_
        refine w_f (nI_ge hu (by omega)) ?_
        refine w_chk (in_N (by rw [show h_len 141 = 8 from rfl]; omega) (by decide)) ?_
        refine w_let ?_
        rw [cl_8 (by omega)]
        refine w_for (fun f3 o (m : HMem) => wp (f_Model_walksFrom_L67 (f_Model_walksFrom_J111 (f_Model_walksFrom_L46 (f_Model_walksFrom_J117 (f_Model_walksFrom_L37 f)) f2)) f3 (nI k) (nI len) (nI i) (nI u) (nI o) m) Q) (fun o m => Fr 140 142 μ m ∧ (∀ o, o < G.1 → m.2 140 o = wkV G.1 G.2.2 s i o) ∧ (∀ w, w < u → m.2 141 w = wkV G.1 G.2.2 s (i + 1) w) ∧ m.2 141 u = sL (fun o => wkV G.1 G.2.2 s i o * (G.2.2 o u).toInt64) o) G.1 ?_ ?_ 0 _ (by omega) (by omega) ⟨g1.trans (Fr.wl (by omega) (by omega)) (Nat.le_refl _) (Nat.le_refl _) (Nat.le_refl 140) (Nat.le_refl 142), fun o ho => ?_, fun w hw => ?_, wl_s _ _ _ _⟩
        · rintro f3 m ⟨g1, g2, g3, g4⟩
          show wp (f_Model_walksFrom_L67_b (f_Model_walksFrom_J111 (f_Model_walksFrom_L46 (f_Model_walksFrom_J117 (f_Model_walksFrom_L37 f)) f2)) (f_Model_walksFrom_L67 (f_Model_walksFrom_J111 (f_Model_walksFrom_L46 (f_Model_walksFrom_J117 (f_Model_walksFrom_L37 f)) f2)) f3) (nI k) (nI len) (nI i) (nI u) (nI G.1) m) Q
          unfold f_Model_walksFrom_L67_b f_Model_walksFrom_J111
          refine w_bde (e_msize (by omega) (hR m g1)) ?_
          refine w_t (Int32.le_refl _) ?_
          refine w_let ?_
          rw [nI_1]
          refine ih2 m ⟨g1, g2, fun w hw => ?_⟩
          by_cases e : w = u
          · rw [e, g4]; rfl
          · exact g3 w (by omega)
        · rintro f3 o m ho ⟨g1, g2, g3, g4⟩ ih3
          show wp (f_Model_walksFrom_L67_b (f_Model_walksFrom_J111 (f_Model_walksFrom_L46 (f_Model_walksFrom_J117 (f_Model_walksFrom_L37 f)) f2)) (f_Model_walksFrom_L67 (f_Model_walksFrom_J111 (f_Model_walksFrom_L46 (f_Model_walksFrom_J117 (f_Model_walksFrom_L37 f)) f2)) f3) (nI k) (nI len) (nI i) (nI u) (nI o) m) Q
          unfold f_Model_walksFrom_L67_b
          refine w_bde (e_msize (by omega) (hR m g1)) ?_
          refine w_f (nI_ge ho (by omega)) ?_
          refine w_chk (in_N (by rw [show h_len 141 = 8 from rfl]; omega) (by decide)) ?_
          refine w_chk (in_N (by rw [show h_len 140 = 8 from rfl]; omega) (by decide)) ?_
          refine w_bde (e_mbetween (by omega) hn (hR m g1) ho hu) ?_
          refine w_chk (in_N (by rw [show h_len 141 = 8 from rfl]; omega) (by decide)) ?_
          refine w_let ?_
          refine w_let ?_
          rw [nI_1, cl_8 (u := u) (by omega), cl_8 (u := o) (by omega), g4, g2 o ho]
          refine ih3 _ ⟨g1.trans (Fr.wl (by omega) (by omega)) (Nat.le_refl _) (Nat.le_refl _) (Nat.le_refl 140) (Nat.le_refl 142), fun q hq => ?_, fun w hw => ?_, wl_s _ _ _ _⟩
          · rw [wl_e, if_neg (by omega)]; exact g2 q hq
          · rw [wl_e, if_neg (by omega)]; exact g3 w hw
        · rw [wl_e, if_neg (by omega)]; exact g2 o ho
        · rw [wl_e, if_neg (by omega)]; exact g3 w hw
  · rintro f i m hi ⟨g1, g2⟩ ih
    show wp (f_Model_walksFrom_L3_b f_Model_walksFrom_J34 (f_Model_walksFrom_L3 f_Model_walksFrom_J34 f) (nI k) (nI s) (nI len) (nI i) m) Q
    unfold f_Model_walksFrom_L3_b f_Model_walksFrom_J27
    refine w_f (nI_ge (b := 8) hi (by omega)) ?_
    have go : ∀ x : Int64, (x = if i = s then 1 else 0) → wp (h_chk (nI i) (h_len 140) (h_let (h_wl m 140 (Int32.toNatClampNeg (nI i)) x) (fun μ_27 => h_let (nI i + 1) (fun v4_28 => f_Model_walksFrom_L3 f_Model_walksFrom_J34 f (nI k) (nI s) (nI len) v4_28 μ_27)))) Q := by
      intro x hx
      refine w_chk (in_N (by rw [show h_len 140 = 8 from rfl]; omega) (by decide)) ?_
      refine w_let ?_
      refine w_let ?_
      rw [nI_1, cl_8 (by omega)]
      refine ih _ ⟨g1.trans (Fr.wl (by omega) (by omega)) (Nat.le_refl _) (Nat.le_refl _) (Nat.le_refl 140) (Nat.le_refl 142), fun u hu => ?_⟩
      rw [wl_e]
      by_cases e : u = i
      · rw [if_pos ⟨rfl, e⟩, hx, e]
      · rw [if_neg (by omega)]; exact g2 u (by omega)
    refine w_if (fun e => ?_) (fun e => ?_)
    · exact go 0 (by rw [if_neg (fun h => e (by rw [h]))])
    · have e := (eqI (by omega) (by omega)).mp (Classical.not_not.mp e)
      exact go 1 (by rw [if_pos e])
theorem LM_walks (a b : Int32) (cl : Bool) {μ : HMem} (h : SI μ) : FcL (f_Law_walks a b (bI cl) μ) (f_Model_walks a b (bI cl)) := by
  obtain ⟨σ, ok, hc, hr⟩ := h
  unfold FcL f_Law_walks f_Bench_walks
  rcases ix_g a (n := 4) (by omega) with ha | ⟨i, hi, rfl⟩
  · rw [e_graphAtX ha, bdx_r, bdt_r]
    refine w_ret ?_
    unfold f_Model_walks
    rw [e_isGX ha, bd_some]
    exact w_f (by decide) (w_ret (Q_err ok hc hr (by decide) _))
  · rw [e_graphAt hi, bdx_l]
    have hV := ok.1 i hi
    have hn := hV.1
    have hci := hc.1 i hi
    by_cases hb : b < 0 ∨ 12 < b
    · rw [e_reqRX hb, bdx_r, bdt_r]
      refine w_ret ?_
      unfold f_Model_walks
      rw [e_isG hi, bd_some, e_inX hb, bd_some]
      exact w_t (by decide) (w_f (by decide) (w_ret (Q_err ok hc hr (by decide) _)))
    · rw [e_reqR hb, bdx_l]
      obtain ⟨len, hlen, rfl⟩ := rg_n (n := 12) (by omega) hb
      refine LM_obsL ok (r := sL (wkT (σ.1 i).1 (σ.1 i).2.2 len cl) (σ.1 i).1) ?_ (fun m2 c2 r2 => ?_)
      · refine w_for (fun f v (x : Int64 × HMem) => wp (f_Bench_walks_L20 f (nI len) (bI cl) (4 * i) x.1 (nI v) x.2) _) (fun v x => x.1 = sL (wkT (σ.1 i).1 (σ.1 i).2.2 len cl) v ∧ Fr 123 125 μ x.2) (σ.1 i).1 ?_ ?_ 0 (0, μ) (by omega) (by omega) ⟨rfl, Fr.refl _ _ _⟩
        · rintro f ⟨_, m⟩ ⟨rfl, g1⟩
          show wp (f_Bench_walks_L20_b (f_Bench_walks_L20 f) (nI len) (bI cl) (4 * i) _ (nI (σ.1 i).1) m) _
          unfold f_Bench_walks_L20_b
          refine w_t (by rw [(hci.fr g1 (by omega)).1]; exact Int32.le_refl _) ?_
          exact w_ret ⟨rfl, hc.fr g1 (by omega), hr.fr g1 (by omega)⟩
        · rintro f v ⟨_, m⟩ hv ⟨rfl, g1⟩ ih
          show wp (f_Bench_walks_L20_b (f_Bench_walks_L20 f) (nI len) (bI cl) (4 * i) _ (nI v) m) _
          unfold f_Bench_walks_L20_b
          refine w_f (by rw [(hci.fr g1 (by omega)).1]; exact nI_ge hv (by omega)) ?_
          refine w_bdk (s_sumFrom (isg_g hi) (by omega) (hci.fr g1 (by omega)) hn hv hlen cl (fun m3 d1 => ?_))
          refine w_let ?_
          refine w_let ?_
          rw [nI_1]
          exact ih (_, m3) ⟨rfl, g1.trans d1 (by omega) (by omega) (by omega) (by omega)⟩
      · unfold f_Model_walks
        rw [e_isG hi, bd_some, e_inT hb, bd_some]
        refine w_t (by decide) (w_t (by decide) ?_)
        refine w_let ?_
        have f0 : Fr 125 126 m2 (h_wi m2 125 5 0) := Fr.wi (by omega) (by omega)
        have t0 : (h_wi m2 125 5 0).1 125 5 = 0 := wi_s _ _ _ _
        have ri0 := (SI_err ok c2 r2 0)
        have rr0 : RS σ (h_wi m2 125 5 0) := by
          refine ⟨fun j hj => ?_, ?_, ?_⟩
          · rw [wi_o _ _ (by omega)]; exact r2.1 j hj
          · unfold RH
            rw [wi_n _ _ (by omega), wi_o _ _ (by omega)]; exact r2.2.1
          · unfold RT
            rw [wi_n _ _ (by omega), wi_o _ _ (by omega)]; exact r2.2.2
        generalize h_wi m2 125 5 0 = m3 at f0 t0 rr0
        have hR : ∀ m', Fr 140 142 m3 m' → RG (m'.1 126) (73 * i) (σ.1 i) := fun m' hf => by rw [hf.i (by omega)]; exact rr0.1 i hi
        refine w_for (fun f v (x : Int64 × HMem) => wp (f_Model_walks_L42 f (nI i) (nI len) (bI cl) x.1 (nI v) x.2) _) (fun v x => x.1 = sL (wkT (σ.1 i).1 (σ.1 i).2.2 len cl) v ∧ Fr 140 142 m3 x.2) (σ.1 i).1 ?_ ?_ 0 (0, m3) (by omega) (by omega) ⟨rfl, Fr.refl _ _ _⟩
        · rintro f ⟨_, m⟩ ⟨rfl, g1⟩
          show wp (f_Model_walks_L42_b (f_Model_walks_L42 f) (nI i) (nI len) (bI cl) _ (nI (σ.1 i).1) m) _
          unfold f_Model_walks_L42_b
          refine w_bde (e_msize (by omega) (hR m g1)) ?_
          refine w_t (Int32.le_refl _) ?_
          exact w_ret ⟨rfl, (c2.fr f0 (by omega)).fr g1 (by omega), rr0.fr g1 (by omega), by rw [g1.i (by omega)]; exact t0, by rw [g1.l (by omega), f0.l (by omega)]⟩
        · rintro f v ⟨_, m⟩ hv ⟨rfl, g1⟩ ih
          show wp (f_Model_walks_L42_b (f_Model_walks_L42 f) (nI i) (nI len) (bI cl) _ (nI v) m) _
          unfold f_Model_walks_L42_b
          refine w_bde (e_msize (by omega) (hR m g1)) ?_
          refine w_f (nI_ge hv (by omega)) ?_
          refine w_bdk (s_walksFrom hi hn (hR m g1) hv hlen (fun m4 d1 d2 => ?_))
          have g4 : Fr 140 142 m3 m4 := g1.trans d2 (by omega) (by omega) (by omega) (by omega)
          generalize hA : sL (wkT (σ.1 i).1 (σ.1 i).2.2 len cl) v = A at ih ⊢
          refine w_for (fun f2 u (x : Int64) => wp (f_Model_walks_L63 (f_Model_walks_J106 (f_Model_walks_L42 f)) f2 (nI i) (nI len) (bI cl) x (nI v) (nI u) m4) _) (fun u x => x = A + sL (fun w => if cl = true ∧ w ≠ v then 0 else wkV (σ.1 i).1 (σ.1 i).2.2 v len w) u) (σ.1 i).1 ?_ ?_ 0 A (by omega) (by omega) (by show A = A + 0; rw [Int64.add_zero])
          · rintro f2 x rfl
            show wp (f_Model_walks_L63_b (f_Model_walks_J106 (f_Model_walks_L42 f)) (f_Model_walks_L63 (f_Model_walks_J106 (f_Model_walks_L42 f)) f2) (nI i) (nI len) (bI cl) _ (nI v) (nI (σ.1 i).1) m4) _
            unfold f_Model_walks_L63_b f_Model_walks_J106
            refine w_bde (e_msize (by omega) (hR m4 g4)) ?_
            refine w_t (Int32.le_refl _) ?_
            refine w_let ?_
            rw [nI_1]
            refine ih (_, m4) ⟨?_, g4⟩
            show _ = sL _ v + _
            rw [hA]
            rfl
          · rintro f2 u x hu rfl ih2
            show wp (f_Model_walks_L63_b (f_Model_walks_J106 (f_Model_walks_L42 f)) (f_Model_walks_L63 (f_Model_walks_J106 (f_Model_walks_L42 f)) f2) (nI i) (nI len) (bI cl) _ (nI v) (nI u) m4) _
            unfold f_Model_walks_L63_b f_Model_walks_J90 f_Model_walks_J97
            refine w_bde (e_msize (by omega) (hR m4 g4)) ?_
            refine w_f (nI_ge hu (by omega)) ?_
            rw [cl_8 (by omega), d1 u hu]
            have take : ¬ (cl = true ∧ u ≠ v) → wp (h_chk (nI u) (h_len 140) (h_let ((A + sL (fun w => if cl = true ∧ w ≠ v then 0 else wkV (σ.1 i).1 (σ.1 i).2.2 v len w) u) + wkV (σ.1 i).1 (σ.1 i).2.2 v len u) (fun v4_98 => h_let (nI u + 1) (fun v7_100 => f_Model_walks_L63 (f_Model_walks_J106 (f_Model_walks_L42 f)) f2 (nI i) (nI len) (bI cl) v4_98 (nI v) v7_100 m4)))) (fun b μ3 => b = sL (wkT (σ.1 i).1 (σ.1 i).2.2 len cl) (σ.1 i).1 ∧ CS σ μ3 ∧ RS σ μ3 ∧ μ3.1 125 5 = 0 ∧ μ3.2 143 0 = m2.2 143 0) := by
              intro hcc
              refine w_chk (in_N (by rw [show h_len 140 = 8 from rfl]; omega) (by decide)) ?_
              refine w_let ?_
              refine w_let ?_
              rw [nI_1]
              refine ih2 _ ?_
              show _ = A + (sL _ u + (if cl = true ∧ u ≠ v then 0 else wkV (σ.1 i).1 (σ.1 i).2.2 v len u))
              rw [if_neg hcc, Int64.add_assoc]
            refine w_if (fun h0 => ?_) (fun h0 => ?_)
            · rw [bI_0] at h0
              exact take (fun hc => by rw [h0] at hc; cases hc.1)
            · rw [bI_n] at h0
              refine w_if (fun e => ?_) (fun e => ?_)
              · have e := (eqI (by omega) (by omega)).mp e
                exact take (fun hc => hc.2 e)
              · have e : ¬ u = v := fun h => e (by rw [h])
                refine w_let ?_
                refine w_let ?_
                rw [nI_1]
                refine ih2 _ ?_
                show _ = A + (sL _ u + (if cl = true ∧ u ≠ v then 0 else wkV (σ.1 i).1 (σ.1 i).2.2 v len u))
                rw [if_pos ⟨h0, e⟩, Int64.add_zero, Int64.add_zero]
