/-! 60: orders that are read from a number; width -/
def dig (D j : Nat) : Nat := D / 10 ^ j % 10
def Gd (D n j : Nat) : Prop := ∀ a, a < j → (1 ≤ dig D a ∧ dig D a ≤ n) ∧ ∀ b, b < a → dig D b ≠ dig D a
def ordF (D n p : Nat) : Nat := dig D (n - 1 - p) - 1
theorem Gd_s {D n j : Nat} : Gd D n (j + 1) ↔ Gd D n j ∧ ((1 ≤ dig D j ∧ dig D j ≤ n) ∧ ∀ b, b < j → dig D b ≠ dig D j) := by
  unfold Gd
  rw [all_s]
theorem neg10 {d : Int32} (h : d < 0) : (h_irem d 10) - 1 < 0 := by
  have h0 : d.toInt < 0 := by
    rw [Int32.lt_iff_toInt_lt] at h
    exact h
  have h1 : (h_irem d 10).toInt = d.toInt.tmod 10 := rem_toInt d 10
  have hb := tmod_bounds (a := d.toInt) (M := 10) (by decide)
  have h2 : d.toInt.tmod 10 ≤ 0 := by
    have e : d.toInt = -(-d.toInt) := by omega
    rw [e, Int.neg_tmod, Int.tmod_eq_emod_of_nonneg (by omega)]
    have := Int.emod_nonneg (-d.toInt) (by decide : (10 : Int) ≠ 0)
    omega
  rw [Int32.lt_iff_toInt_lt, Int32.toInt_sub, h1, show (1 : Int32).toInt = 1 from by decide, show (0 : Int32).toInt = 0 from by decide, Int.bmod_eq_of_le (by omega) (by omega)]
  omega
theorem dig_lt (D j : Nat) : dig D j < 10 := Nat.mod_lt _ (by omega)
theorem div10 (D j : Nat) : D / 10 ^ j / 10 = D / 10 ^ (j + 1) := by rw [Nat.div_div_eq_div_mul, Nat.pow_succ]
theorem rem10 {D : Nat} (hD : D < 2 ^ 31) (j : Nat) : h_irem (nI (D / 10 ^ j)) 10 = nI (dig D j) := by
  have : D / 10 ^ j ≤ D := Nat.div_le_self _ _
  exact irem_n (d := 10) (by omega) (by omega) (by omega)
theorem quo10 {D : Nat} (hD : D < 2 ^ 31) (j : Nat) : nI (D / 10 ^ j) / 10 = nI (D / 10 ^ (j + 1)) := by
  have : D / 10 ^ j ≤ D := Nat.div_le_self _ _
  rw [← div10]
  exact pk_div (d := 10) (by omega) (by omega) (by omega)
theorem m1k : ∀ k, k < 11 → (nI k - 1 < 0 ↔ k = 0) ∧ (∀ n, n < 9 → (nI n ≤ nI k - 1 ↔ n < k)) := by decide +kernel
theorem Gd_dec (D n j : Nat) : Gd D n j ∨ ¬ Gd D n j := Classical.em _
/-- the class reads an order -/
theorem s_readOrder {μ : HMem} {n : Nat} (hn : n ≤ 8) (d : Int32) (hd0 : ¬ d = 0) {Q : Int32 → HMem → Prop} (hQ : ∀ b μ', Fr 93 94 μ μ' → (b = true ↔ ∃ D, d = nI D ∧ D < 2 ^ 31 ∧ Gd D n n ∧ D / 10 ^ n = 0) → (∀ D, d = nI D → D < 2 ^ 31 → b = true → ∀ p, p < n → μ'.1 93 p = nI (ordF D n p)) → Q (bI b) μ') : wp (f_Elimination_readOrder d (nI n) μ) Q := by
  unfold f_Elimination_readOrder
  refine w_let ?_
  rcases Classical.em (d < 0) with hneg | hpos
  · have hno : ∀ D, d = nI D → D < 2 ^ 31 → False := fun D e h => nI_pos h (by rw [← e]; exact hneg)
    have fin : Q (bI false) μ := hQ false μ (Fr.refl _ _ _) ⟨fun h => (by cases h), fun ⟨D, e, h, _⟩ => (hno D e h).elim⟩ (fun D e h => (hno D e h).elim)
    show wp (f_Elimination_readOrder_L10 f_Elimination_readOrder_J44 f_Elimination_readOrder_J75 (999999999999 + 1) (nI n) d 0 (nI n - 1) μ) Q
    show wp (f_Elimination_readOrder_L10_b f_Elimination_readOrder_J44 f_Elimination_readOrder_J75 (f_Elimination_readOrder_L10 f_Elimination_readOrder_J44 f_Elimination_readOrder_J75 999999999999) (nI n) d 0 (nI n - 1) μ) Q
    unfold f_Elimination_readOrder_L10_b f_Elimination_readOrder_J44 f_Elimination_readOrder_J75 f_Elimination_readOrder_J84
    rw [e_J0]
    cases n with
    | zero =>
      refine w_t dn0 ?_
      refine w_t hd0 ?_
      exact w_ret fin
    | succ q =>
      refine w_f (dnS (by omega)) ?_
      refine w_f (by decide) ?_
      refine w_let ?_
      refine w_t (neg10 hneg) ?_
      exact w_ret fin
  · obtain ⟨D, hD, rfl⟩ := nI_of hpos
    have huniq : ∀ D', nI D = nI D' → D' < 2 ^ 31 → D' = D := fun D' e h => ((nI_eq hD h).mp e).symm
    have no : ∀ (m : HMem) (j : Nat), Fr 93 94 μ m → j ≤ n → ¬ Gd D n j → Q (bI false) m := by
      intro m j hf hj hg
      refine hQ false m hf ⟨fun h => (by cases h), fun ⟨D', e, h, hg', _⟩ => ?_⟩ (fun D' e h hb => by cases hb)
      rw [huniq D' e h] at hg'
      exact absurd (fun a ha => hg' a (by omega)) hg
    refine w_down (fun f i (x : Int32 × HMem) => wp (f_Elimination_readOrder_L10 f_Elimination_readOrder_J44 f_Elimination_readOrder_J75 f (nI n) (nI (D / 10 ^ (n - i))) x.1 (nI i - 1) x.2) Q) (fun i x => i ≤ n ∧ Fr 93 94 μ x.2 ∧ Gd D n (n - i) ∧ (∀ w, bt x.1 w = true ↔ ∃ a, a < n - i ∧ dig D a = w + 1) ∧ ∀ p, i ≤ p → p < n → x.2.1 93 p = nI (ordF D n p)) ?_ ?_ n (0, μ) (by omega) ⟨Nat.le_refl _, Fr.refl _ _ _, fun a ha => by omega, fun w => by rw [b_0]; exact ⟨fun h => (by cases h), fun ⟨a, ha, _⟩ => by omega⟩, fun p h1 h2 => by omega⟩ |> fun h => by
      rw [Nat.sub_self, Nat.pow_zero, Nat.div_one] at h
      exact h
    · rintro f ⟨x, m⟩ ⟨_, g1, g2, g3, g4⟩
      show wp (f_Elimination_readOrder_L10_b f_Elimination_readOrder_J44 f_Elimination_readOrder_J75 (f_Elimination_readOrder_L10 f_Elimination_readOrder_J44 f_Elimination_readOrder_J75 f) (nI n) (nI (D / 10 ^ (n - 0))) x (nI 0 - 1) m) Q
      unfold f_Elimination_readOrder_L10_b f_Elimination_readOrder_J75 f_Elimination_readOrder_J84
      rw [Nat.sub_zero] at g2 ⊢
      have hle : D / 10 ^ n ≤ D := Nat.div_le_self _ _
      refine w_t dn0 ?_
      refine w_if (fun h0 => ?_) (fun h0 => ?_)
      · rw [e_J0]
        refine w_ret (hQ false m g1 ⟨fun h => (by cases h), fun ⟨D', e, h, _, hz⟩ => ?_⟩ (fun D' e h hb => by cases hb))
        rw [huniq D' e h] at hz
        rw [hz] at h0
        exact absurd rfl h0
      · have h0 := (nI_eq (b := 0) (by omega) (by omega)).mp (Classical.not_not.mp h0)
        rw [e_J1]
        refine w_ret (hQ true m g1 ⟨fun _ => ⟨D, rfl, hD, g2, h0⟩, fun _ => rfl⟩ (fun D' e h _ p hp => ?_))
        rw [huniq D' e h]
        exact g4 p (Nat.zero_le _) hp
    · rintro f i ⟨x, m⟩ ⟨hi, g1, g2, g3, g4⟩ ih
      show wp (f_Elimination_readOrder_L10_b f_Elimination_readOrder_J44 f_Elimination_readOrder_J75 (f_Elimination_readOrder_L10 f_Elimination_readOrder_J44 f_Elimination_readOrder_J75 f) (nI n) (nI (D / 10 ^ (n - (i + 1)))) x (nI (i + 1) - 1) m) Q
      unfold f_Elimination_readOrder_L10_b f_Elimination_readOrder_J44
      replace g3 : ∀ w, bt x w = true ↔ ∃ a, a < n - (i + 1) ∧ dig D a = w + 1 := g3
      have hj : n - i = (n - (i + 1)) + 1 := by omega
      generalize hjj : n - (i + 1) = j at g2 g3 hj
      have hd10 := dig_lt D j
      have mk := m1k (dig D j) (by omega)
      refine w_f (dnS (by omega)) ?_
      refine w_f (by decide) ?_
      refine w_let ?_
      rw [rem10 hD, e_J0]
      have bad : ¬ ((1 ≤ dig D j ∧ dig D j ≤ n) ∧ ∀ b, b < j → dig D b ≠ dig D j) → Q (bI false) m := fun hb => no m (j + 1) g1 (by omega) (fun hg => hb (Gd_s.mp hg).2)
      refine w_if (fun h0 => ?_) (fun h0 => ?_)
      · have h0 := mk.1.mp h0
        exact w_ret (bad (fun h => by omega))
      · have h0 : ¬ dig D j = 0 := fun h => h0 (mk.1.mpr h)
        refine w_if (fun h1 => ?_) (fun h1 => ?_)
        · have h1 := (mk.2 n (by omega)).mp h1
          exact w_ret (bad (fun h => by omega))
        · have h1 : ¬ n < dig D j := fun h => h1 ((mk.2 n (by omega)).mpr h)
          obtain ⟨v, hv⟩ : ∃ v, dig D j = v + 1 := ⟨dig D j - 1, by omega⟩
          rw [hv, nI_pred]
          refine w_bde (e_has _ (by omega) _) ?_
          refine w_if (fun hb => ?_) (fun hb => ?_)
          · rw [bI_0] at hb
            have hnew : ∀ b, b < j → dig D b ≠ dig D j := fun b hb1 e => by
              rw [(g3 v).mpr ⟨b, hb1, by rw [e, hv]⟩] at hb; cases hb
            rw [nI_pred]
            refine w_chk (in_N (by rw [show h_len 93 = 8 from rfl]; omega) (by decide)) ?_
            refine w_let ?_
            refine w_let ?_
            refine w_f (by decide) ?_
            refine w_let ?_
            refine w_let ?_
            rw [quo10 hD, dn, ← hj, cl_8 (by omega)]
            refine ih (x ||| h_ishl 1 (nI v), h_wi m 93 i (nI v)) ⟨by omega, g1.trans (Fr.wi (by omega) (by omega)) (Nat.le_refl _) (Nat.le_refl _) (Nat.le_refl 93) (Nat.le_refl 94), by rw [hj]; exact Gd_s.mpr ⟨g2, ⟨by omega, by omega⟩, hnew⟩, fun w => ?_, fun p h2 h3 => ?_⟩
            · rw [b_or, Bool.or_eq_true, g3 w, b_one (by omega), decide_eq_true_iff, hj, ex_s, hv]
              exact ⟨fun h => h.elim Or.inl (fun h => Or.inr (by omega)), fun h => h.elim Or.inl (fun h => Or.inr (by omega))⟩
            · show (h_wi m 93 i (nI v)).1 93 p = _
              rw [wi_e]
              by_cases e : p = i
              · rw [if_pos ⟨rfl, e⟩, e]
                unfold ordF
                rw [show n - 1 - i = j by omega, hv]
                rfl
              · rw [if_neg (by omega)]; exact g4 p (by omega) h3
          · rw [bI_n] at hb
            obtain ⟨b, hb1, hb2⟩ := (g3 v).mp hb
            exact w_ret (bad (fun h => h.2 b hb1 (by rw [hb2, hv])))
theorem cn_full8 {n : Nat} (hn : n ≤ 8) : cn (bt (fullS n)) 8 = n := by
  have e := cn_add (p := bt (fullS n)) n (8 - n) (fun i h1 _ => by
    rw [b_full hn]
    have : ¬ i < n := by omega
    simp [this])
  rw [show n + (8 - n) = 8 by omega] at e
  rw [e, cn_full hn n (Nat.le_refl _)]
/-- the reference reads an order -/
theorem s_isOrder {μ : HMem} {k : Nat} {G : HG} (hk : k < 4) (hn : G.1 ≤ 8) (h : RG (μ.1 126) (73 * k) G) (d : Int32) {Q : Int32 → HMem → Prop} (hQ : ∀ b μ', Fs μ μ' → (b = true ↔ ∃ D, d = nI D ∧ D < 2 ^ 31 ∧ 0 < D ∧ Gd D G.1 G.1 ∧ D / 10 ^ G.1 = 0) → (∀ D, d = nI D → D < 2 ^ 31 → b = true → ∀ p, p < G.1 → μ'.1 130 p = nI (ordF D G.1 p)) → Q (bI b) μ') : wp (f_Model_isOrder (nI k) d μ) Q := by
  unfold f_Model_isOrder
  refine w_bde (e_msize (by omega) h) ?_
  refine w_let ?_
  generalize hG : G.1 = n at hn hQ
  refine w_down (fun f i (x : Int32 × Int32 × HMem) => wp (f_Model_isOrder_L14 f_Model_isOrder_J82 f (nI k) d x.1 x.2.1 (nI i - 1) x.2.2) Q) (fun i x => i ≤ n ∧ Fs μ x.2.2 ∧ ∀ D, d = nI D → D < 2 ^ 31 → x.1 = nI (D / 10 ^ (n - i)) ∧ (∀ w, bt x.2.1 w = true ↔ ∃ a, a < n - i ∧ (dig D a = w + 1 ∧ w < n)) ∧ ((Gd D n (n - i) ∧ cn (bt x.2.1) 8 = n - i ∧ ∀ p, i ≤ p → p < n → x.2.2.1 130 p = nI (ordF D n p)) ∨ (¬ Gd D n (n - i) ∧ cn (bt x.2.1) 8 < n - i))) ?_ ?_ n (d, 0, μ) (by omega) ⟨Nat.le_refl _, Fs.refl _, fun D e hD => ⟨by rw [Nat.sub_self, Nat.pow_zero, Nat.div_one]; exact e, fun w => by rw [b_0]; exact ⟨fun h => (by cases h), fun ⟨a, ha, _⟩ => by omega⟩, Or.inl ⟨fun a ha => by omega, by rw [cn_zero (fun i _ => b_0 i)]; omega, fun p h1 h2 => by omega⟩⟩⟩
  · rintro f ⟨x, y, m⟩ ⟨_, g1, g2⟩
    show wp (f_Model_isOrder_L14_b f_Model_isOrder_J82 (f_Model_isOrder_L14 f_Model_isOrder_J82 f) (nI k) d x y (nI 0 - 1) m) Q
    unfold f_Model_isOrder_L14_b f_Model_isOrder_J82 f_Model_isOrder_J108 f_Model_isOrder_J109
    simp only [Nat.sub_zero] at g2
    refine w_t dn0 ?_
    have no : (∀ D, d = nI D → D < 2 ^ 31 → 0 < D → Gd D n n → D / 10 ^ n = 0 → False) → Q (bI false) m := fun hh => hQ false m g1 ⟨fun h => (by cases h), fun ⟨D, e, h1, h2, h3, h4⟩ => (hh D e h1 h2 h3 h4).elim⟩ (fun D e h hb => by cases hb)
    refine w_if (fun h0 => ?_) (fun h0 => ?_)
    · rw [e_J0]
      refine w_ret (no (fun D e h1 h2 _ _ => ?_))
      rw [e] at h0
      have := (nI_leI (b := 0) h1 (by omega)).mp h0
      omega
    · have hpos : ¬ d < 0 := fun hl => h0 (by
        rw [Int32.lt_iff_toInt_lt] at hl
        rw [Int32.le_iff_toInt_le]
        omega)
      obtain ⟨D, hD, rfl⟩ := nI_of hpos
      have huniq : ∀ D', nI D = nI D' → D' < 2 ^ 31 → D' = D := fun D' e h => ((nI_eq hD h).mp e).symm
      have hD0 : 0 < D := Nat.pos_of_ne_zero (fun e => h0 (by rw [e]; decide))
      obtain ⟨e1, e2, e3⟩ := g2 D rfl hD
      have hle : D / 10 ^ n ≤ D := Nat.div_le_self _ _
      subst e1
      refine w_if (fun h1 => ?_) (fun h1 => ?_)
      · rw [e_J0]
        refine w_ret (no (fun D' e h2 _ _ hz => ?_))
        rw [huniq D' e h2] at hz
        rw [hz] at h1
        exact absurd rfl h1
      · have h1 := (nI_eq (b := 0) (by omega) (by omega)).mp (Classical.not_not.mp h1)
        refine w_bde (e_msize (by omega) (h.fs g1)) ?_
        rw [hG, all_k n (by omega)]
        have hfull : y = fullS n ↔ Gd D n n := by
          constructor
          · intro e
            rcases e3 with e3 | e3
            · exact e3.1
            · have := e3.2
              rw [e, cn_full8 hn] at this
              omega
          · intro hg
            rcases e3 with e3 | e3
            · refine Classical.byContradiction (fun hne => ?_)
              have hf8 : S8 (fullS n) := fun i hi => by
                rw [b_full hn]
                have : ¬ i < n := by omega
                simp [this]
              have := grow8 hf8 (fun w hw => by
                obtain ⟨a, _, _, hwn⟩ := (e2 w).mp hw
                rw [b_full hn]
                simp [hwn]) hne
              rw [cn_full8 hn, e3.2.1] at this
              omega
            · exact absurd hg e3.1
        refine w_if (fun h2 => ?_) (fun h2 => ?_)
        · rw [e_J0]
          refine w_ret (no (fun D' e h3 _ hg _ => ?_))
          rw [huniq D' e h3] at hg
          exact h2 (hfull.mpr hg)
        · have hg := hfull.mp (Classical.not_not.mp h2)
          rw [e_J1]
          refine w_ret (hQ true m g1 ⟨fun _ => ⟨D, rfl, hD, hD0, hg, h1⟩, fun _ => rfl⟩ (fun D' e h _ p hp => ?_))
          rw [huniq D' e h]
          rcases e3 with e3 | e3
          · exact e3.2.2 p (Nat.zero_le _) hp
          · exact absurd hg e3.1
  · rintro f i ⟨x, y, m⟩ ⟨hi, g1, g2⟩ ih
    show wp (f_Model_isOrder_L14_b f_Model_isOrder_J82 (f_Model_isOrder_L14 f_Model_isOrder_J82 f) (nI k) d x y (nI (i + 1) - 1) m) Q
    unfold f_Model_isOrder_L14_b
    replace g2 : ∀ D, d = nI D → D < 2 ^ 31 → x = nI (D / 10 ^ (n - (i + 1))) ∧ (∀ w, bt y w = true ↔ ∃ a, a < n - (i + 1) ∧ (dig D a = w + 1 ∧ w < n)) ∧ ((Gd D n (n - (i + 1)) ∧ cn (bt y) 8 = n - (i + 1) ∧ ∀ p, i + 1 ≤ p → p < n → m.1 130 p = nI (ordF D n p)) ∨ (¬ Gd D n (n - (i + 1)) ∧ cn (bt y) 8 < n - (i + 1))) := g2
    have hj : n - i = (n - (i + 1)) + 1 := by omega
    generalize hjj : n - (i + 1) = j at g2 hj
    refine w_f (dnS (by omega)) ?_
    refine w_f (by decide) ?_
    rw [nI_pred, cl_8 (by omega)]
    refine w_chk (in_N (by rw [show h_len 130 = 8 from rfl]; omega) (by decide)) ?_
    refine w_let ?_
    refine w_chk (in_N (by rw [show h_len 130 = 8 from rfl]; omega) (by decide)) ?_
    rw [wi_s]
    have f1 : Fs m (h_wi m 130 i (h_irem x 10 - 1)) := Fs.wi (by omega) (by omega)
    have r1 : ∀ p, (h_wi m 130 i (h_irem x 10 - 1)).1 130 p = if p = i then h_irem x 10 - 1 else m.1 130 p := by
      intro p
      rw [wi_e]
      by_cases e : p = i
      · rw [if_pos ⟨rfl, e⟩, if_pos e]
      · rw [if_neg (by omega), if_neg e]
    generalize h_wi m 130 i (h_irem x 10 - 1) = m1 at f1 r1
    refine w_bde (e_msize (by omega) ((h.fs g1).fs f1)) ?_
    rw [hG, e_in, bd_some]
    have go : ∀ z : Int32, (∀ D, d = nI D → D < 2 ^ 31 → ((1 ≤ dig D j ∧ dig D j ≤ n) ∧ z = h_ishl 1 (nI (dig D j - 1))) ∨ (¬ (1 ≤ dig D j ∧ dig D j ≤ n) ∧ z = 0)) → wp (f_Model_isOrder_J68 (f_Model_isOrder_L14 f_Model_isOrder_J82 f) (nI k) d x (nI i) z y m1) Q := by
      intro z hz
      unfold f_Model_isOrder_J68
      refine w_let ?_
      refine w_f (by decide) ?_
      refine w_let ?_
      refine w_let ?_
      rw [dn]
      refine ih (x / 10, y ||| z, m1) ⟨by omega, g1.trans f1, fun D e hD => ?_⟩
      obtain ⟨e1, e2, e3⟩ := g2 D e hD
      rw [hj]
      refine ⟨by show x / 10 = _; rw [e1, quo10 hD], fun w => ?_, ?_⟩
      · show bt (y ||| z) w = true ↔ _
        rw [b_or, Bool.or_eq_true, e2 w, ex_s]
        rcases hz D e hD with ⟨h1, h2⟩ | ⟨h1, h2⟩
        · rw [h2, b_one (by omega), decide_eq_true_iff]
          exact ⟨fun h => h.elim Or.inl (fun h => Or.inr ⟨by omega, by omega⟩), fun h => h.elim Or.inl (fun h => Or.inr (by omega))⟩
        · rw [h2, b_0]
          exact ⟨fun h => h.elim Or.inl (fun h => (by cases h)), fun h => h.elim Or.inl (fun h => absurd ⟨by omega, by omega⟩ h1)⟩
      · show (Gd D n (j + 1) ∧ cn (bt (y ||| z)) 8 = j + 1 ∧ _) ∨ (¬ Gd D n (j + 1) ∧ cn (bt (y ||| z)) 8 < j + 1)
        have hup : cn (bt (y ||| z)) 8 ≤ cn (bt y) 8 + 1 := by
          rcases hz D e hD with ⟨h1, h2⟩ | ⟨h1, h2⟩
          · have e9 : cn (bt (y ||| z)) 8 = cn (fun w => bt y w || decide (w = dig D j - 1)) 8 := cn_ext (fun w _ => by rw [b_or, h2, b_one (by omega)])
            rw [e9]
            cases hb : bt y (dig D j - 1) with
            | true =>
              rw [cn_ext (q := bt y) (fun w _ => by
                by_cases e : w = dig D j - 1
                · rw [e, hb]; rfl
                · simp [e])]
              omega
            | false =>
              have hd := cn_drop (K := fun w => bt y w || decide (w = dig D j - 1)) (s := dig D j - 1) (by simp) 8 (by omega)
              rw [hd, cn_ext (p := fun v => (bt y v || decide (v = dig D j - 1)) && !decide (v = dig D j - 1)) (q := bt y) (fun w _ => by
                by_cases e : w = dig D j - 1
                · rw [e, hb]; simp
                · simp [e])]
              exact Nat.le_refl _
          · rw [h2, cn_ext (q := bt y) (fun w _ => by rw [b_or, b_0, Bool.or_false])]
            omega
        rcases e3 with ⟨h3, h4, h5⟩ | ⟨h3, h4⟩
        · by_cases hnew : (1 ≤ dig D j ∧ dig D j ≤ n) ∧ ∀ b, b < j → dig D b ≠ dig D j
          · refine Or.inl ⟨Gd_s.mpr ⟨h3, hnew⟩, ?_, fun p h6 h7 => ?_⟩
            · rcases hz D e hD with ⟨h1, h2⟩ | ⟨h1, h2⟩
              · have hb : bt y (dig D j - 1) = false := by
                  cases hb : bt y (dig D j - 1) with
                  | false => rfl
                  | true =>
                    obtain ⟨a, ha, hb1, _⟩ := (e2 _).mp hb
                    exact absurd (by omega : dig D a = dig D j) (hnew.2 a ha)
                have hd := cn_drop (K := bt (y ||| z)) (s := dig D j - 1) (by rw [b_or, h2, b_one (by omega)]; simp) 8 (by omega)
                rw [hd, cn_ext (p := fun v => bt (y ||| z) v && !decide (v = dig D j - 1)) (q := bt y) (fun w _ => by
                  rw [b_or, h2, b_one (by omega)]
                  by_cases e : w = dig D j - 1
                  · rw [e, hb]; simp
                  · simp [e]), h4]
              · exact absurd hnew.1 h1
            · show m1.1 130 p = _
              rw [r1]
              by_cases e9 : p = i
              · rw [if_pos e9, e1, rem10 hD, e9]
                unfold ordF
                rw [show n - 1 - i = j by omega]
                obtain ⟨v, hv⟩ : ∃ v, dig D j = v + 1 := ⟨dig D j - 1, by omega⟩
                rw [hv, nI_pred]
                rfl
              · rw [if_neg e9]; exact h5 p (by omega) h7
          · refine Or.inr ⟨fun hg => hnew (Gd_s.mp hg).2, ?_⟩
            rcases hz D e hD with ⟨h1, h2⟩ | ⟨h1, h2⟩
            · have hb : bt y (dig D j - 1) = true := by
                refine (e2 _).mpr ?_
                refine Classical.byContradiction (fun hc => hnew ⟨h1, fun b hb1 e9 => hc ⟨b, hb1, by omega, by omega⟩⟩)
              rw [cn_ext (q := bt y) (fun w _ => by
                rw [b_or, h2, b_one (by omega)]
                by_cases e : w = dig D j - 1
                · rw [e, hb]; rfl
                · simp [e]), h4]
              omega
            · rw [h2, cn_ext (q := bt y) (fun w _ => by rw [b_or, b_0, Bool.or_false]), h4]
              omega
        · exact Or.inr ⟨fun hg => h3 (Gd_s.mp hg).1, by omega⟩
    have hgen : ∀ D, d = nI D → D < 2 ^ 31 → ((!decide (h_irem x 10 - 1 < 0) && !decide (nI n - 1 < h_irem x 10 - 1)) = true ↔ (1 ≤ dig D j ∧ dig D j ≤ n)) ∧ h_irem x 10 = nI (dig D j) := by
      intro D e hD
      obtain ⟨e1, _, _⟩ := g2 D e hD
      have e9 : h_irem x 10 = nI (dig D j) := by rw [e1, rem10 hD]
      refine ⟨?_, e9⟩
      rw [e9]
      have hk := (by decide +kernel : ∀ n, n < 9 → ∀ c, c < 10 → ((!decide (nI c - 1 < 0) && !decide (nI n - 1 < nI c - 1)) = true ↔ (1 ≤ c ∧ c ≤ n))) n (by omega) (dig D j) (dig_lt D j)
      exact hk
    refine w_if (fun hb => ?_) (fun hb => ?_)
    · rw [bI_0] at hb
      refine go 0 (fun D e hD => Or.inr ⟨fun hc => ?_, rfl⟩)
      rw [(hgen D e hD).1.mpr hc] at hb
      cases hb
    · rw [bI_n] at hb
      refine w_chk (in_N (by rw [show h_len 130 = 8 from rfl]; omega) (by decide)) ?_
      rw [r1, if_pos rfl]
      refine go _ (fun D e hD => Or.inl ⟨(hgen D e hD).1.mp hb, ?_⟩)
      have h1 := (hgen D e hD).1.mp hb
      rw [(hgen D e hD).2]
      obtain ⟨v, hv⟩ : ∃ v, dig D j = v + 1 := ⟨dig D j - 1, by omega⟩
      rw [hv, nI_pred]
      rfl
theorem ord_ok {G : HG} (hV : GV G) {D : Nat} (hg : Gd D G.1 G.1) : ∀ p, p < G.1 → (elR G.1 G.2.2 false (ordF D G.1) p).2.1 (ordF D G.1 p) = true := by
  intro p hp
  rw [elL_R]
  have h1 := hg (G.1 - 1 - p) (by omega)
  refine ⟨by unfold ordF; omega, fun q hq e => ?_⟩
  have e' : ordF D G.1 p = ordF D G.1 q := e
  unfold ordF at e'
  have h2 := hg (G.1 - 1 - q) (by omega)
  exact h2.2 (G.1 - 1 - p) (by omega) (by omega)
theorem LM_width (a b : Int32) (fl : Bool) {μ : HMem} (h : SI μ) : Fc (f_Law_width a b (bI fl) μ) (f_Model_width a b (bI fl)) := by
  obtain ⟨σ, ok, hc, hr⟩ := h
  unfold Fc f_Law_width f_Bench_width
  rcases ix_g a (n := 4) (by omega) with ha | ⟨i, hi, rfl⟩
  · rw [e_graphAtX ha, bdx_r, bdt_r]
    refine w_ret ?_
    unfold f_Model_width
    rw [e_isGX ha, bd_some]
    exact w_f (by decide) (w_ret (Q_err ok hc hr (by decide) _))
  · rw [e_graphAt hi, bdx_l]
    have hri := hr.1 i hi
    have hci := hc.1 i hi
    have hV := ok.1 i hi
    have hn := hV.1
    /- both ends -/
    have clEnd : ∀ (gr : Bool) (ord : Nat → Nat) (m : HMem), Fr 92 96 μ m → m.1 92 2 = nI (elR (σ.1 i).1 (σ.1 i).2.2 gr ord (σ.1 i).1).2.2.1 - 1 → m.1 92 3 = nI (elR (σ.1 i).1 (σ.1 i).2.2 gr ord (σ.1 i).1).2.2.2 → wp (f_Bench_width_J61 (bI fl) m) (fun x μ1 => x = .inl (if fl then nI (elR (σ.1 i).1 (σ.1 i).2.2 gr ord (σ.1 i).1).2.2.2 else nI (elR (σ.1 i).1 (σ.1 i).2.2 gr ord (σ.1 i).1).2.2.1 - 1) ∧ CS σ μ1 ∧ RS σ μ1) := by
      intro gr ord m hf h1 h2
      unfold f_Bench_width_J61 f_Bench_width_J82
      rw [h1, h2]
      cases fl with
      | false => exact w_t (by decide) (w_ret ⟨rfl, hc.fr hf (by omega), hr.fr hf (by omega)⟩)
      | true => exact w_f (by decide) (w_ret ⟨rfl, hc.fr hf (by omega), hr.fr hf (by omega)⟩)
    have rfEnd : ∀ (gr : Bool) (ord : Nat → Nat) (m2 m : HMem), CS σ m2 → RS σ m2 → Fs m2 m → (gr = false → ∀ p, p < (σ.1 i).1 → m.1 130 p = nI (ord p)) → (∀ p, p < (σ.1 i).1 → (elR (σ.1 i).1 (σ.1 i).2.2 gr ord p).2.1 (elV gr ord (elR (σ.1 i).1 (σ.1 i).2.2 gr ord p) p) = true) → wp (f_Model_width_J43 (bI fl) (bI gr) (nI i) m) (ObQ σ (m2.2 143 0) (if fl then nI (elR (σ.1 i).1 (σ.1 i).2.2 gr ord (σ.1 i).1).2.2.2 else nI (elR (σ.1 i).1 (σ.1 i).2.2 gr ord (σ.1 i).1).2.2.1 - 1)) := by
      intro gr ord m2 m c2 r2 hf ho hok
      unfold f_Model_width_J43 f_Model_width_J62
      refine w_bdk (s_eliminates hi ((r2.fs hf).1 i hi) hV gr ord ho hok (fun m3 _ h1 h2 h3 => ?_))
      rw [h1, h2]
      have f3 := hf.trans h3
      cases fl with
      | false => exact w_t (by decide) (w_ret (ob_tell (c2.fs f3) (r2.fs f3) (by rw [f3.out]) _))
      | true => exact w_f (by decide) (w_ret (ob_tell (c2.fs f3) (r2.fs f3) (by rw [f3.out]) _))
    by_cases hb : b = 0
    · subst hb
      rw [if_neg (fun h => h rfl)]
      refine LM_obs ok (r := if fl then nI (elR (σ.1 i).1 (σ.1 i).2.2 true (fun _ => 0) (σ.1 i).1).2.2.2 else nI (elR (σ.1 i).1 (σ.1 i).2.2 true (fun _ => 0) (σ.1 i).1).2.2.1 - 1) ?_ (fun m2 c2 r2 => ?_)
      · exact w_bdk (s_runGreedily (isg_g hi) hci hV (fun _ => 0) (fun m1 _ h1 h2 h3 => clEnd true _ m1 h3 h1 h2))
      · unfold f_Model_width f_Model_width_J32
        rw [e_isG hi, bd_some]
        refine w_t (by decide) (w_t rfl (w_f (fun h => h rfl) ?_))
        exact rfEnd true (fun _ => 0) m2 m2 c2 r2 (Fs.refl _) (fun h => by cases h) (elV_ok hV _)
    · rw [if_pos hb, hci.1]
      obtain ⟨x, m1, ex, hx⟩ := s_readOrder (Q := fun x m1 => ∃ bb, x = bI bb ∧ Fr 93 94 μ m1 ∧ (bb = true ↔ ∃ D, b = nI D ∧ D < 2 ^ 31 ∧ Gd D (σ.1 i).1 (σ.1 i).1 ∧ D / 10 ^ (σ.1 i).1 = 0) ∧ (∀ D, b = nI D → D < 2 ^ 31 → bb = true → ∀ p, p < (σ.1 i).1 → m1.1 93 p = nI (ordF D (σ.1 i).1 p))) (μ := μ) hn b hb (fun bb m1 h1 h2 h3 => ⟨bb, rfl, h1, h2, h3⟩)
      obtain ⟨bb, rfl, f1, h2, h3⟩ := hx
      rw [ex, bd_some]
      cases bb with
      | false =>
        rw [if_pos (by decide), bdt_r]
        refine w_ret ?_
        unfold f_Model_width
        rw [e_isG hi, bd_some]
        refine w_t (by decide) (w_f hb ?_)
        have r1 := hr.fr f1 (by omega)
        refine w_bdk (s_isOrder hi hn (r1.1 i hi) b (fun b2 m3 g1 g2 g3 => ?_))
        have : b2 = false := by
          cases b2 with
          | false => rfl
          | true =>
            obtain ⟨D, e1, e2, _, e3, e4⟩ := g2.mp rfl
            exact absurd (h2.mpr ⟨D, e1, e2, e3, e4⟩) (by decide)
        rw [this]
        exact w_f (by decide) (w_ret (Q_err ok ((hc.fr f1 (by omega)).fs g1) (r1.fs g1) (by decide) _))
      | true =>
        rw [if_neg (by decide)]
        obtain ⟨D, e1, e2, e3, e4⟩ := h2.mp rfl
        have hD0 : 0 < D := Nat.pos_of_ne_zero (fun e => hb (by rw [e1, e]; rfl))
        refine LM_obs ok (r := if fl then nI (elR (σ.1 i).1 (σ.1 i).2.2 false (ordF D (σ.1 i).1) (σ.1 i).1).2.2.2 else nI (elR (σ.1 i).1 (σ.1 i).2.2 false (ordF D (σ.1 i).1) (σ.1 i).1).2.2.1 - 1) ?_ (fun m2 c2 r2 => ?_)
        · refine w_bdk (s_runInOrder (isg_g hi) (hci.fr f1 (by omega)) hV (ordF D (σ.1 i).1) (h3 D e1 e2 rfl) (ord_ok hV e3) (fun m4 h4 h5 h6 => ?_))
          exact clEnd false _ m4 (f1.trans h6 (by omega) (by omega) (by omega) (by omega)) h4 h5
        · unfold f_Model_width f_Model_width_J32
          rw [e_isG hi, bd_some]
          refine w_t (by decide) (w_f hb ?_)
          refine w_bdk (s_isOrder hi hn (r2.1 i hi) b (fun b2 m3 g1 g2 g3 => ?_))
          have : b2 = true := g2.mpr ⟨D, e1, e2, hD0, e3, e4⟩
          subst this
          refine w_t (by decide) (w_t hb ?_)
          exact rfEnd false (ordF D (σ.1 i).1) m2 m3 c2 r2 g1 (fun _ => g3 D e1 e2 rfl) (ord_ok hV e3)
