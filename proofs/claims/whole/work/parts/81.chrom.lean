/-! 81: chromatic numbers -/
theorem cmp_0 {N : Nat} (h : N < 2 ^ 63) : lg_cmp (lN N) 0 ≤ 0 ↔ N = 0 := by
  have e : (lN N).toInt = N := lg_ofNat_toInt (by omega)
  unfold lg_cmp
  constructor
  · intro h1
    refine Nat.eq_zero_of_not_pos (fun hp => ?_)
    rw [if_pos (show lN N > 0 from Int64.lt_iff_toInt_lt.mpr (by rw [e, show (0 : Int64).toInt = 0 by decide]; omega))] at h1
    exact absurd h1 (by decide)
  · intro h0
    subst h0
    decide
theorem cr_le {X : HG} {q : Nat} (hq : q ≤ 20) : ∀ (r : Nat) (a : Nat → Nat) (v u : Nat), u + r ≤ 20 → cr X q r a v u ≤ 20 ^ r
  | 0, _, _, _, _ => Nat.le_refl _
  | r + 1, a, v, u, h => by
    have h1 := sm_le (f := fun c => if cP X a v c = true then cr X q r (ly a v c) (v + 1) u else 0) (b := 20 ^ r) (n := u) (fun c _ => by
      show (if cP X a v c = true then cr X q r (ly a v c) (v + 1) u else 0) ≤ 20 ^ r
      by_cases hc : cP X a v c = true
      · rw [if_pos hc]; exact cr_le hq r _ _ _ (by omega)
      · rw [if_neg hc]; exact Nat.zero_le _)
    show sm (fun c => if cP X a v c = true then cr X q r (ly a v c) (v + 1) u else 0) u + (if u < q then (q - u) * cr X q r (ly a v u) (v + 1) (u + 1) else 0) ≤ 20 ^ (r + 1)
    rw [Nat.pow_succ, Nat.mul_comm (20 ^ r) 20]
    by_cases hu : u < q
    · rw [if_pos hu]
      have h2 : (q - u) * cr X q r (ly a v u) (v + 1) (u + 1) ≤ (q - u) * 20 ^ r := Nat.mul_le_mul_left _ (cr_le hq r _ _ _ (by omega))
      have h3 : u * 20 ^ r + (q - u) * 20 ^ r ≤ 20 * 20 ^ r := by
        rw [← Nat.add_mul]
        exact Nat.mul_le_mul_right _ (by omega)
      omega
    · rw [if_neg hu]
      have h3 : u * 20 ^ r ≤ 20 * 20 ^ r := Nat.mul_le_mul_right _ (by omega)
      omega
theorem gt_le {X : HG} {n K : Nat} : ∀ (r : Nat) (a : Nat → Nat) (k : Nat), k + r ≤ 8 → gt (aP X) mP (wP n K) r a k ≤ 9 ^ r
  | 0, a, _, _ => by
    show wP n K a ≤ 1
    unfold wP
    by_cases h : mn a n = K
    · rw [if_pos h]; exact Nat.le_refl _
    · rw [if_neg h]; exact Nat.zero_le _
  | r + 1, a, k, h => by
    have h1 := sm_le (f := fun t => if aP X (ly a k t) k then gt (aP X) mP (wP n K) r (ly a k t) (k + 1) else 0) (b := 9 ^ r) (n := mP a k) (fun t _ => by
      show (if aP X (ly a k t) k then gt (aP X) mP (wP n K) r (ly a k t) (k + 1) else 0) ≤ 9 ^ r
      by_cases hc : aP X (ly a k t) k = true
      · rw [if_pos hc]; exact gt_le r _ _ (by omega)
      · rw [if_neg hc]; exact Nat.zero_le _)
    have h2 := mn_le (a := a) k
    show sm (fun t => if aP X (ly a k t) k then gt (aP X) mP (wP n K) r (ly a k t) (k + 1) else 0) (mP a k) ≤ 9 ^ (r + 1)
    rw [Nat.pow_succ, Nat.mul_comm (9 ^ r) 9]
    have h3 : mP a k * 9 ^ r ≤ 9 * 9 ^ r := Nat.mul_le_mul_right _ (by unfold mP; omega)
    omega
theorem gt_W {C : (Nat → Nat) → Nat → Bool} {Mf : (Nat → Nat) → Nat → Nat} {W : (Nat → Nat) → Nat} : ∀ (r : Nat) (a : Nat → Nat) (k : Nat), 0 < gt C Mf W r a k → ∃ b, 0 < W b
  | 0, a, _, h => ⟨a, h⟩
  | r + 1, a, k, h => by
    obtain ⟨t, _, h2⟩ := sm_pos.mp h
    by_cases hc : C (ly a k t) k = true
    · have h2 : 0 < (if C (ly a k t) k = true then gt C Mf W r (ly a k t) (k + 1) else 0) := h2
      rw [if_pos hc] at h2
      exact gt_W r _ _ h2
    · have h2 : 0 < (if C (ly a k t) k = true then gt C Mf W r (ly a k t) (k + 1) else 0) := h2
      rw [if_neg hc] at h2
      exact absurd h2 (Nat.lt_irrefl 0)
theorem ff_pos {q : Nat} : ∀ K, 0 < ff q K ↔ K ≤ q
  | 0 => ⟨fun _ => Nat.zero_le _, fun _ => Nat.lt_succ_self 0⟩
  | K + 1 => by
    show 0 < ff q K * (q - K) ↔ _
    have ih := ff_pos (q := q) K
    constructor
    · intro h
      have h1 : 0 < q - K := Nat.pos_of_ne_zero (fun e => by rw [e, Nat.mul_zero] at h; exact absurd h (Nat.lt_irrefl 0))
      omega
    · intro h
      exact Nat.mul_pos (ih.mpr (by omega)) (by omega)
theorem pc_pos {X : HG} (hn : X.1 ≤ 8) {q : Nat} : 0 < pcN X q ↔ ∃ K, K < 9 ∧ K ≤ q ∧ 0 < pK X K := by
  rw [pc_sum hn, sm_pos]
  constructor
  · rintro ⟨K, h1, h2⟩
    have h2 : 0 < pK X K * ff q K := h2
    refine ⟨K, h1, (ff_pos K).mp (Nat.pos_of_ne_zero (fun e => by rw [e, Nat.mul_zero] at h2; exact absurd h2 (Nat.lt_irrefl 0))), Nat.pos_of_ne_zero (fun e => by rw [e, Nat.zero_mul] at h2; exact absurd h2 (Nat.lt_irrefl 0))⟩
  · rintro ⟨K, h1, h2, h3⟩
    exact ⟨K, h1, Nat.mul_pos h3 ((ff_pos K).mpr h2)⟩
theorem pK_n {X : HG} {K : Nat} (h : 0 < pK X K) : K ≤ X.1 := by
  obtain ⟨b, hb⟩ := gt_W _ _ _ h
  unfold wP at hb
  by_cases e : mn b X.1 = K
  · rw [← e]
    exact mn_le _
  · rw [if_neg e] at hb
    exact absurd hb (Nat.lt_irrefl 0)
theorem pc_b {X : HG} (hn : X.1 ≤ 8) {q : Nat} (hq : q ≤ 20) : pcN X q < 2 ^ 63 := by
  have h1 : (20 : Nat) ^ 8 < 2 ^ 63 := by decide
  unfold pcN
  by_cases h : edN X.2.2 true X.1 = 0
  · rw [if_pos h]
    have h2 := cr_le (X := X) hq X.1 (fun _ => 0) 0 0 (by omega)
    have h3 : (20 : Nat) ^ X.1 ≤ 20 ^ 8 := Nat.pow_le_pow_right (by omega) hn
    omega
  · rw [if_neg h]
    omega
theorem pK_b {X : HG} (hn : X.1 ≤ 8) (K : Nat) : pK X K < 2 ^ 63 := by
  have h1 : (9 : Nat) ^ 8 < 2 ^ 63 := by decide
  have h2 := gt_le (X := X) (n := X.1) (K := K) X.1 (fun _ => 0) 0 (by omega)
  have h3 : (9 : Nat) ^ X.1 ≤ 9 ^ 8 := Nat.pow_le_pow_right (by omega) hn
  unfold pK
  omega
/-- the least number of classes -/
noncomputable def cm (X : HG) : Nat := lst (fun K => 0 < pK X K) 9
noncomputable def cmI (X : HG) : Int32 := if cm X < 9 then nI (cm X) else -1
theorem LM_chromatic (a : Int32) {μ : HMem} (h : SI μ) : Fc (f_Law_chromatic a μ) (f_Model_chromatic a) := by
  obtain ⟨σ, ok, hc, hr⟩ := h
  unfold Fc f_Law_chromatic f_Bench_chromatic
  rcases ix_g a (n := 4) (by omega) with ha | ⟨i, hi, rfl⟩
  · rw [e_graphAtX ha, bdx_r, bdt_r]
    refine w_ret ?_
    unfold f_Model_chromatic
    rw [e_isGX ha, bd_some]
    exact w_f (by decide) (w_ret (Q_err ok hc hr (by decide) _))
  · rw [e_graphAt hi, bdx_l]
    have hV := ok.1 i hi
    have hn := hV.1
    have hci := hc.1 i hi
    have hcm := lst_sp (fun K => 0 < pK (σ.1 i) K) 9
    refine LM_obs ok (r := cmI (σ.1 i)) ?_ (fun m2 c2 r2 => ?_)
    · refine w_for (fun f q (m : HMem) => wp (f_Bench_chromatic_L8 f (4 * i) (nI q) m) (fun x μ1 => x = .inl (cmI (σ.1 i)) ∧ CS σ μ1 ∧ RS σ μ1)) (fun q m => Fr 121 122 μ m ∧ ∀ q', q' < q → pcN (σ.1 i) q' = 0) ((σ.1 i).1 + 1) ?_ ?_ 0 μ (by omega) (by omega) ⟨Fr.refl _ _ _, fun q' h => absurd h (Nat.not_lt_zero _)⟩
      · rintro f m ⟨k1, k2⟩
        show wp (f_Bench_chromatic_L8_b (f_Bench_chromatic_L8 f) (4 * i) (nI ((σ.1 i).1 + 1)) m) _
        unfold f_Bench_chromatic_L8_b
        rw [(hci.fr k1 (by omega)).1]
        refine w_t (nI_lt (by omega) (by omega)) ?_
        have e : cm (σ.1 i) = 9 := lst_no (fun K hK hp => by
          have h1 := pK_n hp
          have h2 := (pc_pos hn (q := K)).mpr ⟨K, hK, Nat.le_refl _, hp⟩
          have h3 := k2 K (by omega)
          omega)
        refine w_ret ⟨?_, hc.fr k1 (by omega), hr.fr k1 (by omega)⟩
        unfold cmI
        rw [if_neg (by omega)]
      · rintro f q m hq ⟨k1, k2⟩ ih
        show wp (f_Bench_chromatic_L8_b (f_Bench_chromatic_L8 f) (4 * i) (nI q) m) _
        unfold f_Bench_chromatic_L8_b
        have cmm := hci.fr k1 (by omega)
        rw [cmm.1]
        refine w_f (nI_nlt (by omega) (by omega)) ?_
        refine w_bdk (s_proper (isg_g hi) hV cmm (q := q) (by omega) (fun m1 f1 => ?_))
        have f01 : Fr 121 122 μ m1 := k1.trans f1 (by omega) (by omega) (by omega) (by omega)
        refine w_if (fun h0 => ?_) (fun h0 => ?_)
        · rw [cmp_0 (pc_b hn (by omega))] at h0
          refine w_let ?_
          rw [nI_1]
          refine ih m1 ⟨f01, fun q' hq' => ?_⟩
          rcases Nat.lt_or_ge q' q with h1 | h1
          · exact k2 q' h1
          · have : q' = q := by omega
            rw [this]
            exact h0
        · rw [cmp_0 (pc_b hn (by omega))] at h0
          obtain ⟨K, h1, h2, h3⟩ := (pc_pos hn).mp (Nat.pos_of_ne_zero h0)
          have none' : ∀ K', K' < q → K' < 9 → ¬ 0 < pK (σ.1 i) K' := fun K' h4 h5 h6 => by
            have := (pc_pos hn (q := K')).mpr ⟨K', h5, Nat.le_refl _, h6⟩
            have := k2 K' h4
            omega
          have eK : K = q := by
            rcases Nat.lt_or_ge K q with h4 | h4
            · exact absurd h3 (none' K h4 h1)
            · omega
          have e : cm (σ.1 i) = q := lst_eq (by omega) (by rw [← eK]; exact h3) (fun u hu => none' u hu (by omega))
          refine w_ret ⟨?_, hc.fr f01 (by omega), hr.fr f01 (by omega)⟩
          unfold cmI
          rw [e, if_pos (by omega)]
    · unfold f_Model_chromatic
      rw [e_isG hi, bd_some]
      refine w_t (by decide) ?_
      refine w_bdk (s_partitions (by omega) hn (r2.1 i hi) (fun m4 hS f4 => ?_))
      have g4 := Fs.fr f4 (by omega) (by omega)
      have e0 : ∀ z : Int32, z = nI 9 - 1 → wp (f_Model_chromatic_L23 f_Model_chromatic_J50 h_fuel (-1) z m4) (ObQ σ (m2.2 143 0) (cmI (σ.1 i))) := ?_
      · exact e0 8 (by decide)
      rintro z rfl
      refine w_down (fun f k (x : Int32) => wp (f_Model_chromatic_L23 f_Model_chromatic_J50 f x (nI k - 1) m4) (ObQ σ (m2.2 143 0) (cmI (σ.1 i)))) (fun k x => k ≤ 9 ∧ ((x = -1 ∧ ∀ K, k ≤ K → K < 9 → ¬ 0 < pK (σ.1 i) K) ∨ (∃ K, k ≤ K ∧ K < 9 ∧ 0 < pK (σ.1 i) K ∧ (∀ K', k ≤ K' → K' < K → ¬ 0 < pK (σ.1 i) K') ∧ x = nI K))) ?_ ?_ 9 (-1) (by omega) ⟨Nat.le_refl _, Or.inl ⟨rfl, fun K h1 h2 => by omega⟩⟩
      · rintro f x ⟨_, hx⟩
        show wp (f_Model_chromatic_L23_b f_Model_chromatic_J50 (f_Model_chromatic_L23 f_Model_chromatic_J50 f) x (nI 0 - 1) m4) _
        unfold f_Model_chromatic_L23_b f_Model_chromatic_J50
        refine w_t dn0 ?_
        have e : x = cmI (σ.1 i) := by
          unfold cmI
          rcases hx with ⟨e, h1⟩ | ⟨K, _, h2, h3, h4, e⟩
          · have : cm (σ.1 i) = 9 := lst_no (fun K hK => h1 K (Nat.zero_le _) hK)
            rw [this, if_neg (by omega), e]
          · have : cm (σ.1 i) = K := lst_eq h2 h3 (fun u hu => h4 u (Nat.zero_le _) hu)
            rw [this, if_pos h2, e]
        rw [e]
        refine w_bde (e_tells _ _) ?_
        exact w_ret (ob_tell (c2.fs g4) (r2.fs g4) (by rw [g4.out]) _)
      · rintro f k x ⟨hk, hx⟩ ih
        show wp (f_Model_chromatic_L23_b f_Model_chromatic_J50 (f_Model_chromatic_L23 f_Model_chromatic_J50 f) x (nI (k + 1) - 1) m4) _
        unfold f_Model_chromatic_L23_b f_Model_chromatic_J43
        refine w_f (dnS (by omega)) ?_
        rw [nI_pred]
        refine w_chk (in_N (by rw [show h_len 138 = 9 from rfl]; omega) (by decide)) ?_
        rw [cl_8 (by omega), hS k (by omega)]
        refine w_if (fun h0 => ?_) (fun h0 => ?_)
        · have h0 : pK (σ.1 i) k = 0 := (cmp_0 (pK_b hn k)).mp h0
          refine w_let ?_
          rw [dn]
          refine ih x ⟨by omega, ?_⟩
          have hk0 : ¬ 0 < pK (σ.1 i) k := by omega
          rcases hx with ⟨e, h1⟩ | ⟨K, h1, h2, h3, h4, e⟩
          · refine Or.inl ⟨e, fun K h5 h6 => ?_⟩
            rcases Nat.lt_or_ge k K with h7 | h7
            · exact h1 K (by omega) h6
            · have : K = k := by omega
              rw [this]
              exact hk0
          · refine Or.inr ⟨K, by omega, h2, h3, fun K' h5 h6 => ?_, e⟩
            rcases Nat.lt_or_ge k K' with h7 | h7
            · exact h4 K' (by omega) h6
            · have : K' = k := by omega
              rw [this]
              exact hk0
        · have h0 : ¬ pK (σ.1 i) k = 0 := fun h => h0 ((cmp_0 (pK_b hn k)).mpr h)
          refine w_let ?_
          rw [dn]
          exact ih (nI k) ⟨by omega, Or.inr ⟨k, Nat.le_refl _, by omega, by omega, fun K' h5 h6 => by omega, rfl⟩⟩
