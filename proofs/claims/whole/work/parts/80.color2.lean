/-! 80: colorings -/
noncomputable def pK (X : HG) (K : Nat) : Nat := gt (aP X) mP (wP X.1 K) X.1 (fun _ => 0) 0
noncomputable def pcN (X : HG) (q : Nat) : Nat := if edN X.2.2 true X.1 = 0 then cr X q X.1 (fun _ => 0) 0 0 else 0
theorem ed_0 {X : HG} : edN X.2.2 true X.1 = 0 ↔ ∀ v, v < X.1 → X.2.2 v v = 0 := by
  constructor
  · intro h v hv
    refine Classical.byContradiction (fun hE => ?_)
    have h1 : 0 < edN X.2.2 true X.1 := sm_pos.mpr ⟨v, hv, by
      have h2 := cn_st (p := fun w => decide (v ≤ w) && edP X.2.2 true v w) (a := v) (b := X.1) (by
        show (decide (v ≤ v) && (!decide (X.2.2 v v = 0) && (true == decide (v = v)))) = true
        rw [decide_eq_false hE]
        simp) hv
      omega⟩
    omega
  · intro h
    refine Nat.eq_zero_of_not_pos (fun h1 => ?_)
    obtain ⟨u, hu, h2⟩ := sm_pos.mp h1
    obtain ⟨s1, s2, _⟩ := sel_sp (p := fun w => decide (u ≤ w) && edP X.2.2 true u w) (n := X.1) (i := 0) h2
    generalize sel (fun w => decide (u ≤ w) && edP X.2.2 true u w) X.1 0 = w at s1 s2
    have s2 : (decide (u ≤ w) && (!decide (X.2.2 u w = 0) && (true == decide (u = w)))) = true := s2
    rw [Bool.and_eq_true, Bool.and_eq_true] at s2
    have e : u = w := by
      have := s2.2.2
      by_cases h : u = w
      · exact h
      · rw [decide_eq_false h] at this; cases this
    have := s2.2.1
    rw [← e, h u hu] at this
    cases this
theorem gt_none {C : (Nat → Nat) → Nat → Bool} {Mf : (Nat → Nat) → Nat → Nat} {W : (Nat → Nat) → Nat} {v : Nat} (hv : ∀ b, C b v = false) : ∀ (r : Nat) (a : Nat → Nat) (k : Nat), k ≤ v → v < k + r → gt C Mf W r a k = 0
  | 0, _, _, h1, h2 => by omega
  | r + 1, a, k, h1, h2 => by
    have : sm (fun t => if C (ly a k t) k then gt C Mf W r (ly a k t) (k + 1) else 0) (Mf a k) = sm (fun _ => 0) (Mf a k) := sm_ext (fun t _ => by
      by_cases e : k = v
      · rw [e, hv]
        rfl
      · rw [gt_none hv r _ (k + 1) (by omega) (by omega)]
        by_cases h : C (ly a k t) k = true
        · rw [if_pos h]
        · rw [if_neg h])
    show sm (fun t => if C (ly a k t) k then gt C Mf W r (ly a k t) (k + 1) else 0) (Mf a k) = 0
    rw [this, sm_0]
theorem pc_sum {X : HG} (hn : X.1 ≤ 8) (q : Nat) : pcN X q = sm (fun K => pK X K * ff q K) 9 := by
  unfold pcN
  by_cases h : edN X.2.2 true X.1 = 0
  · rw [if_pos h]
    have := col_id hn (ed_0.mp h) q X.1 (fun _ => 0) 0 (by omega) (fun j hj => absurd hj (Nat.not_lt_zero _))
    show cr X q X.1 (fun _ => 0) 0 0 = _
    rw [← show cr X q X.1 (fun _ => 0) 0 (mn (fun _ => 0) 0) * ff q (mn (fun _ => 0) 0) = cr X q X.1 (fun _ => 0) 0 0 from Nat.mul_one _]
    exact this
  · rw [if_neg h]
    have : ∃ v, v < X.1 ∧ ¬ X.2.2 v v = 0 := Classical.byContradiction (fun hc => h (ed_0.mpr (fun v hv => Classical.byContradiction (fun hE => hc ⟨v, hv, hE⟩))))
    obtain ⟨v, hv, hE⟩ := this
    have h0 : ∀ K, pK X K = 0 := fun K => gt_none (v := v) (fun b => by
      cases h1 : aP X b v with
      | false => rfl
      | true => exact absurd (aP_t.mp h1).1 hE) X.1 _ 0 (Nat.zero_le _) (by omega)
    have : sm (fun K => pK X K * ff q K) 9 = sm (fun _ => 0) 9 := sm_ext (fun K _ => by rw [h0, Nat.zero_mul])
    rw [this, sm_0]
theorem s_proper {μ : HMem} {g : Nat} {X : HG} (hg : IsG g) (hX : GV X) (hc : CG μ g X) {q : Nat} (hq : q ≤ 20) {Q : Int64 → HMem → Prop} (hQ : ∀ μ', Fr 121 122 μ μ' → Q (lN (pcN X q)) μ') : wp (f_Bench_properColorings g (nI q) μ) Q := by
  have nX := hX.1
  unfold f_Bench_properColorings f_Bench_properColorings_J22
  refine w_bde (e_loopCount hg hc nX) ?_
  have hle : edN X.2.2 true X.1 ≤ 64 := by
    have := sm_le (f := fun u => cn (fun v => decide (u ≤ v) && edP X.2.2 true u v) X.1) (b := 8) (n := X.1) (fun u _ => Nat.le_trans (cn_le _ _) nX)
    unfold edN
    omega
  refine w_if (fun h0 => ?_) (fun h0 => ?_)
  · rw [show (0 : Int32) = nI 0 from rfl, nI_leI (by omega) (by omega)] at h0
    have e : pcN X q = cr X q X.1 (fun _ => 0) 0 0 := if_pos (by omega)
    refine w_bdk (s_colorRest hg hX hq 16 0 0 (fun _ => 0) μ (by omega) (Nat.zero_le _) (Nat.le_refl _) hc (fun c h => absurd h (Nat.not_lt_zero _)) (fun j h => absurd h (Nat.not_lt_zero _)) _ (fun m1 f1 _ => ?_))
    have := hQ m1 f1
    rw [e] at this
    exact w_ret this
  · have e : pcN X q = 0 := if_neg (fun h => h0 (by rw [h]; decide))
    have := hQ μ (Fr.refl _ _ _)
    rw [e] at this
    exact w_ret this
theorem CS.w5 {σ : HS} {μ : HMem} (h : CS σ μ) (x : Int32) : CS σ (h_wi μ 125 5 x) := h.fr (Fr.wi (a := 125) (b := 126) (by omega) (by omega)) (by omega)
theorem RS.w5 {σ : HS} {μ : HMem} (h : RS σ μ) (x : Int32) : RS σ (h_wi μ 125 5 x) := by
  refine ⟨fun i hi => by rw [wi_o _ _ (by omega)]; exact h.1 i hi, ?_, ?_⟩
  · have h2 := h.2.1
    unfold RH at h2 ⊢
    rw [wi_n _ _ (by omega), wi_o _ _ (by omega)]
    exact h2
  · have h2 := h.2.2
    unfold RT at h2 ⊢
    rw [wi_n _ _ (by omega), wi_o _ _ (by omega)]
    exact h2
theorem LM_colorings (a b : Int32) {μ : HMem} (h : SI μ) : FcL (f_Law_colorings a b μ) (f_Model_colorings a b) := by
  obtain ⟨σ, ok, hc, hr⟩ := h
  unfold FcL f_Law_colorings f_Bench_colorings
  rcases ix_g a (n := 4) (by omega) with ha | ⟨i, hi, rfl⟩
  · rw [e_graphAtX ha, bdx_r, bdt_r]
    refine w_ret ?_
    unfold f_Model_colorings
    rw [e_isGX ha, bd_some]
    exact w_f (by decide) (w_ret (Q_err ok hc hr (by decide) _))
  · rw [e_graphAt hi, bdx_l]
    by_cases hb : b < 0 ∨ 20 < b
    · rw [e_reqRX hb, bdx_r, bdt_r]
      refine w_ret ?_
      unfold f_Model_colorings
      rw [e_isG hi, bd_some]
      refine w_t (by decide) ?_
      rw [e_inX hb, bd_some]
      exact w_f (by decide) (w_ret (Q_err ok hc hr (by decide) _))
    · rw [e_reqR hb, bdx_l]
      have hV := ok.1 i hi
      have hn := hV.1
      have hbb := hb
      obtain ⟨q, hq, rfl⟩ := rg_n (n := 20) (by omega) hb
      refine LM_obsL ok (r := lN (pcN (σ.1 i) q)) ?_ (fun m2 c2 r2 => ?_)
      · refine w_bdk (s_proper (isg_g hi) hV (hc.1 i hi) hq (fun m1 f1 => ?_))
        exact w_ret ⟨rfl, hc.fr f1 (by omega), hr.fr f1 (by omega)⟩
      · unfold f_Model_colorings
        rw [e_isG hi, bd_some]
        refine w_t (by decide) ?_
        rw [e_inT hbb, bd_some]
        refine w_t (by decide) ?_
        refine w_let ?_
        have c3 := c2.w5 0
        have r3 := r2.w5 0
        have o3 : (h_wi m2 125 5 0).2 143 0 = m2.2 143 0 := rfl
        have t3 : (h_wi m2 125 5 0).1 125 5 = 0 := wi_s _ _ _ _
        generalize h_wi m2 125 5 0 = m3 at c3 r3 o3 t3
        refine w_bdk (s_partitions (by omega) hn (r3.1 i hi) (fun m4 hS f4 => ?_))
        have g4 := Fs.fr f4 (by omega) (by omega)
        rw [pc_sum hn]
        refine w_for (fun f k (y : Nat × Nat) => wp (f_Model_colorings_L49 f (nI q) (lN y.1) (lN y.2) (nI k) m4) (fun b μ3 => b = lN (sm (fun K => pK (σ.1 i) K * ff q K) 9) ∧ CS σ μ3 ∧ RS σ μ3 ∧ μ3.1 125 5 = 0 ∧ μ3.2 143 0 = m2.2 143 0)) (fun k y => y.1 = sm (fun K => pK (σ.1 i) K * ff q K) k ∧ y.2 = ff q k) 9 ?_ ?_ 0 (0, 1) (by omega) (by omega) ⟨rfl, rfl⟩
        · rintro f ⟨x, y⟩ ⟨e1, e2⟩
          have e1 : x = sm (fun K => pK (σ.1 i) K * ff q K) 9 := e1
          show wp (f_Model_colorings_L49_b (f_Model_colorings_L49 f) (nI q) (lN x) (lN y) (nI 9) m4) _
          unfold f_Model_colorings_L49_b
          refine w_t (by decide) (w_ret ⟨by rw [e1], c3.fs g4, r3.fs g4, by rw [f4.i (by omega)]; exact t3, by rw [g4.out]; exact o3⟩)
        · rintro f k ⟨x, y⟩ hk ⟨e1, e2⟩ ih
          have e1 : x = sm (fun K => pK (σ.1 i) K * ff q K) k := e1
          have e2 : y = ff q k := e2
          show wp (f_Model_colorings_L49_b (f_Model_colorings_L49 f) (nI q) (lN x) (lN y) (nI k) m4) _
          unfold f_Model_colorings_L49_b f_Model_colorings_J86
          refine w_f (nI_ge (b := 9) hk (by omega)) ?_
          refine w_chk (in_N (by rw [show h_len 138 = 9 from rfl]; omega) (by decide)) ?_
          refine w_let ?_
          rw [cl_8 (by omega), hS k hk, lN_mul, lN_add]
          refine w_if (fun h4 => ?_) (fun h4 => ?_)
          · rw [nI_leI (by omega) (by omega)] at h4
            refine w_let ?_
            refine w_let ?_
            rw [nI_1, show (0 : Int64) = lN 0 from rfl, lN_mul]
            refine ih (_, y * 0) ⟨?_, ?_⟩
            · show x + pK (σ.1 i) k * y = sm (fun K => pK (σ.1 i) K * ff q K) k + pK (σ.1 i) k * ff q k
              rw [e1, e2]
            · show y * 0 = ff q k * (q - k)
              rw [show q - k = 0 by omega, Nat.mul_zero, Nat.mul_zero]
          · have h4 : k < q := Nat.lt_of_not_le (fun h => h4 (nI_le h (by omega)))
            refine w_let ?_
            refine w_let ?_
            rw [nI_1, pk_sub (by omega), nI_l (by omega), lN_mul]
            refine ih (_, y * (q - k)) ⟨?_, ?_⟩
            · show x + pK (σ.1 i) k * y = sm (fun K => pK (σ.1 i) K * ff q K) k + pK (σ.1 i) k * ff q k
              rw [e1, e2]
            · show y * (q - k) = ff q k * (q - k)
              rw [e2]
