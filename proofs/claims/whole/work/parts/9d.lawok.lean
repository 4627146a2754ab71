/-! 9d: the law's loop goes through -/
theorem cmp_r (x : Int64) : lg_cmp x x = 0 := by
  unfold lg_cmp
  rw [if_neg (fun h => by have := Int64.lt_iff_toInt_lt.mp h; omega), if_pos rfl]
theorem fin_c {k b : Int32} {μ : HMem} {J : HMem → Option (Unit × HMem)} {Q : Unit → HMem → Prop} (hq : FcQ k (fun _ => Int32.toInt64 b) μ) (hn : ∀ μ, SI μ → wp (J μ) Q) : wp (h_bd (f_Model_thrown μ) (fun t μ => if t = k then if ¬ k = 0 then J μ else h_chk 0 (h_len 143) (if (lg_cmp (μ.2 143 (Int32.toNatClampNeg (0))) (Int32.toInt64 b)) = 0 then J μ else none) else none)) Q := by
  obtain ⟨h1, h2, h3⟩ := hq
  rw [e_mthrown, bd_some]
  refine w_t h2 (w_if (fun _ => hn _ h1) (fun h => w_chk (in_N (u := 0) (by decide) (by decide)) (w_t ?_ (hn _ h1))))
  rw [show (0 : Int32).toNatClampNeg = 0 by decide, h3 (Classical.not_not.mp h), cmp_r]
theorem fin_l {k : Int32} {b : Int64} {μ : HMem} {J : HMem → Option (Unit × HMem)} {Q : Unit → HMem → Prop} (hq : FcQ k (fun _ => b) μ) (hn : ∀ μ, SI μ → wp (J μ) Q) : wp (h_bd (f_Model_thrown μ) (fun t μ => if t = k then if ¬ k = 0 then J μ else h_chk 0 (h_len 143) (if (lg_cmp (μ.2 143 (Int32.toNatClampNeg (0))) b) = 0 then J μ else none) else none)) Q := by
  obtain ⟨h1, h2, h3⟩ := hq
  rw [e_mthrown, bd_some]
  refine w_t h2 (w_if (fun _ => hn _ h1) (fun h => w_chk (in_N (u := 0) (by decide) (by decide)) (w_t ?_ (hn _ h1))))
  rw [show (0 : Int32).toNatClampNeg = 0 by decide, h3 (Classical.not_not.mp h), cmp_r]
theorem fin_b {k b : Int32} {μ : HMem} {J : HMem → Option (Unit × HMem)} {Q : Unit → HMem → Prop} (hq : FcQ k (fun _ => if b = 0 then 0 else 1) μ) (hn : ∀ μ, SI μ → wp (J μ) Q) : wp (h_bd (f_Model_thrown μ) (fun t μ => if t = k then if ¬ k = 0 then J μ else h_chk 0 (h_len 143) (if b = 0 then (if (lg_cmp (μ.2 143 (Int32.toNatClampNeg (0))) 0) = 0 then J μ else none) else (if (lg_cmp (μ.2 143 (Int32.toNatClampNeg (0))) 1) = 0 then J μ else none)) else none)) Q := by
  obtain ⟨h1, h2, h3⟩ := hq
  rw [e_mthrown, bd_some]
  refine w_t h2 (w_if (fun _ => hn _ h1) (fun h => w_chk (in_N (u := 0) (by decide) (by decide)) ?_))
  rw [show (0 : Int32).toNatClampNeg = 0 by decide, h3 (Classical.not_not.mp h)]
  refine w_if (fun h4 => w_t ?_ (hn _ h1)) (fun h4 => w_t ?_ (hn _ h1))
  · rw [if_pos h4, cmp_r]
  · rw [if_neg h4, cmp_r]
theorem law_step (xs : Nat → Int32) (L : Nat) (rec_ : Int32 → HMem → Option (Unit × HMem)) {p : Nat} (hL : L ≤ 2560) (hp : p ≤ L) {μ : HMem} (h : SI μ) {Q : Unit → HMem → Prop} (he : L < p + 5 → Q () μ) (hn : p + 5 ≤ L → ∀ μ, SI μ → wp (f_Law_law_J2517 xs L rec_ (nI p) μ) Q) : wp (f_Law_law_L23_b xs L rec_ (nI p) μ) Q := by
  unfold f_Law_law_L23_b
  rcases Nat.lt_or_ge L (p + 5) with h5 | h5
  · refine w_t ?_ (w_ret (he h5))
    rcases Nat.lt_or_ge L 5 with h6 | h6
    · exact (by decide +kernel : ∀ L, L < 5 → ∀ p, p < 5 → nI L - 5 < nI p) L h6 p (by omega)
    · rw [show nI L - 5 = nI (L - 5) from pk_sub (b := 5) h6]
      exact nI_lt (by omega) (by omega)
  · have hn := hn h5
    refine w_f ?_ ?_
    · rw [show nI L - 5 = nI (L - 5) from pk_sub (b := 5) (by omega)]
      exact nI_nlt (by omega) (by omega)
    have c0 : vp_in (nI p) L := vp_in_nI (by omega) (by omega)
    have c1 : vp_in (nI p + 1) L := by rw [show nI p + 1 = nI (p + 1) from nI_add p 1]; exact vp_in_nI (by omega) (by omega)
    have c2 : vp_in (nI p + 2) L := by rw [show nI p + 2 = nI (p + 2) from nI_add p 2]; exact vp_in_nI (by omega) (by omega)
    have c3 : vp_in (nI p + 3) L := by rw [show nI p + 3 = nI (p + 3) from nI_add p 3]; exact vp_in_nI (by omega) (by omega)
    have c4 : vp_in (nI p + 4) L := by rw [show nI p + 4 = nI (p + 4) from nI_add p 4]; exact vp_in_nI (by omega) (by omega)
    refine w_chk c0 ?_
    generalize xs (Int32.toNatClampNeg (nI p)) &&& 63 = y
    refine w_if (fun _ => hn μ h) (fun hy => ?_)
    refine w_if (fun _ => ?_) (fun h0 => ?_)
    · exact w_chk c1 (w_chk c2 (w_bdk (w_mono (LM_setSize _ _ h) (fun k μ1 q1 => w_chk c1 (w_chk c2 (w_bdk (w_mono q1 (fun b μ2 q2 => fin_c q2 hn))))))))
    refine w_if (fun _ => ?_) (fun h1 => ?_)
    · exact w_chk c1 (w_chk c2 (w_chk c3 (w_bdk (w_mono (LM_setVertex _ _ _ h) (fun k μ1 q1 => w_chk c1 (w_chk c2 (w_chk c3 (w_bdk (w_mono q1 (fun b μ2 q2 => fin_c q2 hn))))))))))
    refine w_if (fun _ => ?_) (fun h2 => ?_)
    · exact w_chk c1 (w_chk c2 (w_chk c3 (w_chk c4 (w_bdk (w_mono (LM_setEdge _ _ _ _ h) (fun k μ1 q1 => w_chk c1 (w_chk c2 (w_chk c3 (w_chk c4 (w_bdk (w_mono q1 (fun b μ2 q2 => fin_c q2 hn))))))))))))
    refine w_if (fun _ => ?_) (fun h3 => ?_)
    · exact w_chk c1 (w_chk c2 (w_chk c3 (w_bdk (w_mono (LM_make _ _ _ h) (fun k μ1 q1 => w_chk c1 (w_chk c2 (w_chk c3 (w_bdk (w_mono q1 (fun b μ2 q2 => fin_c q2 hn))))))))))
    refine w_if (fun _ => ?_) (fun h4 => ?_)
    · exact w_chk c1 (w_chk c2 (w_chk c3 (w_chk c4 (w_bdk (w_mono (LM_random _ _ _ _ h) (fun k μ1 q1 => w_chk c1 (w_chk c2 (w_chk c3 (w_chk c4 (w_bdk (w_mono q1 (fun b μ2 q2 => fin_c q2 hn))))))))))))
    refine w_if (fun _ => ?_) (fun h5 => ?_)
    · exact w_chk c1 (w_chk c2 (w_chk c3 (w_chk c4 (w_bdk (w_mono (LM_combine _ _ _ _ h) (fun k μ1 q1 => w_chk c1 (w_chk c2 (w_chk c3 (w_chk c4 (w_bdk (w_mono q1 (fun b μ2 q2 => fin_c q2 hn))))))))))))
    refine w_if (fun _ => ?_) (fun h6 => ?_)
    · exact w_chk c1 (w_chk c2 (w_chk c3 (w_chk c4 (w_bdk (w_mono (LM_derive _ _ _ _ h) (fun k μ1 q1 => w_chk c1 (w_chk c2 (w_chk c3 (w_chk c4 (w_bdk (w_mono q1 (fun b μ2 q2 => fin_c q2 hn))))))))))))
    refine w_if (fun _ => ?_) (fun h7 => ?_)
    · exact w_chk c1 (w_chk c2 (w_bdk (w_mono (LM_graph _ _ h) (fun k μ1 q1 => w_chk c1 (w_chk c2 (w_bdk (w_mono q1 (fun b μ2 q2 => fin_c q2 hn))))))))
    refine w_if (fun _ => ?_) (fun h8 => ?_)
    · exact w_chk c1 (w_chk c2 (w_chk c3 (w_bdk (w_mono (LM_vertex _ _ _ h) (fun k μ1 q1 => w_chk c1 (w_chk c2 (w_chk c3 (w_bdk (w_mono q1 (fun b μ2 q2 => fin_c q2 hn))))))))))
    refine w_if (fun _ => ?_) (fun h9 => ?_)
    · exact w_chk c1 (w_chk c2 (w_chk c3 (w_bdk (w_mono (LM_edge _ _ _ h) (fun k μ1 q1 => w_chk c1 (w_chk c2 (w_chk c3 (w_bdk (w_mono q1 (fun b μ2 q2 => fin_c q2 hn))))))))))
    refine w_if (fun _ => ?_) (fun h10 => ?_)
    · exact w_chk c1 (w_chk c2 (w_bdk (w_mono (LM_greedy _ _ h) (fun k μ1 q1 => w_chk c1 (w_chk c2 (w_bdk (w_mono q1 (fun b μ2 q2 => fin_c q2 hn))))))))
    refine w_if (fun _ => ?_) (fun h11 => ?_)
    · refine w_chk c1 (w_chk c2 (w_chk c3 (?_)))
      refine w_if (fun hx => ?_) (fun hx => ?_)
      · unfold f_Law_law_J1107 f_Law_law_J1140
        exact w_bdk (w_mono (LM_width _ _ false h) (fun k μ1 q1 => w_chk c1 (w_chk c2 (w_chk c3 (w_t hx (w_bdk (w_mono q1 (fun b μ2 q2 => fin_c q2 hn))))))))
      · unfold f_Law_law_J1107 f_Law_law_J1140
        exact w_bdk (w_mono (LM_width _ _ true h) (fun k μ1 q1 => w_chk c1 (w_chk c2 (w_chk c3 (w_f hx (w_bdk (w_mono q1 (fun b μ2 q2 => fin_c q2 hn))))))))
    refine w_if (fun _ => ?_) (fun h12 => ?_)
    · exact w_chk c1 (w_bdk (w_mono (LM_treewidth _ h) (fun k μ1 q1 => w_chk c1 (w_bdk (w_mono q1 (fun b μ2 q2 => fin_c q2 hn))))))
    refine w_if (fun _ => ?_) (fun h13 => ?_)
    · exact w_chk c1 (w_chk c2 (w_bdk (w_mono (LM_bag _ _ h) (fun k μ1 q1 => w_chk c1 (w_chk c2 (w_bdk (w_mono q1 (fun b μ2 q2 => fin_c q2 hn))))))))
    refine w_if (fun _ => ?_) (fun h14 => ?_)
    · exact w_chk c1 (w_chk c2 (w_chk c3 (w_bdk (w_mono (LM_count _ _ _ h) (fun k μ1 q1 => w_chk c1 (w_chk c2 (w_chk c3 (w_bdk (w_mono q1 (fun b μ2 q2 => fin_l q2 hn))))))))))
    refine w_if (fun _ => ?_) (fun h15 => ?_)
    · exact w_chk c1 (w_chk c2 (w_chk c3 (w_bdk (w_mono (LM_density _ _ _ h) (fun k μ1 q1 => w_chk c1 (w_chk c2 (w_chk c3 (w_bdk (w_mono q1 (fun b μ2 q2 => fin_l q2 hn))))))))))
    refine w_if (fun _ => ?_) (fun h16 => ?_)
    · exact w_chk c1 (w_bdk (w_mono (LM_automorphisms _ h) (fun k μ1 q1 => w_chk c1 (w_bdk (w_mono q1 (fun b μ2 q2 => fin_c q2 hn))))))
    refine w_if (fun _ => ?_) (fun h17 => ?_)
    · unfold f_Law_law_J1580
      exact w_chk c1 (w_chk c2 (w_bdk (w_mono (LM_isomorphic _ _ h) (fun k μ1 q1 => w_chk c1 (w_chk c2 (w_bdk (w_mono q1 (fun b μ2 q2 => fin_b q2 hn))))))))
    refine w_if (fun _ => ?_) (fun h18 => ?_)
    · exact w_chk c1 (w_chk c2 (w_chk c3 (w_bdk (w_mono (LM_image _ _ _ h) (fun k μ1 q1 => w_chk c1 (w_chk c2 (w_chk c3 (w_bdk (w_mono q1 (fun b μ2 q2 => fin_c q2 hn))))))))))
    refine w_if (fun _ => ?_) (fun h19 => ?_)
    · exact w_chk c1 (w_chk c2 (w_bdk (w_mono (LM_compare _ _ h) (fun k μ1 q1 => w_chk c1 (w_chk c2 (w_bdk (w_mono q1 (fun b μ2 q2 => fin_c q2 hn))))))))
    refine w_if (fun _ => ?_) (fun h20 => ?_)
    · exact w_chk c1 (w_chk c2 (w_bdk (w_mono (LM_colorings _ _ h) (fun k μ1 q1 => w_chk c1 (w_chk c2 (w_bdk (w_mono q1 (fun b μ2 q2 => fin_l q2 hn))))))))
    refine w_if (fun _ => ?_) (fun h21 => ?_)
    · exact w_chk c1 (w_bdk (w_mono (LM_chromatic _ h) (fun k μ1 q1 => w_chk c1 (w_bdk (w_mono q1 (fun b μ2 q2 => fin_c q2 hn))))))
    refine w_if (fun _ => ?_) (fun h22 => ?_)
    · exact w_chk c1 (w_chk c2 (w_bdk (w_mono (LM_independent _ _ h) (fun k μ1 q1 => w_chk c1 (w_chk c2 (w_bdk (w_mono q1 (fun b μ2 q2 => fin_c q2 hn))))))))
    refine w_if (fun _ => ?_) (fun h23 => ?_)
    · refine w_chk c1 (w_chk c2 (w_chk c3 (?_)))
      refine w_if (fun hx => ?_) (fun hx => ?_)
      · unfold f_Law_law_J1955 f_Law_law_J1988
        exact w_bdk (w_mono (LM_walks _ _ false h) (fun k μ1 q1 => w_chk c1 (w_chk c2 (w_chk c3 (w_t hx (w_bdk (w_mono q1 (fun b μ2 q2 => fin_l q2 hn))))))))
      · unfold f_Law_law_J1955 f_Law_law_J1988
        exact w_bdk (w_mono (LM_walks _ _ true h) (fun k μ1 q1 => w_chk c1 (w_chk c2 (w_chk c3 (w_f hx (w_bdk (w_mono q1 (fun b μ2 q2 => fin_l q2 hn))))))))
    refine w_if (fun _ => ?_) (fun h24 => ?_)
    · exact w_chk c1 (w_chk c2 (w_bdk (w_mono (LM_folds _ _ h) (fun k μ1 q1 => w_chk c1 (w_chk c2 (w_bdk (w_mono q1 (fun b μ2 q2 => fin_c q2 hn))))))))
    refine w_if (fun _ => ?_) (fun h25 => ?_)
    · exact w_chk c1 (w_bdk (w_mono (LM_dismantle _ h) (fun k μ1 q1 => w_chk c1 (w_bdk (w_mono q1 (fun b μ2 q2 => fin_c q2 hn))))))
    refine w_if (fun _ => ?_) (fun h26 => ?_)
    · unfold f_Law_law_J2201
      exact w_chk c1 (w_bdk (w_mono (LM_isCore _ h) (fun k μ1 q1 => w_chk c1 (w_bdk (w_mono q1 (fun b μ2 q2 => fin_b q2 hn))))))
    refine w_if (fun _ => ?_) (fun h27 => ?_)
    · exact w_chk c1 (w_bdk (w_mono (LM_coreSize _ h) (fun k μ1 q1 => w_chk c1 (w_bdk (w_mono q1 (fun b μ2 q2 => fin_c q2 hn))))))
    refine w_if (fun _ => ?_) (fun h28 => ?_)
    · exact w_chk c1 (w_bdk (w_mono (LM_append _ h) (fun k μ1 q1 => w_chk c1 (w_bdk (w_mono q1 (fun b μ2 q2 => fin_c q2 hn))))))
    refine w_if (fun _ => ?_) (fun h29 => ?_)
    · exact w_bdk (w_mono (LM_clear h) (fun r μ1 q1 => w_bdk (w_mono q1 (fun b μ2 q2 => w_t q2.2 (hn μ2 q2.1)))))
    refine w_if (fun _ => ?_) (fun h30 => ?_)
    · exact w_chk c1 (w_bdk (w_mono (LM_parse _ h) (fun k μ1 q1 => w_chk c1 (w_bdk (w_mono q1 (fun b μ2 q2 => fin_c q2 hn))))))
    refine w_if (fun _ => ?_) (fun h31 => ?_)
    · exact w_chk c1 (w_chk c2 (w_bdk (w_mono (LM_written _ _ h) (fun k μ1 q1 => w_chk c1 (w_chk c2 (w_bdk (w_mono q1 (fun b μ2 q2 => fin_c q2 hn))))))))
    refine w_if (fun _ => ?_) (fun h32 => ?_)
    · exact w_bdk (w_mono (LM_undo  h) (fun k μ1 q1 => w_bdk (w_mono q1 (fun b μ2 q2 => fin_c q2 hn))))
    refine w_if (fun _ => ?_) (fun h33 => ?_)
    · refine w_bdk (w_mono (LM_digest h) (fun r μ1 q1 => w_bdk (w_mono q1 (fun b μ2 q2 => w_t ?_ (hn μ2 q2.1)))))
      rw [q2.2, cmp_r]
    exfalso
    have e : ∀ n : Int, y.toInt = n → 0 ≤ n → n ≤ 33 → False := by
      intro n hn0 hn1 hn2
      have hc : n = 0 ∨ n = 1 ∨ n = 2 ∨ n = 3 ∨ n = 4 ∨ n = 5 ∨ n = 6 ∨ n = 7 ∨ n = 8 ∨ n = 9 ∨ n = 10 ∨ n = 11 ∨ n = 12 ∨ n = 13 ∨ n = 14 ∨ n = 15 ∨ n = 16 ∨ n = 17 ∨ n = 18 ∨ n = 19 ∨ n = 20 ∨ n = 21 ∨ n = 22 ∨ n = 23 ∨ n = 24 ∨ n = 25 ∨ n = 26 ∨ n = 27 ∨ n = 28 ∨ n = 29 ∨ n = 30 ∨ n = 31 ∨ n = 32 ∨ n = 33 := by omega
      rcases hc with rfl | rfl | rfl | rfl | rfl | rfl | rfl | rfl | rfl | rfl | rfl | rfl | rfl | rfl | rfl | rfl | rfl | rfl | rfl | rfl | rfl | rfl | rfl | rfl | rfl | rfl | rfl | rfl | rfl | rfl | rfl | rfl | rfl | rfl
      · exact h0 (Int32.toInt_inj.mp hn0)
      · exact h1 (Int32.toInt_inj.mp hn0)
      · exact h2 (Int32.toInt_inj.mp hn0)
      · exact h3 (Int32.toInt_inj.mp hn0)
      · exact h4 (Int32.toInt_inj.mp hn0)
      · exact h5 (Int32.toInt_inj.mp hn0)
      · exact h6 (Int32.toInt_inj.mp hn0)
      · exact h7 (Int32.toInt_inj.mp hn0)
      · exact h8 (Int32.toInt_inj.mp hn0)
      · exact h9 (Int32.toInt_inj.mp hn0)
      · exact h10 (Int32.toInt_inj.mp hn0)
      · exact h11 (Int32.toInt_inj.mp hn0)
      · exact h12 (Int32.toInt_inj.mp hn0)
      · exact h13 (Int32.toInt_inj.mp hn0)
      · exact h14 (Int32.toInt_inj.mp hn0)
      · exact h15 (Int32.toInt_inj.mp hn0)
      · exact h16 (Int32.toInt_inj.mp hn0)
      · exact h17 (Int32.toInt_inj.mp hn0)
      · exact h18 (Int32.toInt_inj.mp hn0)
      · exact h19 (Int32.toInt_inj.mp hn0)
      · exact h20 (Int32.toInt_inj.mp hn0)
      · exact h21 (Int32.toInt_inj.mp hn0)
      · exact h22 (Int32.toInt_inj.mp hn0)
      · exact h23 (Int32.toInt_inj.mp hn0)
      · exact h24 (Int32.toInt_inj.mp hn0)
      · exact h25 (Int32.toInt_inj.mp hn0)
      · exact h26 (Int32.toInt_inj.mp hn0)
      · exact h27 (Int32.toInt_inj.mp hn0)
      · exact h28 (Int32.toInt_inj.mp hn0)
      · exact h29 (Int32.toInt_inj.mp hn0)
      · exact h30 (Int32.toInt_inj.mp hn0)
      · exact h31 (Int32.toInt_inj.mp hn0)
      · exact h32 (Int32.toInt_inj.mp hn0)
      · exact h33 (Int32.toInt_inj.mp hn0)
    exact e y.toInt rfl (by omega) (by omega)
theorem SI_0 : SI h_μ0 := by
  refine ⟨(fun _ => (0, fun _ => 0, fun _ _ => 0), (0, fun _ _ => (0, fun _ => 0, fun _ _ => 0)), (0, fun _ => 0)), ⟨fun i _ => ?_, Nat.zero_le _, fun j i hj => absurd hj (Nat.not_lt_zero _), Nat.zero_le _, fun k hk => absurd hk (Nat.not_lt_zero _)⟩, ⟨fun i _ => ?_, ⟨0, by omega, rfl, rfl, fun j i hj => absurd hj (Nat.not_lt_zero _)⟩, rfl, fun k hk => absurd hk (Nat.not_lt_zero _)⟩, ⟨fun i _ => ?_, ⟨rfl, fun j i hj => absurd hj (Nat.not_lt_zero _)⟩, rfl, fun k hk => absurd hk (Nat.not_lt_zero _)⟩⟩
  · exact ⟨Nat.zero_le _, fun v hv => absurd hv (Nat.not_lt_zero _), fun u v hu => absurd hu (Nat.not_lt_zero _)⟩
  · refine ⟨rfl, fun v hv => absurd hv (Nat.not_lt_zero _), fun u v hu => absurd hu (Nat.not_lt_zero _), fun u v _ => ?_⟩
    show bt 0 v = true ↔ u < 0 ∧ _
    rw [b_0]
    exact ⟨fun h => (by cases h), fun h => absurd h.1 (Nat.not_lt_zero _)⟩
  · exact ⟨rfl, fun v hv => absurd hv (Nat.not_lt_zero _), fun u v hu => absurd hu (Nat.not_lt_zero _)⟩
theorem law_ok (xs : Nat → Int32) {L : Nat} (hL : L ≤ 2560) : ∃ μ', f_Law_law_L23 xs L 600 0 h_μ0 = some ((), μ') := by
  have key : wp (f_Law_law_L23 xs L 600 (nI 0) h_μ0) (fun _ _ => True) := by
    refine w_loop (fun f (s : Nat × HMem) => wp (f_Law_law_L23 xs L f (nI s.1) s.2) (fun _ _ => True)) (fun s => s.1 ≤ L ∧ SI s.2) (fun s => (L + 5 - s.1) / 5) ?_ 600 (0, h_μ0) ⟨Nat.zero_le _, SI_0⟩ (by show (L + 5 - 0) / 5 < 600; omega)
    rintro f ⟨p, m⟩ ⟨h1, h2⟩ ih
    replace h1 : p ≤ L := h1
    refine law_step xs L (f_Law_law_L23 xs L f) hL h1 h2 (fun _ => trivial) (fun h5 m' h3 => ?_)
    unfold f_Law_law_J2517
    refine w_let ?_
    rw [show nI p + 5 = nI (p + 5) from nI_add p 5]
    exact ih (p + 5, m') ⟨h5, h3⟩ (by show (L + 5 - (p + 5)) / 5 < (L + 5 - p) / 5; omega)
  obtain ⟨r, μ', e, _⟩ := key
  exact ⟨μ', e⟩
