/-! 9b: count: class and reference sum the same -/
noncomputable def Wf (κ : Nat) (X Y : HG) (b : Nat → Nat) : Int64 := if cB κ X Y b = true then vaL X.1 (nr X) (wK (vlB κ) Y) (gK (vlB κ) Y) b else 0
noncomputable def kT (κ : Nat) (X Y : HG) : Int64 := gL (fC X Y) Y.1 (cW κ X Y) X.1 (fun _ => 0) 0
theorem va_hom {X Y : HG} {vl : Bool} {b : Nat → Nat} (hb : ∀ j, j < X.1 → b j < Y.1 ∧ fC X Y b j = true) : vaL X.1 (nr X) (wK vl Y) (gK vl Y) b = if vl = true then vaL X.1 (nr X) (wV Y) (gV Y) b else 1 := by
  cases vl with
  | true =>
    rw [if_pos rfl]
    refine vaL_cg (fun _ _ => rfl) (fun j hj => if_pos rfl) (fun i j hi hj => ?_)
    unfold gK
    rw [if_pos ⟨(hb i hi).1, (hb j hj).1⟩, if_pos rfl]
    rfl
  | false =>
    rw [if_neg (by decide)]
    unfold vaL
    rw [pL_ext (g := fun _ => 1) (fun v hv => ?_), pL_1]
    unfold fac
    rw [pL_ext (g := fun _ => 1) (fun u hu => ?_), pL_1]
    · rfl
    · by_cases e : (nr X v u && decide (u ≤ v)) = true
      · rw [if_pos e]
        rw [Bool.and_eq_true, decide_eq_true_iff, nr_t] at e
        unfold gK
        rw [if_pos ⟨(hb v hv).1, (hb u hu).1⟩, if_neg (by decide), if_neg (fC_t.mp (hb v hv).2 u e.2 e.1.2.2)]
      · rw [if_neg e]
theorem va_no {X Y : HG} {vl : Bool} {b : Nat → Nat} {j : Nat} (hj : j < X.1) (h : fC X Y b j = false) : vaL X.1 (nr X) (wK vl Y) (gK vl Y) b = 0 := by
  have h1 : ¬ ∀ j', j' ≤ j → ¬ X.2.2 j j' = 0 → ¬ Y.2.2 (b j) (b j') = 0 := fun h2 => by rw [fC_t.mpr h2] at h; cases h
  obtain ⟨j', h2⟩ := Classical.not_forall.mp h1
  obtain ⟨h3, h4⟩ := Classical.not_imp.mp h2
  obtain ⟨h5, h6⟩ := Classical.not_imp.mp h4
  have h6 := Classical.not_not.mp h6
  refine pL_zero (i := j) ?_ hj
  unfold fac
  rw [pL_zero (i := j') ?_ (by omega), Int64.mul_zero]
  rw [if_pos (by rw [Bool.and_eq_true, decide_eq_true_iff, nr_t]; exact ⟨⟨hj, by omega, h5⟩, h3⟩)]
  unfold gK
  rw [h6]
  by_cases e : b j < Y.1 ∧ b j' < Y.1
  · rw [if_pos e]
    cases vl with
    | true => rfl
    | false => rw [if_neg (by decide), if_pos rfl]
  · rw [if_neg e]
theorem kT_SS (κ : Nat) (X Y : HG) : kT κ X Y = SS Y.1 (Wf κ X Y) (fun _ => true) X.1 (fun _ => 0) := by
  unfold kT
  rw [gL_SS (Wf := Wf κ X Y) (n := X.1) (fC_loc X Y) (fun b hb => ?_) (fun b j hj h => ?_) X.1 (fun _ => 0) 0 (by omega) (fun j hj => absurd hj (Nat.not_lt_zero _))]
  · exact SS_S (fun v _ => decide_eq_true (Nat.zero_le _))
  · unfold Wf cW
    rw [va_hom hb]
  · unfold Wf
    rw [va_no hj h]
    by_cases e : cB κ X Y b = true
    · rw [if_pos e]
    · rw [if_neg e]
theorem Wf_all {κ : Nat} (hk : κ = 0 ∨ κ = 1) {X Y : HG} {b : Nat → Nat} : Wf κ X Y b = vaL X.1 (nr X) (wK (vlB κ) Y) (gK (vlB κ) Y) b := by
  unfold Wf
  rw [if_pos (by unfold cB; rw [if_pos hk])]
theorem Wf_inj {κ : Nat} (hk : κ = 2 ∨ κ = 3) {X Y : HG} (hY : Y.1 ≤ 8) {b : Nat → Nat} (hb : ∀ j, j < X.1 → b j < Y.1) : Wf κ X Y b = pL (FB X (wK (vlB κ) Y) (gK (vlB κ) Y) pin b) X.1 := by
  have e : cB κ X Y b = decide (ic b X.1 = X.1) := by
    unfold cB
    rw [if_neg (by omega), if_pos hk]
  unfold Wf
  rw [e]
  have hic := ic_inj (a := b) (n := X.1) (fun p hp => by have := hb p hp; omega)
  by_cases h : ic b X.1 = X.1
  · rw [if_pos (decide_eq_true h), FB_all (hic.mp h)]
    rfl
  · rw [if_neg (by rw [decide_eq_true_iff]; exact h)]
    have h1 : ¬ ∀ k, k < X.1 → pin b k = true := fun h2 => h (hic.mpr h2)
    obtain ⟨k, h2⟩ := Classical.not_forall.mp h1
    obtain ⟨h3, h4⟩ := Classical.not_imp.mp h2
    exact (FB_no h3 h4).symm
theorem Wf_on {κ : Nat} (hk : κ = 4 ∨ κ = 5) {X Y : HG} (hY : Y.1 ≤ 8) {b : Nat → Nat} (hb : ∀ j, j < X.1 → b j < Y.1) (h0 : Y.1 ≤ X.1) : Wf κ X Y b = pL (FB X (wK (vlB κ) Y) (gK (vlB κ) Y) (pon X.1 Y.1) b) X.1 := by
  have e : cB κ X Y b = decide (ic b X.1 = Y.1) := by
    unfold cB
    rw [if_neg (by omega), if_neg (by omega), if_pos hk]
  have h8 : ∀ p, p < X.1 → b p < 8 := fun p hp => by have := hb p hp; omega
  unfold Wf
  rw [e]
  by_cases h : ic b X.1 = Y.1
  · rw [if_pos (decide_eq_true h), FB_all (fun k hk => ?_)]
    · rfl
    · unfold pon fe
      rw [decide_eq_true_iff]
      have := ic_ups (a := b) (k := k + 1) (X.1 - (k + 1)) (fun p hp => h8 p (by omega))
      rw [show k + 1 + (X.1 - (k + 1)) = X.1 by omega] at this
      omega
  · rw [if_neg (by rw [decide_eq_true_iff]; exact h)]
    rcases Nat.eq_zero_or_pos X.1 with h1 | h1
    · exfalso
      have : ic b X.1 = 0 := by
        rw [h1]
        exact cn_zero (fun t _ => bff (fun h2 => by obtain ⟨p, hp, _⟩ := imB_t.mp h2; omega))
      omega
    · refine (FB_no (k := X.1 - 1) (by omega) (fun h2 => ?_)).symm
      unfold pon fe at h2
      rw [decide_eq_true_iff, show X.1 - 1 + 1 = X.1 by omega, Nat.sub_self, Nat.add_zero] at h2
      exact h ((ic_on hY hb).mpr h2)
theorem Wf_on0 {κ : Nat} (hk : κ = 4 ∨ κ = 5) {X Y : HG} {b : Nat → Nat} (hb : ∀ j, j < X.1 → b j < 8) (h0 : ¬ Y.1 ≤ X.1) : Wf κ X Y b = 0 := by
  have e : cB κ X Y b = decide (ic b X.1 = Y.1) := by
    unfold cB
    rw [if_neg (by omega), if_neg (by omega), if_pos hk]
  unfold Wf
  rw [e, if_neg]
  rw [decide_eq_true_iff]
  intro h
  have := (icN_eq (N := fun _ => true) (a := b) (k := X.1) hb).1
  rw [cn_true, ← ic_N] at this
  omega
theorem Wf_ed {X Y : HG} {b : Nat → Nat} : Wf 6 X Y b = pL (FB X (wK (vlB 6) Y) (gK (vlB 6) Y) (ped X) b) X.1 := by
  have e : cB 6 X Y b = eB X b X.1 := by
    unfold cB
    rw [if_neg (by omega), if_neg (by omega), if_neg (by omega)]
  unfold Wf
  rw [e]
  by_cases h : eB X b X.1 = true
  · rw [if_pos h, FB_all (ped_all.mp h)]
    rfl
  · rw [if_neg h]
    have h1 : ¬ ∀ k, k < X.1 → ped X b k = true := fun h2 => h (ped_all.mpr h2)
    obtain ⟨k, h2⟩ := Classical.not_forall.mp h1
    obtain ⟨h3, h4⟩ := Classical.not_imp.mp h2
    exact (FB_no h3 h4).symm
theorem s_count42 {μ : HMem} {gx gy : Nat} {X Y : HG} (hgx : IsG gx) (hgy : IsG gy) (cx : CG μ gx X) (cy : CG μ gy Y) (hX : GV X) (hY : GV Y) {κ : Nat} (hκ : κ ≤ 6) {Q : (Int64 ⊕ Nat) → HMem → Prop} (hQ : ∀ μ', Fr 97 103 μ μ' → Q (.inl (kT κ X Y)) μ') : wp (f_Bench_count_J42 (nI κ) gx gy (bI (vlB κ)) μ) Q := by
  have nX := hX.1
  have nY := hY.1
  have gx84 := hgx.2
  have hd : 9 ≤ h_deep + 0 := by unfold h_deep; omega
  unfold f_Bench_count_J42
  refine w_bdk (s_mload hgx hgy cx cy nX nY (vlB κ) (fun m1 h1 h2 f1 => ?_))
  have cx1 : CG m1 gx X := cx.fr f1 (by omega)
  have hcm : CM X Y.1 (wK (vlB κ) Y) (gK (vlB κ) Y) m1 := ⟨h1, h2⟩
  rw [kT_SS] at hQ
  have all : κ = 0 ∨ κ = 1 → wp (h_bd (f_MapSums_overAllMaps gx m1) (fun r102 μ_102 => some ((.inl r102 : Int64 ⊕ Nat), μ_102))) Q := by
    intro hk
    refine w_bdk (s_overAll hgx hX nY (gK_sym hY) cx1 h1 (fun m2 f2 => w_ret ?_))
    rw [SS_W (W' := Wf κ X Y) (fun b _ _ => (Wf_all hk).symm)]
    exact hQ m2 (f1.trans f2 (by omega) (by omega) (by omega) (by omega))
  have inj : κ = 2 ∨ κ = 3 → wp (h_bd (f_MapSums_overInjectiveMaps m1) (fun r102 μ_102 => some ((.inl r102 : Int64 ⊕ Nat), μ_102))) Q := by
    intro hk
    refine w_bdk ?_
    unfold f_MapSums_overInjectiveMaps
    have e0 : ∀ z, z = nI 0 → wp (h_bd (f_MapSums_sumInjective h_deep z 0 m1) (fun r3 μ_3 => some (r3, μ_3))) (fun r μ => wp (some ((.inl r : Int64 ⊕ Nat), μ)) Q) := ?_
    · exact e0 0 rfl
    rintro z rfl
    refine w_bdk (s_inj nX nY h_deep 0 (fun _ => 0) 0 m1 hd (Nat.zero_le _) hcm (fun u hu => absurd hu (Nat.not_lt_zero _)) (fun t => ⟨fun h => (by rw [b_0] at h; cases h), fun ⟨u, hu, _⟩ => absurd hu (Nat.not_lt_zero _)⟩) _ (fun m2 f2 _ => w_ret (w_ret ?_)))
    rw [Nat.sub_zero, ws_all (FB_loc pin_loc) (W := Wf κ X Y) (fun b hb => Wf_inj hk nY hb)]
    exact hQ m2 (f1.trans f2 (by omega) (by omega) (by omega) (by omega))
  have onto : κ = 4 ∨ κ = 5 → wp (h_bd (f_MapSums_overOntoMaps m1) (fun r102 μ_102 => some ((.inl r102 : Int64 ⊕ Nat), μ_102))) Q := by
    intro hk
    refine w_bdk ?_
    unfold f_MapSums_overOntoMaps
    have e0 : ∀ z, z = nI 0 → wp (h_bd (f_MapSums_sumOnto h_deep z 0 m1) (fun r3 μ_3 => some (r3, μ_3))) (fun r μ => wp (some ((.inl r : Int64 ⊕ Nat), μ)) Q) := ?_
    · exact e0 0 rfl
    rintro z rfl
    have im0 : ∀ t, imB (fun _ => 0) 0 t = false := fun t => bff (fun h => by obtain ⟨p, hp, _⟩ := imB_t.mp h; omega)
    refine w_bdk (s_onto nX nY h_deep 0 (fun _ => 0) 0 m1 hd (Nat.zero_le _) hcm (fun u hu => absurd hu (Nat.not_lt_zero _)) (fun t => by rw [b_0, im0]) _ (fun m2 f2 _ => w_ret (w_ret ?_)))
    have e1 : fe X.1 Y.1 (fun _ => 0) 0 = decide (Y.1 ≤ X.1) := by
      unfold fe
      rw [show ic (fun _ => 0) 0 = 0 from cn_zero (fun t _ => im0 t), Nat.zero_add, Nat.sub_zero]
    rw [e1]
    by_cases h : Y.1 ≤ X.1
    · rw [if_pos (decide_eq_true h), Nat.sub_zero, ws_all (FB_loc (pon_loc _ _)) (W := Wf κ X Y) (fun b hb => Wf_on hk nY hb h)]
      exact hQ m2 (f1.trans f2 (by omega) (by omega) (by omega) (by omega))
    · rw [if_neg (by rw [decide_eq_true_iff]; exact h)]
      have := hQ m2 (f1.trans f2 (by omega) (by omega) (by omega) (by omega))
      rw [SS_W (W' := fun _ => 0) (fun b _ hb => Wf_on0 hk (fun j hj => by have := hb j hj rfl; omega) h), SS_0] at this
      exact this
  have hc : κ = 0 ∨ κ = 1 ∨ κ = 2 ∨ κ = 3 ∨ κ = 4 ∨ κ = 5 ∨ κ = 6 := by omega
  rcases hc with rfl | rfl | rfl | rfl | rfl | rfl | rfl
  · exact w_f (by decide) (w_t (by decide) (all (by omega)))
  · exact w_f (by decide) (w_f (by decide) (w_t (by decide) (all (by omega))))
  · exact w_f (by decide) (w_f (by decide) (w_f (by decide) (w_t (by decide) (inj (by omega)))))
  · exact w_f (by decide) (w_f (by decide) (w_f (by decide) (w_f (by decide) (w_t (by decide) (inj (by omega))))))
  · exact w_f (by decide) (w_f (by decide) (w_f (by decide) (w_f (by decide) (w_f (by decide) (w_t (by decide) (onto (by omega)))))))
  · exact w_f (by decide) (w_f (by decide) (w_f (by decide) (w_f (by decide) (w_f (by decide) (w_f (by decide) (w_t (by decide) (onto (by omega))))))))
  · refine w_t (by decide) (w_bdk ?_)
    unfold f_MapSums_overEdgeInjectiveMaps
    have e0 : ∀ z, z = nI 0 → wp (h_bd (f_MapSums_sumEdgeInjective h_deep z 0 m1) (fun r3 μ_3 => some (r3, μ_3))) (fun r μ => wp (some ((.inl r : Int64 ⊕ Nat), μ)) Q) := ?_
    · exact e0 0 rfl
    rintro z rfl
    refine w_bdk (s_edgeInj nX nY h_deep 0 (fun _ => 0) 0 m1 hd (Nat.zero_le _) hcm (fun u hu => absurd hu (Nat.not_lt_zero _)) (fun p _ => ⟨fun h => (by rw [bL_0] at h; cases h), fun h => ?_⟩) _ (fun m2 f2 _ => w_ret (w_ret ?_)))
    · rcases h with ⟨u, _, hu, _⟩ | ⟨u, hu, _⟩
      · exact absurd hu (Nat.not_lt_zero _)
      · exact absurd hu (Nat.not_lt_zero _)
    · rw [Nat.sub_zero, ws_all (FB_loc (ped_loc X)) (W := Wf 6 X Y) (fun b hb => Wf_ed)]
      exact hQ m2 (f1.trans f2 (by omega) (by omega) (by omega) (by omega))
theorem e_reqS {μ : HMem} {g : Nat} {G : HG} (h : CG μ g G) (hn : G.1 ≤ 8) : f_Bench_requireSmall g μ = if G.1 ≤ 6 then some (.inl (), μ) else some (.inr 3, μ) := by
  unfold f_Bench_requireSmall
  rw [h.1]
  by_cases e : G.1 ≤ 6
  · rw [if_pos (show nI G.1 ≤ 6 from nI_le (b := 6) e (by omega)), if_pos e]
  · rw [if_neg (show ¬ nI G.1 ≤ 6 from nI_ge (a := 6) (by omega) (by omega)), if_neg e]
theorem LM_count (a b c : Int32) {μ : HMem} (h : SI μ) : FcL (f_Law_count a b c μ) (f_Model_count a b c) := by
  obtain ⟨σ, ok, hc, hr⟩ := h
  unfold FcL f_Law_count f_Bench_count
  rcases ix_g a (n := 4) (by omega) with ha | ⟨i, hi, rfl⟩
  · rw [e_graphAtX ha, bdx_r, bdt_r]
    refine w_ret ?_
    unfold f_Model_count f_Model_count_J14
    rw [e_isGX ha, bd_some]
    exact w_t (by decide) (w_ret (Q_err ok hc hr (by decide) _))
  · rw [e_graphAt hi, bdx_l]
    rcases ix_g b (n := 4) (by omega) with hb | ⟨j, hj, rfl⟩
    · rw [e_graphAtX hb, bdx_r, bdt_r]
      refine w_ret ?_
      unfold f_Model_count f_Model_count_J14
      rw [e_isG hi, bd_some]
      refine w_f (by decide) ?_
      rw [e_isGX hb, bd_some]
      exact w_f (by decide) (w_ret (Q_err ok hc hr (by decide) _))
    · rw [e_graphAt hj, bdx_l]
      have hX := ok.1 i hi
      have hY := ok.1 j hj
      have nX := hX.1
      by_cases hk : c < 0 ∨ 6 < c
      · rw [e_reqRX hk, bdx_r, bdt_r]
        refine w_ret ?_
        unfold f_Model_count
        rw [e_isG hi, bd_some]
        refine w_f (by decide) ?_
        rw [e_isG hj, bd_some]
        refine w_t (by decide) ?_
        rw [e_inX hk, bd_some]
        exact w_f (by decide) (w_ret (Q_err ok hc hr (by decide) _))
      · rw [e_reqR hk, bdx_l, e_reqS (hc.1 i hi) nX]
        by_cases h6 : (σ.1 i).1 ≤ 6
        · rw [if_pos h6, bdx_l]
          have hkk := hk
          obtain ⟨κ, hκ, rfl⟩ := rg_n (n := 6) (by omega) hk
          refine LM_obsL ok (r := kT κ (σ.1 i) (σ.1 j)) ?_ (fun m2 c2 r2 => ?_)
          · have fin : wp (f_Bench_count_J42 (nI κ) (4 * i) (4 * j) (bI (vlB κ)) μ) (fun x μ1 => x = .inl (kT κ (σ.1 i) (σ.1 j)) ∧ CS σ μ1 ∧ RS σ μ1) := s_count42 (isg_g hi) (isg_g hj) (hc.1 i hi) (hc.1 j hj) hX hY hκ (fun m1 f1 => ⟨rfl, hc.fr f1 (by omega), hr.fr f1 (by omega)⟩)
            unfold f_Bench_count_J41
            have hcs : κ = 0 ∨ κ = 1 ∨ κ = 2 ∨ κ = 3 ∨ κ = 4 ∨ κ = 5 ∨ κ = 6 := by omega
            rcases hcs with rfl | rfl | rfl | rfl | rfl | rfl | rfl
            · exact w_f (by decide) (w_f (by decide) (w_t (by decide) fin))
            · exact w_f (by decide) (w_f (by decide) (w_f (by decide) fin))
            · exact w_f (by decide) (w_f (by decide) (w_t (by decide) fin))
            · exact w_f (by decide) (w_f (by decide) (w_f (by decide) fin))
            · exact w_f (by decide) (w_f (by decide) (w_t (by decide) fin))
            · exact w_f (by decide) (w_f (by decide) (w_f (by decide) fin))
            · exact w_t (by decide) fin
          · unfold f_Model_count
            rw [e_isG hi, bd_some]
            refine w_f (by decide) ?_
            rw [e_isG hj, bd_some]
            refine w_t (by decide) ?_
            rw [e_inT hkk, bd_some]
            refine w_t (by decide) ?_
            refine w_bde (e_msize (by omega) (r2.1 i hi)) ?_
            refine w_t (nI_le (b := 6) h6 (by omega)) (w_let ?_)
            have c3 := c2.w5 0
            have r3 := r2.w5 0
            have o3 : (h_wi m2 125 5 0).2 143 0 = m2.2 143 0 := rfl
            have t3 : (h_wi m2 125 5 0).1 125 5 = 0 := wi_s _ _ _ _
            generalize h_wi m2 125 5 0 = m3 at c3 r3 o3 t3
            refine w_bdk (s_countOf (by omega) (by omega) nX hY.1 (r3.1 i hi) (r3.1 j hj) hκ (fun m4 f4 => ?_))
            have g4 := Fs.fr f4 (by omega) (by omega)
            exact w_ret ⟨rfl, c3.fs g4, r3.fs g4, by rw [f4.i (by omega)]; exact t3, by rw [g4.out]; exact o3⟩
        · rw [if_neg h6, bdx_r, bdt_r]
          refine w_ret ?_
          unfold f_Model_count
          rw [e_isG hi, bd_some]
          refine w_f (by decide) ?_
          rw [e_isG hj, bd_some]
          refine w_t (by decide) ?_
          rw [e_inT hk, bd_some]
          refine w_t (by decide) ?_
          refine w_bde (e_msize (by omega) (hr.1 i hi)) ?_
          exact w_f (nI_ge (a := 6) (by omega) (by omega)) (w_ret (Q_err ok hc hr (by decide) _))
