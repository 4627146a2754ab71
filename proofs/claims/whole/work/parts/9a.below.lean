/-! 9a: count, the class: sums below a vertex, all kinds -/
theorem s_below {X : HG} {M : Nat} {w : Nat → Int64} {g : Nat → Nat → Int64} (hX : GV X) (hM : M ≤ 8) (hgs : ∀ s t, g s t = g t s) : ∀ (rd D depth r : Nat) (C A : Nat → Bool) (a : Nat → Nat) (μ : HMem), D < rd → D + depth ≤ 8 → ML X.1 M w g μ → r < X.1 → C r = true → (∀ v, C v = true → v < X.1) → (∀ v, (C v && A v) = false) → (∀ u, bt (μ.1 100 r) u = (nr X r u && aO A r u)) → TR X (μ.1 100) (μ.1 101) D (bt (μ.1 101 r)) (ko C r) (aO A r) → (∀ u, u < X.1 → A u = true → μ.1 102 u = nI (a u) ∧ a u < M) → ∀ Q : Int64 → HMem → Prop, (∀ μ', Fr 102 103 μ μ' → (∀ u, C u = false → μ'.1 102 u = μ.1 102 u) → Q (TT X.1 M (nr X) w g C A a) μ') → wp (f_MapSums_sumBelow rd (nI r) (nI depth) μ) Q
  | 0, D, _, _, _, _, _, _, hD, _, _, _, _, _, _, _, _, _, _, _ => absurd hD (by omega)
  | rd + 1, D, depth, r, C, A, a, μ, hD, hdp, hml, hr, hCr, hCn, hA, he, hT, hi, Q, hQ => by
    have hn := hX.1
    show wp (f_MapSums_sumBelow_0 (f_MapSums_sumBelow rd) (nI r) (nI depth) μ) Q
    unfold f_MapSums_sumBelow_0
    refine w_t (nI_le (b := 8) (by omega) (by omega)) ?_
    have e0 : ∀ z, z = nI 0 → wp (f_MapSums_sumBelow_L13 (f_MapSums_sumBelow rd) h_fuel (nI r) (nI depth) 0 z μ) Q := ?_
    · exact e0 0 rfl
    rintro z rfl
    have hAr : A r = false := by have := hA r; rw [hCr] at this; simpa using this
    have hCA : ∀ u, A u = true → C u = false := fun u hu => bff (fun h => and_f.mp (hA u) h hu)
    refine w_for (fun f t (s : Int64 × HMem) => wp (f_MapSums_sumBelow_L13 (f_MapSums_sumBelow rd) f (nI r) (nI depth) s.1 (nI t) s.2) Q) (fun t s => s.1 = zL (fun t => fR X.1 (nr X) w g A r (ly a r t) * TT X.1 M (nr X) w g (ko C r) (aO A r) (ly a r t)) t ∧ Fr 102 103 μ s.2 ∧ ∀ u, C u = false → s.2.1 102 u = μ.1 102 u) M ?_ ?_ 0 (0, μ) (Nat.zero_le _) (by omega) ⟨rfl, Fr.refl _ _ _, fun _ _ => rfl⟩
    · intro f s ⟨g1, g2, g3⟩
      show wp (f_MapSums_sumBelow_L13_b _ _ _ _ _ _ _) Q
      unfold f_MapSums_sumBelow_L13_b
      rw [(hml.fr g2 (by omega)).2.1]
      refine w_t (nI_le (Nat.le_refl _) (by omega)) (w_ret ?_)
      have := hQ s.2 g2 g3
      rw [TT_root (nr_sym hX) hgs hCr hr hA] at this
      rw [g1]
      exact this
    · rintro f t ⟨x, m⟩ ht ⟨g1, g2, g3⟩ ih
      replace g1 : x = zL (fun t => fR X.1 (nr X) w g A r (ly a r t) * TT X.1 M (nr X) w g (ko C r) (aO A r) (ly a r t)) t := g1
      replace g2 : Fr 102 103 μ m := g2
      replace g3 : ∀ u, C u = false → m.1 102 u = μ.1 102 u := g3
      have hml1 := hml.fr g2 (by omega)
      show wp (f_MapSums_sumBelow_L13_b (f_MapSums_sumBelow rd) (f_MapSums_sumBelow_L13 (f_MapSums_sumBelow rd) f) (nI r) (nI depth) x (nI t) m) Q
      unfold f_MapSums_sumBelow_L13_b
      rw [hml1.2.1]
      refine w_f (nI_ge ht (by omega)) ?_
      refine w_bdk (s_factor (a := a) (e := fun u => nr X r u && aO A r u) hn hM hml1 hr ht (fun u _ => by rw [g2.i (by omega)]; exact he u) (fun u hu h1 h2 => ?_) ?_)
      · have h3 : A u = true := by
          rw [Bool.and_eq_true] at h1
          have := h1.2
          unfold aO at this
          rw [decide_eq_false h2, Bool.or_false] at this
          exact this
        rw [g3 u (hCA u h3)]
        exact hi u hu h3
      · have eF : w t * pL (fun u => if (nr X r u && aO A r u) = true then g t (ly a r t u) else 1) X.1 = fR X.1 (nr X) w g A r (ly a r t) := by
          unfold fR
          rw [ly_eq]
        rw [eF]
        have f2 : Fr 102 103 m (h_wi m 102 r (nI t)) := Fr.wi (by omega) (by omega)
        have i2 : (h_wi m 102 r (nI t)).1 102 r = nI t := wi_s _ _ _ _
        have n2 : ∀ u, ¬ u = r → (h_wi m 102 r (nI t)).1 102 u = m.1 102 u := fun u hu => wi_n _ _ (Or.inr hu)
        generalize h_wi m 102 r (nI t) = m2 at f2 i2 n2
        have f02 : Fr 102 103 μ m2 := g2.trans f2 (by omega) (by omega) (by omega) (by omega)
        generalize hF : fR X.1 (nr X) w g A r (ly a r t) = F at *
        obtain ⟨C', u1, u2, u3, u4, u5⟩ := TR_un hT
        have hprod := TR_prod (M := M) (w := w) (g := g) (a := ly a r t) hX (fun v hv => hCn v (ko_t.mp hv).1) u1 (fun q hq => by obtain ⟨_, _, k1, _, k2, _⟩ := u2 q hq; exact ⟨k1, k2⟩) u3 u4 u5
        have e1 : ∀ z, z = nI 0 → wp (f_MapSums_sumBelow_L34 (f_MapSums_sumBelow rd) (f_MapSums_sumBelow_J84 (f_MapSums_sumBelow rd) (f_MapSums_sumBelow_L13 (f_MapSums_sumBelow rd) f)) h_fuel (nI r) (nI depth) x (nI t) F z m2) Q := ?_
        · exact e1 0 rfl
        rintro z rfl
        -- behind the children
        have fin : ∀ (y : Int64) (m3 : HMem), y = F * TT X.1 M (nr X) w g (ko C r) (aO A r) (ly a r t) → Fr 102 103 m2 m3 → (∀ u, ko C r u = false → m3.1 102 u = m2.1 102 u) → wp (f_MapSums_sumBelow_J84 (f_MapSums_sumBelow rd) (f_MapSums_sumBelow_L13 (f_MapSums_sumBelow rd) f) (nI r) (nI depth) x (nI t) y m3) Q := by
          intro y m3 hy f3 i3
          unfold f_MapSums_sumBelow_J84
          refine w_let (w_let ?_)
          rw [nI_1]
          refine ih (x + y, m3) ⟨?_, f02.trans f3 (by omega) (by omega) (by omega) (by omega), fun u hu => ?_⟩
          · show x + y = zL _ t + fR X.1 (nr X) w g A r (ly a r t) * _
            rw [hF, hy, g1]
          · have hur : ¬ u = r := fun e => by rw [e, hCr] at hu; cases hu
            show m3.1 102 u = μ.1 102 u
            rw [i3 u (bff (fun h => by rw [(ko_t.mp h).1] at hu; cases hu)), n2 u hur, g3 u hu]
        refine w_for (fun f2 v (s : Int64 × HMem) => wp (f_MapSums_sumBelow_L34 (f_MapSums_sumBelow rd) (f_MapSums_sumBelow_J84 (f_MapSums_sumBelow rd) (f_MapSums_sumBelow_L13 (f_MapSums_sumBelow rd) f)) f2 (nI r) (nI depth) x (nI t) s.1 (nI v) s.2) Q) (fun v s => s.1 = F * pL (fun v => if bt (μ.1 101 r) v = true then TT X.1 M (nr X) w g (C' v) (aO A r) (ly a r t) else 1) v ∧ Fr 102 103 m2 s.2 ∧ ∀ u, ko C r u = false → s.2.1 102 u = m2.1 102 u) X.1 ?_ ?_ 0 (F, m2) (Nat.zero_le _) (by omega) ⟨(Int64.mul_one _).symm, Fr.refl _ _ _, fun _ _ => rfl⟩
        · intro f2 s ⟨k1, k2, k3⟩
          show wp (f_MapSums_sumBelow_L34_b _ _ _ _ _ _ _ _ _ _) Q
          unfold f_MapSums_sumBelow_L34_b
          rw [(hml.fr (f02.trans k2 (by omega) (by omega) (by omega) (by omega) : Fr 102 103 μ s.2) (by omega)).1]
          refine w_t (nI_le (Nat.le_refl _) (by omega)) ?_
          exact fin s.1 s.2 (by rw [k1, hprod]) k2 k3
        · rintro f2 v ⟨y, m3⟩ hv ⟨k1, k2, k3⟩ ih2
          replace k1 : y = F * pL (fun v => if bt (μ.1 101 r) v = true then TT X.1 M (nr X) w g (C' v) (aO A r) (ly a r t) else 1) v := k1
          replace k2 : Fr 102 103 m2 m3 := k2
          replace k3 : ∀ u, ko C r u = false → m3.1 102 u = m2.1 102 u := k3
          have f03 : Fr 102 103 μ m3 := f02.trans k2 (by omega) (by omega) (by omega) (by omega)
          have hml3 := hml.fr f03 (by omega)
          show wp (f_MapSums_sumBelow_L34_b (f_MapSums_sumBelow rd) (f_MapSums_sumBelow_J84 (f_MapSums_sumBelow rd) (f_MapSums_sumBelow_L13 (f_MapSums_sumBelow rd) f)) (f_MapSums_sumBelow_L34 (f_MapSums_sumBelow rd) (f_MapSums_sumBelow_J84 (f_MapSums_sumBelow rd) (f_MapSums_sumBelow_L13 (f_MapSums_sumBelow rd) f)) f2) (nI r) (nI depth) x (nI t) y (nI v) m3) Q
          unfold f_MapSums_sumBelow_L34_b f_MapSums_sumBelow_J78
          rw [hml3.1]
          refine w_f (nI_ge hv (by omega)) (w_if (fun h0 => ?_) (fun h0 => ?_))
          · have h0 := (cmp_z y).mp h0
            refine fin y m3 ?_ k2 k3
            rw [← hprod, pL_up' (n := X.1) (by omega) (k1.symm.trans h0)]
            exact h0
          · refine w_chk (in_N (by rw [show h_len 101 = 8 from rfl]; omega) (by decide)) ?_
            rw [cl_8 (by omega), e_has _ (by omega), bd_some, f03.i (c := 101) (by omega)]
            have step : pL (fun v => if bt (μ.1 101 r) v = true then TT X.1 M (nr X) w g (C' v) (aO A r) (ly a r t) else 1) (v + 1) = pL (fun v => if bt (μ.1 101 r) v = true then TT X.1 M (nr X) w g (C' v) (aO A r) (ly a r t) else 1) v * (if bt (μ.1 101 r) v = true then TT X.1 M (nr X) w g (C' v) (aO A r) (ly a r t) else 1) := rfl
            refine w_if (fun h3 => ?_) (fun h3 => ?_)
            · rw [bI_0] at h3
              refine w_let ?_
              rw [nI_1]
              refine ih2 (y, m3) ⟨?_, k2, k3⟩
              show y = _
              rw [step, h3, if_neg (by decide), Int64.mul_one]
              exact k1
            · rw [bI_n] at h3
              obtain ⟨d, hd, v1, v2, v3, v4⟩ := u2 v h3
              rw [nI_1]
              refine w_bdk (s_below hX hM hgs rd d (depth + 1) v (C' v) (aO A r) (ly a r t) m3 (by omega) (by omega) hml3 hv v1 (fun q hq => hCn q (ko_t.mp (v3 q hq)).1) (fun q => ?_) (fun u => by rw [f03.i (by omega)]; exact v2 u) ?_ (fun u hu hau => ?_) _ (fun m4 f4 i4 => ?_))
              · rw [and_f]
                exact fun q1 q2 => and_f.mp (u1 q) (v3 q q1) q2
              · rw [f03.i (c := 100) (by omega), f03.i (c := 101) (by omega)]
                exact v4
              · have hko : ko C r u = false := bff (fun h => and_f.mp (u1 u) h hau)
                rw [k3 u hko]
                by_cases e : u = r
                · rw [e, ly_eq]; exact ⟨i2, ht⟩
                · have h4 : A u = true := by
                    unfold aO at hau
                    rw [decide_eq_false e, Bool.or_false] at hau
                    exact hau
                  rw [ly_ne e, n2 u e, g3 u (hCA u h4)]
                  exact hi u hu h4
              · refine w_let (w_let ?_)
                rw [nI_1]
                refine ih2 (_, m4) ⟨?_, k2.trans f4 (by omega) (by omega) (by omega) (by omega), fun u hu => ?_⟩
                · show y * _ = _
                  rw [step, h3, if_pos rfl, k1, Int64.mul_assoc]
                · show m4.1 102 u = _
                  rw [i4 u (bff (fun h => by rw [v3 u h] at hu; cases hu))]
                  exact k3 u hu
theorem s_overAll {gr : Nat} {X : HG} {M : Nat} {w : Nat → Int64} {g : Nat → Nat → Int64} {μ : HMem} (hg : IsG gr) (hX : GV X) (hM : M ≤ 8) (hgs : ∀ s t, g s t = g t s) (hc : CG μ gr X) (hml : ML X.1 M w g μ) {Q : Int64 → HMem → Prop} (hQ : ∀ μ', Fr 100 103 μ μ' → Q (SS M (vaL X.1 (nr X) w g) (fun _ => true) X.1 (fun _ => 0)) μ') : wp (f_MapSums_overAllMaps gr μ) Q := by
  have hn := hX.1
  have gr84 := hg.2
  have hA : ∀ v, (bt (fullS X.1) v && (fun _ => false) v) = false := fun v => Bool.and_false _
  unfold f_MapSums_overAllMaps
  refine w_bde (e_all hc hn) ?_
  have e0 : ∀ z, z = nI 0 → wp (h_bd (f_MapSums_split h_deep gr (fullS X.1) 0 z μ) (fun r8 μ_8 => f_MapSums_overAllMaps_L17 f_MapSums_overAllMaps_J57 h_fuel r8 1 0 μ_8)) Q := ?_
  · exact e0 0 rfl
  rintro z rfl
  have hfull : ∀ v, bt (fullS X.1) v = true → v < X.1 := fun v hv => by rw [b_full hn] at hv; exact of_decide_eq_true hv
  refine w_bdk (s_split hg hX h_deep X.1 0 (fullS X.1) 0 μ (by unfold h_deep; omega) (by omega) (by rw [cn_full8 hn]; exact Nat.le_refl _) hfull (fun v => by rw [b_0, Bool.and_false]) hc _ (fun R m1 t1 t2 f1 => ?_))
  have hml1 := hml.fr f1 (by omega)
  obtain ⟨C, u1, u2, u3, u4, u5⟩ := TR_un t1
  have eb0 : bt 0 = fun _ => false := funext b_0
  rw [eb0] at u1 u2
  have hprod := TR_prod (M := M) (w := w) (g := g) (a := fun _ => 0) hX hfull u1 (fun q hq => by obtain ⟨_, _, k1, _, k2, _⟩ := u2 q hq; exact ⟨k1, k2⟩) u3 u4 u5
  have htot : TT X.1 M (nr X) w g (bt (fullS X.1)) (fun _ => false) (fun _ => 0) = SS M (vaL X.1 (nr X) w g) (fun _ => true) X.1 (fun _ => 0) := by
    unfold TT
    rw [SS_S (S' := fun _ => true) (fun v hv => by rw [b_full hn]; exact decide_eq_true hv)]
    exact SS_W (fun b _ _ => Wt_al (fun v hv => by rw [b_full hn]; exact decide_eq_true hv))
  have e1 : ∀ z, z = nI 0 → wp (f_MapSums_overAllMaps_L17 f_MapSums_overAllMaps_J57 h_fuel R 1 z m1) Q := ?_
  · exact e1 0 rfl
  rintro z rfl
  refine w_for (fun f v (s : Int64 × HMem) => wp (f_MapSums_overAllMaps_L17 f_MapSums_overAllMaps_J57 f R s.1 (nI v) s.2) Q) (fun v s => s.1 = 1 * pL (fun v => if bt R v = true then TT X.1 M (nr X) w g (C v) (fun _ => false) (fun _ => 0) else 1) v ∧ Fr 102 103 m1 s.2) X.1 ?_ ?_ 0 (1, m1) (Nat.zero_le _) (by omega) ⟨rfl, Fr.refl _ _ _⟩
  · intro f s ⟨k1, k2⟩
    show wp (f_MapSums_overAllMaps_L17_b _ _ _ _ _ _) Q
    unfold f_MapSums_overAllMaps_L17_b f_MapSums_overAllMaps_J57
    rw [(hml1.fr k2 (by omega)).1]
    refine w_t (nI_le (Nat.le_refl _) (by omega)) (w_ret ?_)
    rw [k1, Int64.one_mul, hprod, htot]
    exact hQ s.2 (f1.trans k2 (by omega) (by omega) (by omega) (by omega))
  · rintro f v ⟨y, m⟩ hv ⟨k1, k2⟩ ih
    replace k1 : y = 1 * pL (fun v => if bt R v = true then TT X.1 M (nr X) w g (C v) (fun _ => false) (fun _ => 0) else 1) v := k1
    replace k2 : Fr 102 103 m1 m := k2
    have hml2 := hml1.fr k2 (by omega)
    show wp (f_MapSums_overAllMaps_L17_b f_MapSums_overAllMaps_J57 (f_MapSums_overAllMaps_L17 f_MapSums_overAllMaps_J57 f) R y (nI v) m) Q
    unfold f_MapSums_overAllMaps_L17_b f_MapSums_overAllMaps_J57 f_MapSums_overAllMaps_J51
    rw [hml2.1]
    refine w_f (nI_ge hv (by omega)) (w_if (fun h0 => ?_) (fun h0 => ?_))
    · have h0 := (cmp_z y).mp h0
      refine w_ret ?_
      have := pL_up' (n := X.1) (by omega) (k1.symm.trans h0)
      rw [Int64.one_mul, hprod, htot] at this
      rw [h0, ← this]
      exact hQ m (f1.trans k2 (by omega) (by omega) (by omega) (by omega))
    · rw [e_has _ (by omega), bd_some]
      have step : pL (fun v => if bt R v = true then TT X.1 M (nr X) w g (C v) (fun _ => false) (fun _ => 0) else 1) (v + 1) = pL (fun v => if bt R v = true then TT X.1 M (nr X) w g (C v) (fun _ => false) (fun _ => 0) else 1) v * (if bt R v = true then TT X.1 M (nr X) w g (C v) (fun _ => false) (fun _ => 0) else 1) := rfl
      refine w_if (fun h3 => ?_) (fun h3 => ?_)
      · rw [bI_0] at h3
        refine w_let ?_
        rw [nI_1]
        refine ih (y, m) ⟨?_, k2⟩
        show y = _
        rw [step, h3, if_neg (by decide), Int64.mul_one]
        exact k1
      · rw [bI_n] at h3
        obtain ⟨d, hd, v1, v2, v3, v4⟩ := u2 v h3
        have e2 : ∀ z, z = nI 0 → wp (h_bd (f_MapSums_sumBelow h_deep (nI v) z m) (fun r46 μ_46 => h_let (y * r46) (fun v3_50 => h_let (nI v + 1) (fun v5_51 => f_MapSums_overAllMaps_L17 (fun v3 μ => some (v3, μ)) f R v3_50 v5_51 μ_46)))) Q := ?_
        · exact e2 0 rfl
        rintro z rfl
        refine w_bdk (s_below hX hM hgs h_deep d 0 v (C v) (fun _ => false) (fun _ => 0) m (by unfold h_deep; omega) (by omega) hml2 hv v1 (fun q hq => hfull q (v3 q hq)) (fun q => Bool.and_false _) (fun u => by rw [k2.i (by omega)]; exact v2 u) ?_ (fun u hu hau => (by cases hau)) _ (fun m4 f4 i4 => ?_))
        · rw [k2.i (c := 100) (by omega), k2.i (c := 101) (by omega)]
          exact v4
        · refine w_let (w_let ?_)
          rw [nI_1]
          refine ih (_, m4) ⟨?_, k2.trans f4 (by omega) (by omega) (by omega) (by omega)⟩
          show y * _ = _
          rw [step, h3, if_pos rfl, k1, Int64.mul_assoc]
