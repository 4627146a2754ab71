/-! 9c: density -/
theorem zL_num {f : Nat → Int64} {B : Nat} : ∀ {M : Nat}, (∀ t, t < M → ∃ c, c ≤ B ∧ f t = lN c) → ∃ c, c ≤ M * B ∧ zL f M = lN c
  | 0, _ => ⟨0, Nat.zero_le _, rfl⟩
  | M + 1, h => by
    obtain ⟨c, h1, h2⟩ := zL_num (f := f) (B := B) (M := M) (fun t ht => h t (by omega))
    obtain ⟨d, h3, h4⟩ := h M (by omega)
    refine ⟨c + d, by rw [Nat.succ_mul]; omega, ?_⟩
    show zL f M + f M = _
    rw [h2, h4, lN_add]
theorem gL_num {C : (Nat → Nat) → Nat → Bool} {M : Nat} {W : (Nat → Nat) → Int64} (hW : ∀ a, W a = 1) : ∀ (r : Nat) (a : Nat → Nat) (k : Nat), ∃ c, c ≤ M ^ r ∧ gL C M W r a k = lN c
  | 0, a, _ => ⟨1, Nat.le_refl _, hW a⟩
  | r + 1, a, k => by
    rw [Nat.pow_succ, Nat.mul_comm]
    refine zL_num (fun t _ => ?_)
    by_cases h : C (ly a k t) k = true
    · rw [if_pos h]; exact gL_num hW r _ _
    · rw [if_neg h]; exact ⟨0, Nat.zero_le _, rfl⟩
theorem kT_num (X Y : HG) : ∃ c, c ≤ Y.1 ^ X.1 ∧ kT 0 X Y = lN c := by
  refine gL_num (fun a => ?_) _ _ _
  unfold cW
  rw [if_pos (by unfold cB; rw [if_pos (Or.inl rfl)]), if_neg (by decide)]
theorem lN_div {a b : Nat} (ha : a < 2 ^ 62) (hb : b < 2 ^ 62) : lN a / lN b = lN (a / b) := by
  have hq : a / b ≤ a := Nat.div_le_self _ _
  refine Int64.toInt_inj.mp ?_
  rw [Int64.toInt_div, show (lN a).toInt = a from lg_ofNat_toInt (by omega), show (lN b).toInt = b from lg_ofNat_toInt (by omega), show (lN (a / b)).toInt = (a / b : Nat) from lg_ofNat_toInt (by omega), ← Int.ofNat_tdiv]
  generalize a / b = q at hq ⊢
  exact Int.bmod_eq_of_le (by omega) (by omega)
theorem lN_rem {a b : Nat} (ha : a < 2 ^ 62) (hb : b < 2 ^ 62) : h_lrem (lN a) (lN b) = lN (a % b) := by
  unfold h_lrem
  rw [lN_div ha hb, lN_mul]
  have e : lN a = lN (a % b) + lN (a / b * b) := by
    rw [lN_add]
    congr 1
    rw [Nat.mul_comm]
    exact (Nat.mod_add_div a b).symm
  rw [e, Int64.add_sub_cancel]
theorem lN_z {b : Nat} (hb : b < 2 ^ 62) : lN b = 0 ↔ b = 0 := by
  constructor
  · intro h
    have : (lN b).toInt = b := lg_ofNat_toInt (by omega)
    rw [h] at this
    have h0 : (0 : Int64).toInt = 0 := by decide
    omega
  · rintro rfl
    rfl
/-- so many steps of the class -/
def ge (a b : Nat) : Nat → Nat
  | 0 => a
  | k + 1 => if b = 0 then a else ge b (a % b) k
theorem ge_0 (a : Nat) : ∀ k, ge a 0 k = a
  | 0 => rfl
  | _ + 1 => if_pos rfl
theorem ge_gcd : ∀ (k s a b : Nat), b < 2 ^ k → 2 * k + 1 ≤ s → ge a b s = Nat.gcd a b
  | 0, s, a, b, hb, hs => by
    have : b = 0 := by omega
    rw [this, ge_0, Nat.gcd_zero_right]
  | k + 1, 0, a, b, hb, hs => absurd hs (by omega)
  | k + 1, 1, a, b, hb, hs => absurd hs (by omega)
  | k + 1, s + 2, a, b, hb, hs => by
    by_cases h0 : b = 0
    · rw [h0, ge_0, Nat.gcd_zero_right]
    · have e1 : ge a b (s + 2) = ge b (a % b) (s + 1) := if_neg h0
      have e2 : Nat.gcd a b = Nat.gcd b (a % b) := by rw [Nat.gcd_comm a b, Nat.gcd_rec b a, Nat.gcd_comm]
      rw [e1, e2]
      by_cases h1 : a % b = 0
      · rw [h1, ge_0, Nat.gcd_zero_right]
      · have e3 : ge b (a % b) (s + 1) = ge (a % b) (b % (a % b)) s := if_neg h1
        have e4 : Nat.gcd b (a % b) = Nat.gcd (a % b) (b % (a % b)) := by rw [Nat.gcd_comm b (a % b), Nat.gcd_rec (a % b) b, Nat.gcd_comm]
        rw [e3, e4]
        refine ge_gcd k s _ _ ?_ (by omega)
        have h2 : a % b < b := Nat.mod_lt _ (by omega)
        have h3 : b % (a % b) < a % b := Nat.mod_lt _ (by omega)
        have h4 : a % b ≤ b := by omega
        have h5 : b % (a % b) + (a % b) ≤ b := by
          have := Nat.mod_add_div b (a % b)
          have h6 : 1 ≤ b / (a % b) := Nat.div_pos h4 (by omega)
          have h7 : (a % b) * 1 ≤ (a % b) * (b / (a % b)) := Nat.mul_le_mul_left _ h6
          omega
        rw [Nat.pow_succ] at hb
        omega
theorem s_gcd {a b : Nat} (ha : a < 2 ^ 62) (hb : b < 2 ^ 19) (μ : HMem) {Q : Int64 → HMem → Prop} (hQ : Q (lN (Nat.gcd a b)) μ) : wp (f_Bench_greatestDivisor (lN a) (lN b) μ) Q := by
  unfold f_Bench_greatestDivisor
  have e0 : ∀ z, z = nI 0 → wp (f_Bench_greatestDivisor_L9 f_Bench_greatestDivisor_J45 h_fuel (lN a) (lN b) z μ) Q := ?_
  · exact e0 0 rfl
  rintro z rfl
  refine w_for (fun f i (s : Nat × Nat) => wp (f_Bench_greatestDivisor_L9 f_Bench_greatestDivisor_J45 f (lN s.1) (lN s.2) (nI i) μ) Q) (fun i s => s.1 < 2 ^ 62 ∧ s.2 < 2 ^ 62 ∧ ge s.1 s.2 (128 - i) = Nat.gcd a b) 128 ?_ ?_ 0 (a, b) (Nat.zero_le _) (by omega) ⟨ha, by show b < 2 ^ 62; omega, ge_gcd 19 128 a b hb (by omega)⟩
  · rintro f ⟨x, y⟩ ⟨h1, h2, h3⟩
    show wp (f_Bench_greatestDivisor_L9_b _ _ _ _ _ _) Q
    unfold f_Bench_greatestDivisor_L9_b f_Bench_greatestDivisor_J45
    refine w_t (by decide) (w_ret ?_)
    have h3 : x = Nat.gcd a b := h3
    show Q (lN x) μ
    rw [h3]
    exact hQ
  · rintro f i ⟨x, y⟩ hi ⟨h1, h2, h3⟩ ih
    replace h1 : x < 2 ^ 62 := h1
    replace h2 : y < 2 ^ 62 := h2
    replace h3 : ge x y (128 - i) = Nat.gcd a b := h3
    show wp (f_Bench_greatestDivisor_L9_b f_Bench_greatestDivisor_J45 (f_Bench_greatestDivisor_L9 f_Bench_greatestDivisor_J45 f) (lN x) (lN y) (nI i) μ) Q
    unfold f_Bench_greatestDivisor_L9_b f_Bench_greatestDivisor_J45
    refine w_f (nI_ge (b := 128) hi (by omega)) (w_if (fun h4 => ?_) (fun h4 => ?_))
    · rw [cmp_z, lN_z h2] at h4
      rw [h4, ge_0] at h3
      rw [h3]
      exact w_ret hQ
    · rw [cmp_z] at h4
      refine w_f h4 (w_let (w_let ?_))
      rw [nI_1, lN_rem h1 h2]
      rw [lN_z h2] at h4
      have hlt : x % y < y := Nat.mod_lt _ (by omega)
      refine ih (y, x % y) ⟨h2, by show x % y < 2 ^ 62; omega, ?_⟩
      show ge y (x % y) (128 - (i + 1)) = _
      rw [← h3, show 128 - i = (128 - (i + 1)) + 1 by omega]
      exact (if_neg h4).symm
/-- the answer of density -/
def dnV (part H L : Nat) : Int64 := if part = 0 then lN H / lN (Nat.gcd L H) else lN L / lN (Nat.gcd L H)
theorem LM_density (a b c : Int32) {μ : HMem} (h : SI μ) : FcL (f_Law_density a b c μ) (f_Model_density a b c) := by
  obtain ⟨σ, ok, hc, hr⟩ := h
  unfold FcL f_Law_density f_Bench_density
  rcases ix_g a (n := 4) (by omega) with ha | ⟨i, hi, rfl⟩
  · rw [e_graphAtX ha, bdx_r, bdt_r]
    refine w_ret ?_
    unfold f_Model_density f_Model_density_J14
    rw [e_isGX ha, bd_some]
    exact w_t (by decide) (w_ret (Q_err ok hc hr (by decide) _))
  · rw [e_graphAt hi, bdx_l]
    rcases ix_g b (n := 4) (by omega) with hb | ⟨j, hj, rfl⟩
    · rw [e_graphAtX hb, bdx_r, bdt_r]
      refine w_ret ?_
      unfold f_Model_density f_Model_density_J14
      rw [e_isG hi, bd_some]
      refine w_f (by decide) ?_
      rw [e_isGX hb, bd_some]
      exact w_f (by decide) (w_ret (Q_err ok hc hr (by decide) _))
    · rw [e_graphAt hj, bdx_l]
      have hX := ok.1 i hi
      have hY := ok.1 j hj
      have nX := hX.1
      have nY := hY.1
      by_cases hk : c < 0 ∨ 1 < c
      · rw [e_reqRX hk, bdx_r, bdt_r]
        refine w_ret ?_
        unfold f_Model_density
        rw [e_isG hi, bd_some]
        refine w_f (by decide) ?_
        rw [e_isG hj, bd_some]
        refine w_t (by decide) ?_
        rw [e_inX hk, bd_some]
        exact w_f (by decide) (w_ret (Q_err ok hc hr (by decide) _))
      · rw [e_reqR hk, bdx_l, e_reqS (hc.1 i hi) nX]
        by_cases h6 : (σ.1 i).1 ≤ 6
        · rw [if_pos h6, bdx_l, (hc.1 j hj).1]
          by_cases h0 : (σ.1 j).1 = 0
          · rw [h0, if_neg (fun h => h rfl), bdt_r]
            refine w_ret ?_
            unfold f_Model_density f_Model_density_J55
            rw [e_isG hi, bd_some]
            refine w_f (by decide) ?_
            rw [e_isG hj, bd_some]
            refine w_t (by decide) ?_
            rw [e_inT hk, bd_some]
            refine w_t (by decide) ?_
            refine w_bde (e_msize (by omega) (hr.1 i hi)) ?_
            refine w_f (nI_nlt (a := 6) (b := (σ.1 i).1) h6 (by omega)) ?_
            refine w_bde (e_msize (by omega) (hr.1 j hj)) ?_
            rw [h0]
            exact w_f (fun h => h rfl) (w_ret (Q_err ok hc hr (by decide) _))
          · have hz : ¬ nI (σ.1 j).1 = (0 : Int32) := fun h => h0 ((nI_eq (b := 0) (by omega) (by omega)).mp h)
            rw [if_pos hz]
            have hkk := hk
            obtain ⟨part, hpart, rfl⟩ := rg_n (n := 1) (by omega) hk
            obtain ⟨H, hH, eH⟩ := kT_num (σ.1 i) (σ.1 j)
            have hL6 : (σ.1 j).1 ^ (σ.1 i).1 ≤ 8 ^ 6 := Nat.le_trans (Nat.pow_le_pow_left nY _) (Nat.pow_le_pow_right (by omega) h6)
            have hLp : 0 < (σ.1 j).1 ^ (σ.1 i).1 := Nat.pow_pos (by omega)
            have hlow : ∀ v, v ≤ (σ.1 i).1 → (σ.1 j).1 ^ v ≤ 8 ^ 6 := fun v hv => Nat.le_trans (Nat.pow_le_pow_right (by omega) hv) hL6
            generalize hL : (σ.1 j).1 ^ (σ.1 i).1 = L at *
            have hG : 0 < Nat.gcd L H := Nat.gcd_pos_of_pos_left _ hLp
            have hG2 : Nat.gcd L H ≤ L := Nat.gcd_le_left _ hLp
            have hg0 : ¬ lN (Nat.gcd L H) = 0 := fun h => by
              have := (lN_z (by omega)).mp h
              omega
            refine LM_obsL ok (r := dnV part H L) ?_ (fun m2 c2 r2 => ?_)
            · refine w_bdk (s_mload (vl := false) (isg_g hi) (isg_g hj) (hc.1 i hi) (hc.1 j hj) nX nY (fun m1 h1 h2 f1 => ?_))
              refine w_bdk (s_overAll (isg_g hi) hX nY (gK_sym hY) ((hc.1 i hi).fr f1 (by omega)) h1 (fun m3 f3 => ?_))
              have f13 : Fr 97 103 μ m3 := f1.trans f3 (by omega) (by omega) (by omega) (by omega)
              have eT : SS (σ.1 j).1 (vaL (σ.1 i).1 (nr (σ.1 i)) (wK false (σ.1 j)) (gK false (σ.1 j))) (fun _ => true) (σ.1 i).1 (fun _ => 0) = lN H := by
                rw [← eH, kT_SS]
                exact SS_W (fun b _ _ => (Wf_all (Or.inl rfl)).symm)
              rw [eT]
              have c3 := hc.fr f13 (by omega)
              have r3 := hr.fr f13 (by omega)
              have e0 : ∀ z w, z = nI 0 → w = lN 1 → wp (f_Bench_density_L72 f_Bench_density_J99 h_fuel (nI part) (4 * i) (4 * j) (lN H) w z m3) (fun x μ1 => x = .inl (dnV part H L) ∧ CS σ μ1 ∧ RS σ μ1) := ?_
              · exact e0 0 1 rfl rfl
              rintro z w rfl rfl
              refine w_for (fun f v (y : Nat) => wp (f_Bench_density_L72 f_Bench_density_J99 f (nI part) (4 * i) (4 * j) (lN H) (lN y) (nI v) m3) (fun x μ1 => x = .inl (dnV part H L) ∧ CS σ μ1 ∧ RS σ μ1)) (fun v y => y = (σ.1 j).1 ^ v) (σ.1 i).1 ?_ ?_ 0 1 (Nat.zero_le _) (by omega) rfl
              · intro f y hy
                show wp (f_Bench_density_L72_b _ _ _ _ _ _ _ _ _) _
                unfold f_Bench_density_L72_b f_Bench_density_J99 f_Bench_density_J134
                rw [(c3.1 i hi).1]
                refine w_t (nI_le (Nat.le_refl _) (by omega)) ?_
                rw [hL] at hy
                rw [hy]
                refine w_bdk (s_gcd (by omega) (by omega) m3 ?_)
                refine w_t (fun h => hg0 ((cmp_z _).mp h)) ?_
                refine w_if (fun hp => ?_) (fun hp => ?_)
                · refine w_f hg0 (w_ret ⟨?_, c3, r3⟩)
                  unfold dnV
                  rw [if_neg (fun h => hp (by rw [h]; rfl))]
                · have hp := Classical.not_not.mp hp
                  refine w_f hg0 (w_ret ⟨?_, c3, r3⟩)
                  unfold dnV
                  rw [if_pos ((nI_eq (b := 0) (by omega) (by omega)).mp hp)]
              · intro f v y hv hy ih
                show wp (f_Bench_density_L72_b _ _ _ _ _ _ _ _ _) _
                unfold f_Bench_density_L72_b
                rw [(c3.1 i hi).1, (c3.1 j hj).1]
                refine w_f (nI_ge hv (by omega)) (w_let (w_let ?_))
                rw [nI_1, nI_l (by omega), lN_mul]
                exact ih _ (by rw [hy]; rfl)
            · unfold f_Model_density
              rw [e_isG hi, bd_some]
              refine w_f (by decide) ?_
              rw [e_isG hj, bd_some]
              refine w_t (by decide) ?_
              rw [e_inT hkk, bd_some]
              refine w_t (by decide) ?_
              refine w_bde (e_msize (by omega) (r2.1 i hi)) ?_
              refine w_f (nI_nlt (a := 6) (b := (σ.1 i).1) h6 (by omega)) ?_
              refine w_bde (e_msize (by omega) (r2.1 j hj)) ?_
              refine w_t hz (w_let ?_)
              have c3 := c2.w5 0
              have r3 := r2.w5 0
              have o3 : (h_wi m2 125 5 0).2 143 0 = m2.2 143 0 := rfl
              have t3 : (h_wi m2 125 5 0).1 125 5 = 0 := wi_s _ _ _ _
              generalize h_wi m2 125 5 0 = m3 at c3 r3 o3 t3
              have e00 : ∀ z, z = nI 0 → wp (h_bd (f_Model_countOf (nI i) (nI j) z m3) (fun r71 μ_71 => f_Model_density_L82 f_Model_density_J109 h_fuel (nI i) (nI j) (nI part) r71 1 0 μ_71)) (fun b μ3 => b = dnV part H L ∧ CS σ μ3 ∧ RS σ μ3 ∧ μ3.1 125 5 = 0 ∧ μ3.2 143 0 = m2.2 143 0) := ?_
              · exact e00 0 rfl
              rintro z rfl
              refine w_bdk (s_countOf (by omega) (by omega) nX nY (r3.1 i hi) (r3.1 j hj) (κ := 0) (by omega) (fun m4 f4 => ?_))
              have g4 := Fs.fr f4 (by omega) (by omega)
              have c4 := c3.fs g4
              have r4 := r3.fs g4
              have t4 : m4.1 125 5 = 0 := by rw [f4.i (by omega)]; exact t3
              have o4 : m4.2 143 0 = m2.2 143 0 := by rw [g4.out]; exact o3
              rw [show gL (fC (σ.1 i) (σ.1 j)) (σ.1 j).1 (cW 0 (σ.1 i) (σ.1 j)) (σ.1 i).1 (fun _ => 0) 0 = lN H from eH]
              have e0 : ∀ z w, z = nI 0 → w = lN 1 → wp (f_Model_density_L82 f_Model_density_J109 h_fuel (nI i) (nI j) (nI part) (lN H) w z m4) (fun b μ3 => b = dnV part H L ∧ CS σ μ3 ∧ RS σ μ3 ∧ μ3.1 125 5 = 0 ∧ μ3.2 143 0 = m2.2 143 0) := ?_
              · exact e0 0 1 rfl rfl
              rintro z w rfl rfl
              refine w_for (fun f v (y : Nat) => wp (f_Model_density_L82 f_Model_density_J109 f (nI i) (nI j) (nI part) (lN H) (lN y) (nI v) m4) (fun b μ3 => b = dnV part H L ∧ CS σ μ3 ∧ RS σ μ3 ∧ μ3.1 125 5 = 0 ∧ μ3.2 143 0 = m2.2 143 0)) (fun v y => y = (σ.1 j).1 ^ v) (σ.1 i).1 ?_ ?_ 0 1 (Nat.zero_le _) (by omega) rfl
              · intro f y hy
                show wp (f_Model_density_L82_b _ _ _ _ _ _ _ _ _) _
                unfold f_Model_density_L82_b f_Model_density_J109
                refine w_bde (e_msize (by omega) (r4.1 i hi)) ?_
                refine w_t (nI_le (Nat.le_refl _) (by omega)) ?_
                rw [hL] at hy
                rw [hy]
                refine w_loopF (fun f (s : Nat × Nat) => wp (f_Model_density_L117 f_Model_density_J142 f (nI part) (lN H) (lN L) (lN s.1) (lN s.2) m4) (fun b μ3 => b = dnV part H L ∧ CS σ μ3 ∧ RS σ μ3 ∧ μ3.1 125 5 = 0 ∧ μ3.2 143 0 = m2.2 143 0)) (fun s => s.1 < 2 ^ 62 ∧ s.2 < 2 ^ 62 ∧ Nat.gcd s.1 s.2 = Nat.gcd L H) (fun s => s.2) ?_ (H, L) ⟨by show H < 2 ^ 62; omega, by show L < 2 ^ 62; omega, Nat.gcd_comm H L⟩ (by show L < 1000000000000; omega)
                rintro f ⟨x, y⟩ ⟨k1, k2, k3⟩ ih
                replace k1 : x < 2 ^ 62 := k1
                replace k2 : y < 2 ^ 62 := k2
                replace k3 : Nat.gcd x y = Nat.gcd L H := k3
                show wp (f_Model_density_L117_b f_Model_density_J142 (f_Model_density_L117 f_Model_density_J142 f) (nI part) (lN H) (lN L) (lN x) (lN y) m4) _
                unfold f_Model_density_L117_b f_Model_density_J142 f_Model_density_J159
                refine w_if (fun h4 => ?_) (fun h4 => ?_)
                · rw [cmp_z, lN_z k2] at h4
                  rw [h4, Nat.gcd_zero_right] at k3
                  rw [k3]
                  refine w_if (fun hp => ?_) (fun hp => ?_)
                  · refine w_f hg0 (w_ret ⟨?_, c4, r4, t4, o4⟩)
                    unfold dnV
                    rw [if_neg (fun h => hp (by rw [h]; rfl))]
                  · have hp := Classical.not_not.mp hp
                    refine w_f hg0 (w_ret ⟨?_, c4, r4, t4, o4⟩)
                    unfold dnV
                    rw [if_pos ((nI_eq (b := 0) (by omega) (by omega)).mp hp)]
                · rw [cmp_z] at h4
                  refine w_f h4 (w_let ?_)
                  rw [lN_rem k1 k2]
                  rw [lN_z k2] at h4
                  have hlt : x % y < y := Nat.mod_lt _ (by omega)
                  refine ih (y, x % y) ⟨k2, by show x % y < 2 ^ 62; omega, ?_⟩ hlt
                  show Nat.gcd y (x % y) = _
                  rw [← k3, Nat.gcd_comm x y, Nat.gcd_rec y x, Nat.gcd_comm]
              · intro f v y hv hy ih
                show wp (f_Model_density_L82_b _ _ _ _ _ _ _ _ _) _
                unfold f_Model_density_L82_b
                refine w_bde (e_msize (by omega) (r4.1 i hi)) ?_
                refine w_f (nI_ge hv (by omega)) ?_
                refine w_bde (e_msize (by omega) (r4.1 j hj)) ?_
                refine w_let (w_let ?_)
                rw [nI_1, nI_l (by omega), lN_mul]
                exact ih _ (by rw [hy]; rfl)
        · rw [if_neg h6, bdx_r, bdt_r]
          refine w_ret ?_
          unfold f_Model_density f_Model_density_J55
          rw [e_isG hi, bd_some]
          refine w_f (by decide) ?_
          rw [e_isG hj, bd_some]
          refine w_t (by decide) ?_
          rw [e_inT hk, bd_some]
          refine w_t (by decide) ?_
          refine w_bde (e_msize (by omega) (hr.1 i hi)) ?_
          exact w_t (nI_lt (a := 6) (by omega) (by omega)) (w_ret (Q_err ok hc hr (by decide) _))
