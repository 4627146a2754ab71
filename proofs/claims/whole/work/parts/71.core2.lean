/-! 71: isCore, coreSize, derive -/
def FcB (cls : Option (Int32 × HMem)) (ref : HMem → Option (Int32 × HMem)) : Prop := wp cls (fun k μ1 => wp (ref μ1) (fun b μ2 => FcQ k (fun _ => if b = 0 then 0 else 1) μ2))
theorem e_out0 (x : Int64) (s : Int32) (hs : s = 0) (μ : HMem) : h_chk s (h_len 143) (h_let (h_wl μ 143 (Int32.toNatClampNeg (s)) x) (fun m => some ((0 : Int32), m))) = some (0, h_wl μ 143 0 x) := by
  subst hs
  exact e_out x μ
theorem LM_obsB {σ : HS} (ok : OKs σ) {r : Bool} {cls : Option ((Int32 ⊕ Nat) × HMem)} {ref : HMem → Option (Int32 × HMem)} {hd : Nat → Option Int32} {K : Int32 → HMem → Option (Int32 × HMem)} (hK : ∀ m, K (bI r) m = some (0, h_wl m 143 0 (if r then 1 else 0))) (hcls : wp cls (fun x μ1 => x = .inl (bI r) ∧ CS σ μ1 ∧ RS σ μ1)) (href : ∀ μ2, CS σ μ2 → RS σ μ2 → wp (ref μ2) (fun b μ3 => b = bI r ∧ CS σ μ3 ∧ RS σ μ3 ∧ μ3.1 125 5 = 0 ∧ μ3.2 143 0 = μ2.2 143 0)) : wp (h_bdt cls hd K) (fun k μ1 => wp (ref μ1) (fun b μ2 => FcQ k (fun _ => if b = 0 then 0 else 1) μ2)) := by
  obtain ⟨x, μ1, e, rfl, h1, h2⟩ := hcls
  rw [e, bdt_l, hK]
  refine w_ret ?_
  obtain ⟨b, μ3, e3, rfl, h3, h4, h5, h6⟩ := href (h_wl μ1 143 0 (if r then 1 else 0)) h1 h2
  refine ⟨_, _, e3, ⟨⟨σ, ok, h3, h4⟩, h5, fun _ => ?_⟩⟩
  rw [h6, wl_s]
  cases r <;> rfl
theorem LM_isCore (a : Int32) {μ : HMem} (h : SI μ) : FcB (f_Law_isCore a μ) (f_Model_isCore a) := by
  obtain ⟨σ, ok, hc, hr⟩ := h
  unfold FcB f_Law_isCore f_Bench_isCore
  rcases ix_g a (n := 4) (by omega) with ha | ⟨i, hi, rfl⟩
  · rw [e_graphAtX ha, bdx_r, bdt_r]
    refine w_ret ?_
    unfold f_Model_isCore
    rw [e_isGX ha, bd_some]
    refine w_t (by decide) ?_
    unfold f_Model_isCore_J13 f_Model_isCore_J36 f_Model_isCore_J37
    refine w_let ?_
    rw [wi_s]
    refine w_t (by decide) ?_
    rw [e_J0]
    exact w_ret (Q_err ok hc hr (by decide) _)
  · rw [e_graphAt hi, bdx_l]
    have hV := ok.1 i hi
    have hn := hV.1
    have hci := hc.1 i hi
    have key : coK (σ.1 i) (σ.1 i).1 = al (σ.1 i).1 ↔ ∀ v, v < (σ.1 i).1 → ¬ spP (σ.1 i) (al (σ.1 i).1) v := by
      constructor
      · intro e v hv hs
        have := coK_no (X := σ.1 i) v hv (by rw [e]; exact decide_eq_true hv)
        rw [e] at this
        exact this hs
      · intro hall
        have := coK_same (X := σ.1 i) (t := 0) (σ.1 i).1 (fun w _ h2 _ => hall w (by omega))
        rw [Nat.zero_add] at this
        exact this
    refine LM_obsB ok (r := @decide (∀ v, v < (σ.1 i).1 → ¬ spP (σ.1 i) (al (σ.1 i).1) v) (Classical.propDecidable _)) (fun m => ?_) ?_ (fun m2 c2 r2 => ?_)
    · unfold f_Law_isCore_J15
      cases @decide (∀ v, v < (σ.1 i).1 → ¬ spP (σ.1 i) (al (σ.1 i).1) v) (Classical.propDecidable _) with
      | false => exact e_out 0 m
      | true => exact e_out 1 m
    · refine w_bdk (s_ccore (isg_g hi) hci hV (fun r m1 hrr f1 => ?_))
      refine w_bde (e_all (hci.fr f1 (by omega)) hn) ?_
      unfold f_Bench_isCore_J26
      have c1 := hc.fr f1 (by omega)
      have r1 := hr.fr f1 (by omega)
      by_cases e : coK (σ.1 i) (σ.1 i).1 = al (σ.1 i).1
      · have e2 : r = fullS (σ.1 i).1 := b_ext (fun w _ => by rw [hrr w, e, b_full hn]; rfl)
        rw [@decide_eq_true _ (Classical.propDecidable _) (key.mp e)]
        refine w_f (fun h => h e2) ?_
        rw [if_pos (by decide)]
        exact w_ret ⟨rfl, c1, r1⟩
      · have e2 : ¬ r = fullS (σ.1 i).1 := fun h => e (funext (fun w => by rw [← hrr w, h, b_full hn]; rfl))
        rw [@decide_eq_false _ (Classical.propDecidable _) (fun h => e (key.mpr h))]
        refine w_t e2 ?_
        rw [if_pos (by decide)]
        exact w_ret ⟨rfl, c1, r1⟩
    · unfold f_Model_isCore
      rw [e_isG hi, bd_some]
      refine w_f (by decide) ?_
      unfold f_Model_isCore_J13 f_Model_isCore_J36 f_Model_isCore_J37
      refine w_let ?_
      rw [wi_s]
      refine w_f (by decide) ?_
      have rw5 : RG ((h_wi m2 125 5 0).1 126) (73 * i) (σ.1 i) := by rw [wi_o _ _ (by omega)]; exact r2.1 i hi
      have hS : CS σ (h_wi m2 125 5 0) ∧ RS σ (h_wi m2 125 5 0) := by
        refine ⟨c2.fr (Fr.wi (a := 125) (b := 126) (by omega) (by omega)) (by omega), fun i hi => by rw [wi_o _ _ (by omega)]; exact r2.1 i hi, ?_, ?_⟩
        · have h2 := r2.2.1
          unfold RH at h2 ⊢
          rw [wi_n _ _ (by omega), wi_o _ _ (by omega)]
          exact h2
        · have h2 := r2.2.2
          unfold RT at h2 ⊢
          rw [wi_n _ _ (by omega), wi_o _ _ (by omega)]
          exact h2
      refine w_bdk (s_lowestSpared (by omega) hV rw5 (fun m3 hno f3 => ?_) (fun v m3 hv hs _ f3 => ?_))
      · have g3 := Fs.fr f3 (by omega) (by omega)
        refine w_f (fun h => h rfl) ?_
        rw [if_pos (by decide)]
        rw [@decide_eq_true _ (Classical.propDecidable _) hno]
        exact w_ret ⟨rfl, hS.1.fs g3, hS.2.fs g3, by rw [f3.i (by omega), wi_s], by rw [g3.out]; rfl⟩
      · have g3 := Fs.fr f3 (by omega) (by omega)
        refine w_t (dnN (by omega)) ?_
        rw [if_pos (by decide)]
        rw [@decide_eq_false _ (Classical.propDecidable _) (fun h => h v hv hs)]
        exact w_ret ⟨rfl, hS.1.fs g3, hS.2.fs g3, by rw [f3.i (by omega), wi_s], by rw [g3.out]; rfl⟩
theorem LM_coreSize (a : Int32) {μ : HMem} (h : SI μ) : Fc (f_Law_coreSize a μ) (f_Model_coreSize a) := by
  obtain ⟨σ, ok, hc, hr⟩ := h
  unfold Fc f_Law_coreSize f_Bench_coreSize
  rcases ix_g a (n := 4) (by omega) with ha | ⟨i, hi, rfl⟩
  · rw [e_graphAtX ha, bdx_r, bdt_r]
    refine w_ret ?_
    unfold f_Model_coreSize f_Model_coreSize_J24
    rw [e_isGX ha, bd_some]
    exact w_t (by decide) (w_ret (Q_err ok hc hr (by decide) _))
  · rw [e_graphAt hi, bdx_l]
    have hV := ok.1 i hi
    have hn := hV.1
    have hci := hc.1 i hi
    refine LM_obs ok (r := nI (cn (coK (σ.1 i) (σ.1 i).1) (σ.1 i).1)) ?_ (fun m2 c2 r2 => ?_)
    · refine w_bdk (s_ccore (isg_g hi) hci hV (fun r m1 hrr f1 => ?_))
      have s8 : S8 r := fun w hw => by
        rw [hrr w]
        cases hb : coK (σ.1 i) (σ.1 i).1 w with
        | false => rfl
        | true => have := coK_lt hb; omega
      refine w_bde (f_bitCount s8 _) ?_
      have e1 : cn (bt r) 8 = cn (coK (σ.1 i) (σ.1 i).1) (σ.1 i).1 := by
        rw [cn_ext (q := coK (σ.1 i) (σ.1 i).1) (fun w _ => hrr w)]
        have := cn_add (p := coK (σ.1 i) (σ.1 i).1) (σ.1 i).1 (8 - (σ.1 i).1) (fun w h1 _ => by
          cases hb : coK (σ.1 i) (σ.1 i).1 w with
          | false => rfl
          | true => have := coK_lt hb; omega)
        rw [show (σ.1 i).1 + (8 - (σ.1 i).1) = 8 by omega] at this
        exact this
      rw [e1]
      exact w_ret ⟨rfl, hc.fr f1 (by omega), hr.fr f1 (by omega)⟩
    · unfold f_Model_coreSize
      rw [e_isG hi, bd_some]
      refine w_f (by decide) ?_
      unfold f_Model_coreOf f_Model_coreSize_J24
      refine w_bdk ?_
      refine w_bdk (s_copies (k' := 4) (by omega) (by omega) (by omega) (fun m5 e1 e2 => ?_))
      have h1 : RG (m5.1 126) 292 (σ.1 i) := (r2.1 i hi).shift hn (fun j hj => e1 j hj)
      refine w_bdk (s_shrinks hV h1 (fun m6 g1 g2 => ?_))
      have q := (Fq.fw e2 (by omega)).trans g2
      refine w_ret ?_
      refine w_bde (e_tells _ _) ?_
      exact w_ret (ob_tell (c2.fq q) (r2.fq ok q) (by rw [q.1.l (by omega)]) _)
theorem LM_derive (a x k y : Int32) {μ : HMem} (h : SI μ) : Fc (f_Law_derive a x k y μ) (f_Model_derive a x k y) := by
  obtain ⟨σ, ok, hc, hr⟩ := h
  unfold Fc f_Law_derive f_Bench_derive
  rcases ix_g a (n := 4) (by omega) with ha | ⟨i, hi, rfl⟩
  · rw [e_graphAtX ha, bdx_r, bdt_r]
    refine w_ret ?_
    unfold f_Model_derive f_Model_derive_J14
    rw [e_isGX ha, bd_some]
    exact w_t (by decide) (w_ret (Q_err ok hc hr (by decide) _))
  · rw [e_graphAt hi, bdx_l]
    rcases ix_g x (n := 4) (by omega) with ha | ⟨p, hp, rfl⟩
    · rw [e_graphAtX ha, bdx_r, bdt_r]
      refine w_ret ?_
      unfold f_Model_derive f_Model_derive_J14
      rw [e_isG hi, bd_some]
      refine w_f (by decide) ?_
      rw [e_isGX ha, bd_some]
      exact w_f (by decide) (w_ret (Q_err ok hc hr (by decide) _))
    · rw [e_graphAt hp, bdx_l]
      by_cases hb : k < 0 ∨ 3 < k
      · rw [e_reqRX hb, bdx_r, bdt_r]
        refine w_ret ?_
        unfold f_Model_derive f_Model_derive_J56
        rw [e_isG hi, bd_some]
        refine w_f (by decide) ?_
        rw [e_isG hp, bd_some]
        refine w_t (by decide) ?_
        rw [e_inX hb, bd_some]
        exact w_t (by decide) (w_ret (Q_err ok hc hr (by decide) _))
      · rw [e_reqR hb, bdx_l]
        have hX := ok.1 p hp
        have hX8 := hX.1
        have hcX := hc.1 p hp
        /- the reference's way there -/
        have ref0 : ¬ k = 2 → ∀ (m : HMem) (Q : Int32 → HMem → Prop), wp (f_Model_derive_J50 (nI i) (nI p) k y 0 0 y m) Q → wp (f_Model_derive (nI i) (nI p) k y m) Q := by
          intro hk m Q hw
          unfold f_Model_derive
          rw [e_isG hi, bd_some]
          refine w_f (by decide) ?_
          rw [e_isG hp, bd_some]
          refine w_t (by decide) ?_
          rw [e_inT hb, bd_some]
          exact w_f (by decide) (w_t hk hw)
        have ref2 : k = 2 → ∀ (m : HMem) (Q : Int32 → HMem → Prop), RS σ m → wp (f_Model_derive_J50 (nI i) (nI p) k y (fullS (σ.1 p).1) 0 y m) Q → wp (f_Model_derive (nI i) (nI p) k y m) Q := by
          intro hk m Q hrm hw
          unfold f_Model_derive
          rw [e_isG hi, bd_some]
          refine w_f (by decide) ?_
          rw [e_isG hp, bd_some]
          refine w_t (by decide) ?_
          rw [e_inT hb, bd_some]
          refine w_f (by decide) (w_f (fun h => h hk) ?_)
          rw [e_msize (by omega) (hrm.1 p hp), bd_some, all_k _ (by omega)]
          exact hw
        have fin : ∀ (G : HG), GV G → ∀ m3, CS (setG (push σ) i G) m3 → Fr 0 120 μ m3 → (∀ m, RS σ m → ∀ Q : Int32 → HMem → Prop, (∀ m2, RG (m2.1 126) 292 G → Fq m m2 → wp (f_Model_derive_J112 (nI i) m2) Q) → wp (f_Model_derive (nI i) (nI p) k y m) Q) → wp (h_chk 0 (h_len 143) (h_let (h_wl m3 143 (Int32.toNatClampNeg (0)) (Int32.toInt64 (nI G.1))) (fun m => some ((0 : Int32), m)))) (fun k1 μ1 => wp (f_Model_derive (nI i) (nI p) k y μ1) (fun b μ2 => FcQ k1 (fun _ => Int32.toInt64 b) μ2)) := by
          intro G hG m3 e1 e2 href
          rw [e_out]
          refine w_ret ?_
          have hr2 := (hr.fr e2 (by omega)).wl 143 0 (Int32.toInt64 (nI G.1))
          refine href _ hr2 _ (fun m4 g1 g2 => ?_)
          unfold f_Model_derive_J112
          refine w_bdk (s_keeps ok (hr2.fq ok g2) hi g1 hG.1 (fun m5 h1 h2 h3 => ?_))
          refine w_bde (e_msize (by omega) (h1.1 i hi)) ?_
          refine w_ret ⟨⟨setG (push σ) i G, ok_setG (ok_push ok) i hG, ?_, h1⟩, h3, fun _ => ?_⟩
          · exact (e1.wl 143 0 _).fr ((g2.1.wide (a := 125) (b := 143) (by omega) (by omega)).trans h2 (a := 125) (b := 143) (by omega) (by omega) (by omega) (by omega)) (by omega)
          · rw [h2.l (by omega), g2.1.l (by omega), wl_s, setG_i]
        /- a wrong last argument -/
        have bad : ∀ hi' : Int32, (y < 0 ∨ hi' < y) → (∀ (m : HMem) (Q : Int32 → HMem → Prop), RS σ m → wp (f_Model_derive_J50 (nI i) (nI p) k y hi' 0 y m) Q → wp (f_Model_derive (nI i) (nI p) k y m) Q) → wp (h_bdt (f_Bench_derive_J37 k y (4 * i) (4 * p) hi' 0 y μ) (fun e => List.lookup e [(1, 1), (2, 2)]) (fun r9 μ_9 => h_chk 0 (h_len 143) (h_let (h_wl μ_9 143 (Int32.toNatClampNeg (0)) (Int32.toInt64 r9)) (fun μ_13 => some ((0 : Int32), μ_13))))) (fun k1 μ1 => wp (f_Model_derive (nI i) (nI p) k y μ1) (fun b μ2 => FcQ k1 (fun _ => Int32.toInt64 b) μ2)) := by
          intro hi' hy href
          unfold f_Bench_derive_J37
          rw [e_reqRX hy, bdx_r, bdt_r]
          refine w_ret (href _ _ hr ?_)
          unfold f_Model_derive_J50 f_Model_derive_J56
          rw [e_inX hy, bd_some]
          exact w_f (by decide) (w_ret (Q_err ok hc hr (by decide) _))
        obtain ⟨kd, hk, rfl⟩ := rg_n (n := 3) (by omega) hb
        have h4 : kd = 0 ∨ kd = 1 ∨ kd = 2 ∨ kd = 3 := by omega
        rcases h4 with rfl | rfl | rfl | rfl
        · rw [if_pos (show ¬ nI 0 = (2 : Int32) by decide)]
          by_cases hy : y < 0 ∨ 0 < y
          · exact bad 0 hy (fun m Q _ hw => ref0 (by decide) m Q hw)
          · unfold f_Bench_derive_J37
            rw [e_reqR hy, bdx_l]
            refine w_try (w_bdl (s_save ok hc (fun m1 a1 a2 => ?_)))
            refine w_t (by decide) (w_t (by decide) (w_t (by decide) ?_))
            refine w_bdl (s_copyFrom ⟨by omega, by omega⟩ (isg_g hp) (by omega) (a1.1 p hp) hX8 (fun m2 b1 b2 => ?_))
            unfold f_Bench_derive_J122
            refine end_made ok hi hX a1 b2 b1 (fun m3 e1 e2 => ?_)
            refine fin _ hX m3 e1 (a2.trans e2 (by omega) (by omega) (by omega) (by omega)) (fun m hm Q hQ => ref0 (by decide) m Q ?_)
            unfold f_Model_derive_J50 f_Model_derive_J110
            rw [e_inT hy, bd_some]
            refine w_t (by decide) (w_t (by decide) (w_t (by decide) ?_))
            refine w_bdk (s_copies (k' := 4) (by omega) (by omega) (by omega) (fun m5 e1 e2 => ?_))
            refine w_t (by decide) ?_
            exact hQ m5 ((hm.1 p hp).shift hX8 (fun j hj => e1 j hj)) (Fq.fw e2 (by omega))
        · rw [if_pos (show ¬ nI 1 = (2 : Int32) by decide)]
          by_cases hy : y < 0 ∨ 0 < y
          · exact bad 0 hy (fun m Q _ hw => ref0 (by decide) m Q hw)
          · unfold f_Bench_derive_J37
            rw [e_reqR hy, bdx_l]
            refine w_try (w_bdl (s_save ok hc (fun m1 a1 a2 => ?_)))
            refine w_f (by decide) ?_
            refine w_bdl (s_complement ⟨by omega, by omega⟩ (isg_g hp) (by omega) hX (a1.1 p hp) (fun m2 b1 b2 => ?_))
            unfold f_Bench_derive_J122
            refine end_made ok hi (GV_co hX) a1 b2 b1 (fun m3 e1 e2 => ?_)
            refine fin _ (GV_co hX) m3 e1 (a2.trans e2 (by omega) (by omega) (by omega) (by omega)) (fun m hm Q hQ => ref0 (by decide) m Q ?_)
            unfold f_Model_derive_J50
            rw [e_inT hy, bd_some]
            refine w_t (by decide) (w_f (by decide) ?_)
            exact w_bdk (s_complements hp hX (hm.1 p hp) (fun m5 e1 e2 => hQ m5 e1 (Fq.fw e2 (by omega))))
        · rw [if_neg (show ¬ ¬ nI 2 = (2 : Int32) by decide), e_all hcX hX8, bd_some]
          by_cases hy : y < 0 ∨ fullS (σ.1 p).1 < y
          · exact bad _ hy (fun m Q hm hw => ref2 (by decide) m Q hm hw)
          · have hset : ∀ v, bt y v = true → v < (σ.1 p).1 := by
              have h2 : 2 ^ (σ.1 p).1 ≤ 2 ^ 8 := Nat.pow_le_pow_right (by omega) hX8
              obtain ⟨s, hs, rfl⟩ := rg_n (n := 2 ^ (σ.1 p).1 - 1) (by omega) hy
              intro v hv
              rcases Nat.lt_or_ge v (σ.1 p).1 with h5 | h5
              · exact h5
              · rcases Nat.lt_or_ge v 32 with h6 | h6
                · rw [b_nI _ _ h6, Nat.testBit_lt_two_pow] at hv
                  · cases hv
                  · have h7 : 2 ^ (σ.1 p).1 ≤ 2 ^ v := Nat.pow_le_pow_right (by omega) h5
                    have h8 : 0 < 2 ^ (σ.1 p).1 := Nat.pow_pos (by omega)
                    omega
                · rw [b_big h6] at hv
                  cases hv
            unfold f_Bench_derive_J37
            rw [e_reqR hy, bdx_l]
            refine w_try (w_bdl (s_save ok hc (fun m1 a1 a2 => ?_)))
            refine w_t (by decide) (w_f (by decide) ?_)
            refine w_bdl (s_induce ⟨by omega, by omega⟩ (isg_g hp) (by omega) y hX (a1.1 p hp) hset (fun m2 b1 b2 => ?_))
            unfold f_Bench_derive_J122
            refine end_made ok hi (GV_in hX _) a1 b2 b1 (fun m3 e1 e2 => ?_)
            refine fin _ (GV_in hX _) m3 e1 (a2.trans e2 (by omega) (by omega) (by omega) (by omega)) (fun m hm Q hQ => ref2 (by decide) m Q hm ?_)
            unfold f_Model_derive_J50
            rw [e_inT hy, bd_some]
            refine w_t (by decide) (w_t (by decide) (w_f (by decide) ?_))
            exact w_bdk (s_induces (by omega) hX (hm.1 p hp) y (fun m5 e1 e2 => hQ m5 e1 (Fq.fw e2 (by omega))))
        · rw [if_pos (show ¬ nI 3 = (2 : Int32) by decide)]
          by_cases hy : y < 0 ∨ 0 < y
          · exact bad 0 hy (fun m Q _ hw => ref0 (by decide) m Q hw)
          · unfold f_Bench_derive_J37
            rw [e_reqR hy, bdx_l]
            refine w_try (w_bdl (s_save ok hc (fun m1 a1 a2 => ?_)))
            refine w_t (by decide) (w_t (by decide) (w_f (by decide) ?_))
            refine w_bdl (s_ccore (isg_g hp) (a1.1 p hp) hX (fun r m1' hrr f1 => ?_))
            have a1' := a1.fr f1 (by omega)
            refine w_bdl (s_induce ⟨by omega, by omega⟩ (isg_g hp) (by omega) r hX (a1'.1 p hp) (fun v hv => coK_lt (v := (σ.1 p).1) ((hrr v).symm.trans hv)) (fun m2 b1 b2 => ?_))
            rw [show bt r = coK (σ.1 p) (σ.1 p).1 from funext hrr] at b1
            unfold f_Bench_derive_J122
            refine end_made ok hi (GV_in hX _) a1' b2 b1 (fun m3 e1 e2 => ?_)
            refine fin _ (GV_in hX _) m3 e1 ((a2.trans f1 (a := 0) (b := 120) (by omega) (by omega) (by omega) (by omega)).trans e2 (by omega) (by omega) (by omega) (by omega)) (fun m hm Q hQ => ref0 (by decide) m Q ?_)
            unfold f_Model_derive_J50 f_Model_derive_J110
            rw [e_inT hy, bd_some]
            refine w_t (by decide) (w_t (by decide) (w_t (by decide) ?_))
            refine w_bdk (s_copies (k' := 4) (by omega) (by omega) (by omega) (fun m5 e1 e2 => ?_))
            refine w_f (by decide) ?_
            refine w_bdk (s_shrinks hX ((hm.1 p hp).shift hX8 (fun j hj => e1 j hj)) (fun m6 g1 g2 => ?_))
            exact hQ m6 g1 ((Fq.fw e2 (by omega)).trans g2)
