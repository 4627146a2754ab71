/-! 85: written -/
theorem cat_len {f : Nat → List Nat} (hf : ∀ i, (f i).length ≤ 6) : ∀ n, (cat f n).length ≤ 6 * n
  | 0 => Nat.le_refl _
  | n + 1 => by
    show (cat f n ++ f n).length ≤ 6 * (n + 1)
    rw [List.length_append]
    have := cat_len hf n
    have := hf n
    omega
theorem rtx_len {G : HG} {u : Nat} : ∀ v, (rtx G u v).length ≤ 6 * (v - u)
  | 0 => Nat.zero_le _
  | v + 1 => by
    show (rtx G u v ++ (if u ≤ v then etx G u v else [])).length ≤ 6 * (v + 1 - u)
    rw [List.length_append]
    have h1 := rtx_len (G := G) (u := u) v
    by_cases h : u ≤ v
    · rw [if_pos h]
      have := etx_len G u v
      omega
    · rw [if_neg h]
      show _ + 0 ≤ _
      omega
theorem ctx_len {G : HG} : ∀ u, (cat (fun u => rtx G u G.1) u).length ≤ 6 * sm (fun u' => G.1 - u') u
  | 0 => Nat.le_refl _
  | u + 1 => by
    show (cat (fun u => rtx G u G.1) u ++ rtx G u G.1).length ≤ 6 * (sm (fun u' => G.1 - u') u + (G.1 - u))
    rw [List.length_append]
    have h1 := ctx_len (G := G) u
    have h2 := rtx_len (G := G) (u := u) G.1
    omega
theorem gtx_len {G : HG} (hn : G.1 ≤ 8) : (gtx G).length ≤ 265 := by
  unfold gtx
  rw [List.length_append, List.length_append]
  have h1 := cat_len (vtx_len G) G.1
  have h2 := ctx_len (G := G) G.1
  have h3 := pr_36 G.1 (by omega) G.1 (by omega) (Nat.le_refl _)
  show 1 + _ + _ ≤ 265
  omega
theorem LM_written (a b : Int32) {μ : HMem} (h : SI μ) : Fc (f_Law_written a b μ) (f_Model_written a b) := by
  obtain ⟨σ, ok, hc, hr⟩ := h
  unfold Fc f_Law_written f_Bench_written
  rcases ix_g a (n := 4) (by omega) with ha | ⟨i, hi, rfl⟩
  · rw [e_graphAtX ha, bdx_r, bdt_r]
    refine w_ret ?_
    unfold f_Model_written
    rw [e_isGX ha, bd_some]
    exact w_f (by decide) (w_ret (Q_err ok hc hr (by decide) _))
  · rw [e_graphAt hi, bdx_l]
    by_cases hb : (0 : Int32) ≤ b
    · rw [if_pos hb]
      have hV := ok.1 i hi
      have hn := hV.1
      have hlen := gtx_len hn
      obtain ⟨j, hj, rfl⟩ := nI_of (x := b) (Int32.not_lt.mpr hb)
      refine LM_obs ok (r := if (gtx (σ.1 i)).length ≤ j then -1 else nI ((gtx (σ.1 i)).getD j 0)) ?_ (fun m2 c2 r2 => ?_)
      · refine w_bdk (s_swrite (isg_g hi) (hc.1 i hi) hV (fun m1 t1 f1 => ?_))
        have c1 := hc.fr f1 (by omega)
        have r1 := hr.fr f1 (by omega)
        unfold f_Bench_written_J53
        rw [t1.1]
        refine w_if (fun h0 => ?_) (fun h0 => ?_)
        · rw [nI_leI (by omega) hj] at h0
          rw [if_pos h0]
          exact w_ret ⟨rfl, c1, r1⟩
        · rw [nI_leI (by omega) hj] at h0
          rw [if_neg h0]
          refine w_chk (in_N (by rw [show h_len 91 = 265 from rfl]; omega) (by decide)) ?_
          rw [nI_clamp hj, t1.2 j (by omega)]
          exact w_ret ⟨rfl, c1, r1⟩
      · unfold f_Model_written f_Model_written_J47
        rw [e_isG hi, bd_some]
        refine w_t (by decide) (w_t hb ?_)
        refine w_bdk (s_rwrite (by omega) (r2.1 i hi) hV (fun m3 t3 f3 => ?_))
        rw [t3.1]
        refine w_if (fun h0 => ?_) (fun h0 => ?_)
        · rw [nI_leI (by omega) hj] at h0
          rw [if_pos h0]
          refine w_bde (e_tells _ _) ?_
          exact w_ret (ob_tell (c2.fs f3) (r2.fs f3) (by rw [f3.out]) _)
        · rw [nI_leI (by omega) hj] at h0
          rw [if_neg h0]
          refine w_chk (in_N (by rw [show h_len 142 = 300 from rfl]; omega) (by decide)) ?_
          rw [nI_clamp hj, t3.2 j (by omega)]
          refine w_bde (e_tells _ _) ?_
          exact w_ret (ob_tell (c2.fs f3) (r2.fs f3) (by rw [f3.out]) _)
    · rw [if_neg hb, bdt_r]
      refine w_ret ?_
      unfold f_Model_written
      rw [e_isG hi, bd_some]
      refine w_t (by decide) (w_f hb ?_)
      exact w_ret (Q_err ok hc hr (by decide) _)
