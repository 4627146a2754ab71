/-! 84: what is written (the reference) -/
theorem sg8 : ∀ k, k < 7 → (3 ≤ k → (48 + (nI k - 3) : Int32) = nI (48 + (k - 3))) ∧ (k < 3 → (48 + -(nI k - 3) : Int32) = nI (48 + (3 - k))) := by decide +kernel
theorem s_writesWeight {l : List Nat} {μ : HMem} (h : TX 142 (μ.1 125 24) l μ) (hl : l.length + 3 ≤ 300) {w : Int32} (h1 : -3 ≤ w) (h2 : w ≤ 3) (hw : ¬ w = 1) {Q : Unit → HMem → Prop} (hQ : ∀ μ', TX 142 (μ'.1 125 24) (l ++ wtx w) μ' → Fs μ μ' → Q () μ') : wp (f_Model_writesWeight w μ) Q := by
  have hN : h_len 142 = 300 := rfl
  obtain ⟨k, hk, rfl⟩ := i7 h1 h2
  obtain ⟨q1, _, q3, _, _⟩ := sg7 k hk
  obtain ⟨p1, p2⟩ := sg8 k hk
  have ew : wtx (nI k - 3) = if k = 4 then [] else if 3 ≤ k then [61, 48 + (k - 3)] else [61, 45, 48 + (3 - k)] := by unfold wtx; rw [wk_7 k hk]
  rw [ew, if_neg (fun e => hw (q3.mpr e))] at hQ
  unfold f_Model_writesWeight f_Model_writesWeight_J16 f_Model_writesWeight_J29
  refine w_bdk (s_writes h hN (by omega) (by omega) 61 (fun m1 t1 f1 => ?_))
  have l1 : (l ++ [61]).length = l.length + 1 := by rw [List.length_append]; rfl
  refine w_if (fun h3 => ?_) (fun h3 => ?_)
  · have h3' := q1.mp h3
    rw [if_pos h3'] at hQ
    refine w_t h3 ?_
    rw [p1 h3']
    refine w_bdk (s_writes t1 hN (by omega) (by omega) _ (fun m2 t2 f2 => ?_))
    refine w_ret (hQ m2 ?_ (f1.trans f2))
    rw [List.append_assoc] at t2
    exact t2
  · have h3' : ¬ 3 ≤ k := fun e => h3 (q1.mpr e)
    rw [if_neg h3'] at hQ
    refine w_bdk (s_writes t1 hN (by omega) (by omega) 45 (fun m2 t2 f2 => ?_))
    have l2 : (l ++ [61] ++ [45]).length = l.length + 2 := by rw [List.length_append, l1]; rfl
    refine w_f h3 ?_
    rw [p2 (by omega)]
    refine w_bdk (s_writes t2 hN (by omega) (by omega) _ (fun m3 t3 f3 => ?_))
    refine w_ret (hQ m3 ?_ ((f1.trans f2).trans f3))
    rw [List.append_assoc, List.append_assoc] at t3
    exact t3
theorem s_wr3 {l : List Nat} {μ : HMem} (h : TX 142 (μ.1 125 24) l μ) (hl : l.length + 3 ≤ 300) {y z : Nat} {K : HMem → Option (Unit × HMem)} {Q : Unit → HMem → Prop} (hK : ∀ m3, TX 142 (m3.1 125 24) (l ++ [59, y, z]) m3 → Fs μ m3 → wp (K m3) Q) : wp (h_bd (f_Model_writes 59 μ) (fun _ m1 => h_bd (f_Model_writes (nI y) m1) (fun _ m2 => h_bd (f_Model_writes (nI z) m2) (fun _ m3 => K m3)))) Q := by
  have hN : h_len 142 = 300 := rfl
  refine w_bdk (s_writes h hN (by omega) (by omega) 59 (fun m1 t1 f1 => ?_))
  have l1 : (l ++ [59]).length = l.length + 1 := by rw [List.length_append]; rfl
  refine w_bdk (s_writes t1 hN (by omega) (by omega) y (fun m2 t2 f2 => ?_))
  have l2 : (l ++ [59] ++ [y]).length = l.length + 2 := by rw [List.length_append, l1]; rfl
  refine w_bdk (s_writes t2 hN (by omega) (by omega) z (fun m3 t3 f3 => ?_))
  rw [List.append_assoc, List.append_assoc] at t3
  exact hK m3 t3 ((f1.trans f2).trans f3)
theorem s_writesEdge {l : List Nat} {μ : HMem} (h : TX 142 (μ.1 125 24) l μ) (hl : l.length + 6 ≤ 300) (G : HG) (u v : Nat) (h1 : -3 ≤ G.2.2 u v) (h2 : G.2.2 u v ≤ 3) {Q : Unit → HMem → Prop} (hQ : ∀ μ', TX 142 (μ'.1 125 24) (l ++ etx G u v) μ' → Fs μ μ' → Q () μ') : wp (f_Model_writesEdge (nI u) (nI v) (G.2.2 u v) μ) Q := by
  unfold f_Model_writesEdge f_Model_writesEdge_J36
  refine w_if (fun h0 => ?_) (fun h0 => ?_)
  · have : etx G u v = [] := if_pos h0
    rw [this, List.append_nil] at hQ
    exact w_ret (hQ μ h (Fs.refl _))
  · have ee : etx G u v = [59, 48 + u, 48 + v] ++ wtx (G.2.2 u v) := if_neg h0
    rw [ee] at hQ
    rw [show (48 : Int32) = nI 48 from rfl, nI_add, nI_add]
    refine s_wr3 h (by omega) (fun m3 t3 f3 => ?_)
    have l3 : (l ++ [59, 48 + u, 48 + v]).length = l.length + 3 := by rw [List.length_append]; rfl
    refine w_if (fun h3 => ?_) (fun h3 => ?_)
    · refine w_ret (hQ m3 ?_ f3)
      have : wtx (G.2.2 u v) = [] := by rw [h3]; decide
      rw [this, List.append_nil]
      exact t3
    · refine w_bdk (s_writesWeight t3 (by omega) h1 h2 h3 (fun m4 t4 f4 => ?_))
      refine w_ret (hQ m4 ?_ (f3.trans f4))
      rw [← List.append_assoc]
      exact t4
theorem s_rwrite {μ : HMem} {k : Nat} {G : HG} (hk : k < 6) (h : RG (μ.1 126) (73 * k) G) (hG : GV G) {Q : Unit → HMem → Prop} (hQ : ∀ μ', TX 142 (μ'.1 125 24) (gtx G) μ' → Fs μ μ' → Q () μ') : wp (f_Model_writesGraph (nI k) μ) Q := by
  have hn := hG.1
  unfold f_Model_writesGraph
  refine w_let ?_
  have f0 : Fs μ (h_wi μ 125 24 0) := Fs.wf ⟨by omega, by omega, by omega⟩
  have t0 : TX 142 ((h_wi μ 125 24 0).1 125 24) [] (h_wi μ 125 24 0) := ⟨wi_s _ _ _ _, fun k hk => absurd hk (Nat.not_lt_zero _)⟩
  refine w_bde (e_msize hk (h.fs f0)) ?_
  rw [show (48 : Int32) = nI 48 from rfl, nI_add]
  refine w_bdk (s_writes t0 (N := 300) rfl (by omega) (by show 0 < 300; omega) _ (fun m1 t1 f1 => ?_))
  have f01 := f0.trans f1
  refine w_for (fun f v (m : HMem) => wp (f_Model_writesGraph_L19 f_Model_writesGraph_J74 f (nI k) (nI v) m) Q) (fun v m => TX 142 (m.1 125 24) ([48 + G.1] ++ cat (vtx G) v) m ∧ Fs μ m ∧ ([48 + G.1] ++ cat (vtx G) v).length ≤ 1 + 6 * v) G.1 ?_ ?_ 0 m1 (by omega) (by omega) ⟨t1, f01, Nat.le_refl 1⟩
  · rintro f m ⟨k1, k2, k3⟩
    show wp (f_Model_writesGraph_L19_b f_Model_writesGraph_J74 (f_Model_writesGraph_L19 f_Model_writesGraph_J74 f) (nI k) (nI G.1) m) Q
    unfold f_Model_writesGraph_L19_b f_Model_writesGraph_J74
    refine w_bde (e_msize hk (h.fs k2)) ?_
    refine w_t (nI_le (Nat.le_refl _) (by omega)) ?_
    refine w_for (fun f u (m : HMem) => wp (f_Model_writesGraph_L76 f (nI k) (nI u) m) Q) (fun u m => TX 142 (m.1 125 24) ([48 + G.1] ++ cat (vtx G) G.1 ++ cat (fun u => rtx G u G.1) u) m ∧ Fs μ m ∧ ([48 + G.1] ++ cat (vtx G) G.1 ++ cat (fun u => rtx G u G.1) u).length ≤ 1 + 6 * G.1 + 6 * sm (fun u' => G.1 - u') u) G.1 ?_ ?_ 0 m (by omega) (by omega) ⟨by show TX 142 _ ([48 + G.1] ++ cat (vtx G) G.1 ++ []) m; rw [List.append_nil]; exact k1, k2, by show ([48 + G.1] ++ cat (vtx G) G.1 ++ []).length ≤ _; rw [List.append_nil]; omega⟩
    · rintro f m ⟨k1, k2, k3⟩
      show wp (f_Model_writesGraph_L76_b (f_Model_writesGraph_L76 f) (nI k) (nI G.1) m) Q
      unfold f_Model_writesGraph_L76_b
      refine w_bde (e_msize hk (h.fs k2)) ?_
      exact w_t (nI_le (Nat.le_refl _) (by omega)) (w_ret (hQ m k1 k2))
    · rintro f u m hu ⟨k1, k2, k3⟩ ih
      show wp (f_Model_writesGraph_L76_b (f_Model_writesGraph_L76 f) (nI k) (nI u) m) Q
      unfold f_Model_writesGraph_L76_b
      refine w_bde (e_msize hk (h.fs k2)) ?_
      refine w_f (nI_ge hu (by omega)) ?_
      have hpr := pr_36 G.1 (by omega) (u + 1) (by omega) (by omega)
      have hpr : sm (fun u' => G.1 - u') u + (G.1 - u) ≤ 36 := hpr
      generalize hL : [48 + G.1] ++ cat (vtx G) G.1 ++ cat (fun u => rtx G u G.1) u = L at k1 k3
      refine w_for (fun f2 v (m2 : HMem) => wp (f_Model_writesGraph_L87 (f_Model_writesGraph_J115 (f_Model_writesGraph_L76 f)) f2 (nI k) (nI u) (nI v) m2) Q) (fun v m2 => u ≤ v ∧ TX 142 (m2.1 125 24) (L ++ rtx G u v) m2 ∧ Fs μ m2 ∧ (L ++ rtx G u v).length ≤ 1 + 6 * G.1 + 6 * (sm (fun u' => G.1 - u') u + (v - u))) G.1 ?_ ?_ u m (by omega) (by omega) ⟨Nat.le_refl _, by rw [rtx_lo u (Nat.le_refl _), List.append_nil]; exact k1, k2, by rw [rtx_lo u (Nat.le_refl _), List.append_nil]; omega⟩
      · rintro f2 m2 ⟨_, j1, j2, j3⟩
        show wp (f_Model_writesGraph_L87_b (f_Model_writesGraph_J115 (f_Model_writesGraph_L76 f)) (f_Model_writesGraph_L87 (f_Model_writesGraph_J115 (f_Model_writesGraph_L76 f)) f2) (nI k) (nI u) (nI G.1) m2) Q
        unfold f_Model_writesGraph_L87_b f_Model_writesGraph_J115
        refine w_bde (e_msize hk (h.fs j2)) ?_
        refine w_t (nI_le (Nat.le_refl _) (by omega)) ?_
        refine w_let ?_
        rw [nI_1]
        have e : [48 + G.1] ++ cat (vtx G) G.1 ++ cat (fun u => rtx G u G.1) (u + 1) = L ++ rtx G u G.1 := by
          rw [← hL]
          show _ ++ (cat (fun u => rtx G u G.1) u ++ rtx G u G.1) = _
          rw [← List.append_assoc]
        refine ih m2 ⟨by rw [e]; exact j1, j2, ?_⟩
        rw [e]
        show _ ≤ 1 + 6 * G.1 + 6 * (sm (fun u' => G.1 - u') u + (G.1 - u))
        exact j3
      · rintro f2 v m2 hv ⟨j0, j1, j2, j3⟩ ih2
        show wp (f_Model_writesGraph_L87_b (f_Model_writesGraph_J115 (f_Model_writesGraph_L76 f)) (f_Model_writesGraph_L87 (f_Model_writesGraph_J115 (f_Model_writesGraph_L76 f)) f2) (nI k) (nI u) (nI v) m2) Q
        unfold f_Model_writesGraph_L87_b
        refine w_bde (e_msize hk (h.fs j2)) ?_
        refine w_f (nI_ge hv (by omega)) ?_
        refine w_bde (e_mbetween hk hn (h.fs j2) hu hv) ?_
        have er : rtx G u (v + 1) = rtx G u v ++ etx G u v := by
          show rtx G u v ++ (if u ≤ v then etx G u v else []) = _
          rw [if_pos j0]
        have el := etx_len G u v
        have hb := (hG.2.2 u v hu hv).2
        refine w_bdk (s_writesEdge j1 (by omega) G u v (Int32.le_trans (by decide) hb.1) (Int32.le_trans hb.2 (by decide)) (fun m3 t3 f3 => ?_))
        refine w_let ?_
        rw [nI_1]
        refine ih2 m3 ⟨by omega, ?_, j2.trans f3, ?_⟩
        · rw [er, ← List.append_assoc]
          exact t3
        · rw [er, ← List.append_assoc, List.length_append]
          omega
  · rintro f v m hv ⟨k1, k2, k3⟩ ih
    show wp (f_Model_writesGraph_L19_b f_Model_writesGraph_J74 (f_Model_writesGraph_L19 f_Model_writesGraph_J74 f) (nI k) (nI v) m) Q
    unfold f_Model_writesGraph_L19_b f_Model_writesGraph_J68
    refine w_bde (e_msize hk (h.fs k2)) ?_
    refine w_f (nI_ge hv (by omega)) ?_
    refine w_bde (e_mweight hk hn (h.fs k2) hv) ?_
    have er : [48 + G.1] ++ cat (vtx G) (v + 1) = [48 + G.1] ++ cat (vtx G) v ++ vtx G v := by
      show _ ++ (cat (vtx G) v ++ vtx G v) = _
      rw [List.append_assoc]
    have el := vtx_len G v
    have lnext : ([48 + G.1] ++ cat (vtx G) (v + 1)).length ≤ 1 + 6 * (v + 1) := by
      rw [er, List.length_append]
      omega
    refine w_if (fun h0 => ?_) (fun h0 => ?_)
    · refine w_let ?_
      rw [nI_1]
      refine ih m ⟨?_, k2, lnext⟩
      have : vtx G v = [] := if_pos h0
      rw [er, this, List.append_nil]
      exact k1
    · have ee : vtx G v = [59, 118, 48 + v] ++ wtx (G.2.1 v) := if_neg h0
      rw [show (48 : Int32) = nI 48 from rfl, nI_add]
      refine s_wr3 (y := 118) k1 (by omega) (fun m3 t3 f3 => ?_)
      have f23 := k2.trans f3
      refine w_bde (e_mweight hk hn (h.fs f23) hv) ?_
      have hb := hG.2.1 v hv
      have l3 : ([48 + G.1] ++ cat (vtx G) v ++ [59, 118, 48 + v]).length = ([48 + G.1] ++ cat (vtx G) v).length + 3 := by rw [List.length_append]; rfl
      refine w_bdk (s_writesWeight t3 (by omega) hb.1 hb.2 h0 (fun m4 t4 f4 => ?_))
      refine w_let ?_
      rw [nI_1]
      refine ih m4 ⟨?_, f23.trans f4, lnext⟩
      rw [er, ee, ← List.append_assoc]
      exact t4
