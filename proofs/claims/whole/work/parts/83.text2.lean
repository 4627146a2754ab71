/-! 83: what is written (the class) -/
def cat (f : Nat → List Nat) : Nat → List Nat
  | 0 => []
  | n + 1 => cat f n ++ f n
def vtx (G : HG) (v : Nat) : List Nat := if G.2.1 v = 1 then [] else [59, 118, 48 + v] ++ wtx (G.2.1 v)
def etx (G : HG) (u v : Nat) : List Nat := if G.2.2 u v = 0 then [] else [59, 48 + u, 48 + v] ++ wtx (G.2.2 u v)
def rtx (G : HG) (u : Nat) : Nat → List Nat := cat (fun v => if u ≤ v then etx G u v else [])
/-- the text of a graph -/
def gtx (G : HG) : List Nat := [48 + G.1] ++ cat (vtx G) G.1 ++ cat (fun u => rtx G u G.1) G.1
theorem vtx_len (G : HG) (v : Nat) : (vtx G v).length ≤ 6 := by
  unfold vtx
  by_cases h : G.2.1 v = 1
  · rw [if_pos h]; exact Nat.zero_le _
  · rw [if_neg h, List.length_append]
    have := wtx_len (G.2.1 v)
    show 3 + _ ≤ 6
    omega
theorem etx_len (G : HG) (u v : Nat) : (etx G u v).length ≤ 6 := by
  unfold etx
  by_cases h : G.2.2 u v = 0
  · rw [if_pos h]; exact Nat.zero_le _
  · rw [if_neg h, List.length_append]
    have := wtx_len (G.2.2 u v)
    show 3 + _ ≤ 6
    omega
theorem pr_36 : ∀ n, n < 9 → ∀ u, u < 9 → u ≤ n → sm (fun u' => n - u') u ≤ 36 := by decide +kernel
theorem rtx_lo {G : HG} {u : Nat} : ∀ v, v ≤ u → rtx G u v = []
  | 0, _ => rfl
  | v + 1, h => by
    show rtx G u v ++ (if u ≤ v then etx G u v else []) = []
    rw [rtx_lo v (by omega), if_neg (by omega)]
    rfl
theorem s_put3 {l : List Nat} {μ : HMem} (h : TX 91 (μ.1 90 1) l μ) {N : Nat} (hN : h_len 91 = N) (hN2 : N ≤ 1000) (hl : l.length + 3 ≤ N) {y z : Nat} (hy : y < 128) (hz : z < 128) {K : HMem → Option (Unit × HMem)} {Q : Unit → HMem → Prop} (hK : ∀ m3, TX 91 (m3.1 90 1) (l ++ [59, y, z]) m3 → Fr 90 92 μ m3 → wp (K m3) Q) : wp (h_bd (f_Script_put 59 μ) (fun _ m1 => h_bd (f_Script_put (nI y) m1) (fun _ m2 => h_bd (f_Script_put (nI z) m2) (fun _ m3 => K m3)))) Q := by
  refine w_bdk (s_put (x := 59) h hN hN2 (by omega) (by omega) (fun m1 t1 f1 => ?_))
  have l1 : (l ++ [59]).length = l.length + 1 := by rw [List.length_append]; rfl
  refine w_bdk (s_put (x := y) t1 hN hN2 (by omega) hy (fun m2 t2 f2 => ?_))
  have l2 : (l ++ [59] ++ [y]).length = l.length + 2 := by rw [List.length_append, l1]; rfl
  refine w_bdk (s_put (x := z) t2 hN hN2 (by omega) hz (fun m3 t3 f3 => ?_))
  rw [List.append_assoc, List.append_assoc] at t3
  exact hK m3 t3 ((f1.trans f2 (by omega) (by omega) (by omega) (by omega) : Fr 90 92 μ m2).trans f3 (by omega) (by omega) (by omega) (by omega))
theorem s_swrite {μ : HMem} {g : Nat} {G : HG} (hg : IsG g) (hc : CG μ g G) (hG : GV G) {Q : Unit → HMem → Prop} (hQ : ∀ μ', TX 91 (μ'.1 90 1) (gtx G) μ' → Fr 90 92 μ μ' → Q () μ') : wp (f_Script_write g μ) Q := by
  have hn := hG.1
  have l84 := hg.2
  have hN : h_len 91 = 265 := rfl
  unfold f_Script_write
  refine w_let ?_
  have f0 : Fr 90 92 μ (h_wi μ 90 1 0) := Fr.wi (by omega) (by omega)
  have t0 : TX 91 ((h_wi μ 90 1 0).1 90 1) [] (h_wi μ 90 1 0) := ⟨wi_s _ _ _ _, fun k hk => absurd hk (Nat.not_lt_zero _)⟩
  rw [(hc.fr f0 (by omega)).1, show (48 : Int32) = nI 48 from rfl, nI_add]
  refine w_bdk (s_put t0 hN (by omega) (by show 0 < 265; omega) (by omega) (fun m1 t1 f1 => ?_))
  have f01 : Fr 90 92 μ m1 := f0.trans f1 (by omega) (by omega) (by omega) (by omega)
  refine w_for (fun f v (m : HMem) => wp (f_Script_write_L18 f_Script_write_J72 f g (nI v) m) Q) (fun v m => TX 91 (m.1 90 1) ([48 + G.1] ++ cat (vtx G) v) m ∧ Fr 90 92 μ m ∧ ([48 + G.1] ++ cat (vtx G) v).length ≤ 1 + 6 * v) G.1 ?_ ?_ 0 m1 (by omega) (by omega) ⟨t1, f01, Nat.le_refl 1⟩
  · rintro f m ⟨k1, k2, k3⟩
    show wp (f_Script_write_L18_b f_Script_write_J72 (f_Script_write_L18 f_Script_write_J72 f) g (nI G.1) m) Q
    unfold f_Script_write_L18_b f_Script_write_J72
    rw [(hc.fr k2 (by omega)).1]
    refine w_t (nI_le (Nat.le_refl _) (by omega)) ?_
    refine w_for (fun f u (m : HMem) => wp (f_Script_write_L74 f g (nI u) m) Q) (fun u m => TX 91 (m.1 90 1) ([48 + G.1] ++ cat (vtx G) G.1 ++ cat (fun u => rtx G u G.1) u) m ∧ Fr 90 92 μ m ∧ ([48 + G.1] ++ cat (vtx G) G.1 ++ cat (fun u => rtx G u G.1) u).length ≤ 1 + 6 * G.1 + 6 * sm (fun u' => G.1 - u') u) G.1 ?_ ?_ 0 m (by omega) (by omega) ⟨by show TX 91 _ ([48 + G.1] ++ cat (vtx G) G.1 ++ []) m; rw [List.append_nil]; exact k1, k2, by show ([48 + G.1] ++ cat (vtx G) G.1 ++ []).length ≤ _; rw [List.append_nil]; omega⟩
    · rintro f m ⟨k1, k2, k3⟩
      show wp (f_Script_write_L74_b (f_Script_write_L74 f) g (nI G.1) m) Q
      unfold f_Script_write_L74_b
      rw [(hc.fr k2 (by omega)).1]
      exact w_t (nI_le (Nat.le_refl _) (by omega)) (w_ret (hQ m k1 k2))
    · rintro f u m hu ⟨k1, k2, k3⟩ ih
      show wp (f_Script_write_L74_b (f_Script_write_L74 f) g (nI u) m) Q
      unfold f_Script_write_L74_b
      rw [(hc.fr k2 (by omega)).1]
      refine w_f (nI_ge hu (by omega)) ?_
      have hpr := pr_36 G.1 (by omega) (u + 1) (by omega) (by omega)
      have hpr : sm (fun u' => G.1 - u') u + (G.1 - u) ≤ 36 := hpr
      generalize hL : [48 + G.1] ++ cat (vtx G) G.1 ++ cat (fun u => rtx G u G.1) u = L at k1 k3
      refine w_for (fun f2 v (m2 : HMem) => wp (f_Script_write_L84 (f_Script_write_J139 (f_Script_write_L74 f)) f2 g (nI u) (nI v) m2) Q) (fun v m2 => u ≤ v ∧ TX 91 (m2.1 90 1) (L ++ rtx G u v) m2 ∧ Fr 90 92 μ m2 ∧ (L ++ rtx G u v).length ≤ 1 + 6 * G.1 + 6 * (sm (fun u' => G.1 - u') u + (v - u))) G.1 ?_ ?_ u m (by omega) (by omega) ⟨Nat.le_refl _, by rw [rtx_lo u (Nat.le_refl _), List.append_nil]; exact k1, k2, by rw [rtx_lo u (Nat.le_refl _), List.append_nil]; omega⟩
      · rintro f2 m2 ⟨_, j1, j2, j3⟩
        show wp (f_Script_write_L84_b (f_Script_write_J139 (f_Script_write_L74 f)) (f_Script_write_L84 (f_Script_write_J139 (f_Script_write_L74 f)) f2) g (nI u) (nI G.1) m2) Q
        unfold f_Script_write_L84_b f_Script_write_J139
        rw [(hc.fr j2 (by omega)).1]
        refine w_t (nI_le (Nat.le_refl _) (by omega)) ?_
        refine w_let ?_
        rw [nI_1]
        have e : [48 + G.1] ++ cat (vtx G) G.1 ++ cat (fun u => rtx G u G.1) (u + 1) = L ++ rtx G u G.1 := by
          rw [← hL]
          show _ ++ (cat (fun u => rtx G u G.1) u ++ rtx G u G.1) = _
          rw [← List.append_assoc]
        refine ih m2 ⟨by rw [e]; exact j1, j2, ?_⟩
        rw [e]
        show _ ≤ 1 + 6 * G.1 + 6 * (sm (fun u' => G.1 - u') u + (G.1 - u))
        exact j3
      · rintro f2 v m2 hv ⟨j0, j1, j2, j3⟩ ih2
        show wp (f_Script_write_L84_b (f_Script_write_J139 (f_Script_write_L74 f)) (f_Script_write_L84 (f_Script_write_J139 (f_Script_write_L74 f)) f2) g (nI u) (nI v) m2) Q
        unfold f_Script_write_L84_b f_Script_write_J133
        have cm2 := hc.fr j2 (by omega)
        rw [cm2.1]
        refine w_f (nI_ge hv (by omega)) ?_
        refine w_bde (e_between hg cm2 hn hu hv) ?_
        have er : rtx G u (v + 1) = rtx G u v ++ etx G u v := by
          show rtx G u v ++ (if u ≤ v then etx G u v else []) = _
          rw [if_pos j0]
        have el := etx_len G u v
        have lnext : (L ++ rtx G u (v + 1)).length ≤ 1 + 6 * G.1 + 6 * (sm (fun u' => G.1 - u') u + (v + 1 - u)) := by
          rw [er, ← List.append_assoc, List.length_append]
          omega
        refine w_if (fun h0 => ?_) (fun h0 => ?_)
        · refine w_let ?_
          rw [nI_1]
          refine ih2 m2 ⟨by omega, ?_, j2, lnext⟩
          have : etx G u v = [] := if_pos h0
          rw [er, this, List.append_nil]
          exact j1
        · have ee : etx G u v = [59, 48 + u, 48 + v] ++ wtx (G.2.2 u v) := if_neg h0
          rw [show (48 : Int32) = nI 48 from rfl, nI_add, nI_add]
          refine s_put3 j1 hN (by omega) (by omega) (by omega) (by omega) (fun m3 t3 f3 => ?_)
          have f23 : Fr 90 92 μ m3 := j2.trans f3 (by omega) (by omega) (by omega) (by omega)
          refine w_bde (e_between hg (hc.fr f23 (by omega)) hn hu hv) ?_
          have hb := (hG.2.2 u v hu hv).2
          have l3 : (L ++ rtx G u v ++ [59, 48 + u, 48 + v]).length = (L ++ rtx G u v).length + 3 := by rw [List.length_append]; rfl
          refine w_bdk (s_putWeight t3 hN (by omega) (by omega) (Int32.le_trans (by decide) hb.1) (Int32.le_trans hb.2 (by decide)) (fun m4 t4 f4 => ?_))
          refine w_let ?_
          rw [nI_1]
          refine ih2 m4 ⟨by omega, ?_, f23.trans f4 (by omega) (by omega) (by omega) (by omega), lnext⟩
          rw [er, ee, ← List.append_assoc, ← List.append_assoc]
          exact t4
  · rintro f v m hv ⟨k1, k2, k3⟩ ih
    show wp (f_Script_write_L18_b f_Script_write_J72 (f_Script_write_L18 f_Script_write_J72 f) g (nI v) m) Q
    unfold f_Script_write_L18_b f_Script_write_J66
    have cm := hc.fr k2 (by omega)
    rw [cm.1]
    refine w_f (nI_ge hv (by omega)) ?_
    refine w_chk (by rw [len_1 hg]; exact in_N (by omega) (by omega)) ?_
    rw [cl_8 (by omega), cm.2.1 v hv]
    have er : [48 + G.1] ++ cat (vtx G) (v + 1) = [48 + G.1] ++ cat (vtx G) v ++ vtx G v := by
      show _ ++ (cat (vtx G) v ++ vtx G v) = _
      rw [List.append_assoc]
    have el := vtx_len G v
    have lnext : ([48 + G.1] ++ cat (vtx G) (v + 1)).length ≤ 1 + 6 * (v + 1) := by
      rw [er, List.length_append]
      omega
    refine w_if (fun h0 => ?_) (fun h0 => ?_)
    · refine w_let ?_
      rw [nI_1]
      refine ih m ⟨?_, k2, lnext⟩
      have : vtx G v = [] := if_pos h0
      rw [er, this, List.append_nil]
      exact k1
    · have ee : vtx G v = [59, 118, 48 + v] ++ wtx (G.2.1 v) := if_neg h0
      rw [show (48 : Int32) = nI 48 from rfl, nI_add]
      refine s_put3 (y := 118) k1 hN (by omega) (by omega) (by omega) (by omega) (fun m3 t3 f3 => ?_)
      have f23 : Fr 90 92 μ m3 := k2.trans f3 (by omega) (by omega) (by omega) (by omega)
      refine w_chk (by rw [len_1 hg]; exact in_N (by omega) (by omega)) ?_
      rw [(hc.fr f23 (by omega)).2.1 v hv]
      have hb := hG.2.1 v hv
      have l3 : ([48 + G.1] ++ cat (vtx G) v ++ [59, 118, 48 + v]).length = ([48 + G.1] ++ cat (vtx G) v).length + 3 := by rw [List.length_append]; rfl
      refine w_bdk (s_putWeight t3 hN (by omega) (by omega) hb.1 hb.2 (fun m4 t4 f4 => ?_))
      refine w_let ?_
      rw [nI_1]
      refine ih m4 ⟨?_, f23.trans f4 (by omega) (by omega) (by omega) (by omega), lnext⟩
      rw [er, ee, ← List.append_assoc]
      exact t4
