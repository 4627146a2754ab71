/-! 52: the calls that set vertices and edges, make, random, combine -/
theorem e_reqV {μ : HMem} {g : Nat} {G : HG} (h : CG μ g G) (hn : G.1 ≤ 8) {v : Nat} (hv : v < G.1) : f_Bench_requireVertex g (nI v) μ = some (.inl (), μ) := by
  unfold f_Bench_requireVertex
  rw [if_neg (nI_pos (by omega)), h.1, if_pos (nI_lt hv (by omega))]
theorem e_reqVX {μ : HMem} {g : Nat} {G : HG} (h : CG μ g G) {x : Int32} (hx : x < 0 ∨ nI G.1 ≤ x) : f_Bench_requireVertex g x μ = some (.inr 1, μ) := by
  unfold f_Bench_requireVertex f_Bench_requireVertex_J12
  by_cases h0 : x < 0
  · rw [if_pos h0]
  · rw [if_neg h0, h.1, if_neg (Int32.not_lt.mpr (hx.resolve_left h0))]
theorem e_isV {μ : HMem} {k : Nat} {G : HG} (hk : k < 4) (h : RG (μ.1 126) (73 * k) G) (hn : G.1 ≤ 8) {v : Nat} (hv : v < G.1) : f_Model_isVertex (nI k) (nI v) μ = some (bI true, μ) := by
  rw [e_isVertex hk h]
  have h1 : ¬ nI v < 0 := nI_pos (by omega)
  have h2 : ¬ nI G.1 - 1 < nI v := by
    obtain ⟨q, hq⟩ : ∃ q, G.1 = q + 1 := ⟨G.1 - 1, by omega⟩
    rw [hq, nI_pred]
    exact nI_nlt (by omega) (by omega)
  simp [h1, h2]
theorem e_isVX {μ : HMem} {k : Nat} {G : HG} (hk : k < 4) (h : RG (μ.1 126) (73 * k) G) (hn : G.1 ≤ 8) {x : Int32} (hx : x < 0 ∨ nI G.1 ≤ x) : f_Model_isVertex (nI k) x μ = some (bI false, μ) := by
  rw [e_isVertex hk h]
  by_cases h0 : x < 0
  · simp [h0]
  · have h2 : nI G.1 - 1 < x := by
      have h3 := hx.resolve_left h0
      rw [Int32.le_iff_toInt_le, nI_toInt (by omega)] at h3
      rw [Int32.lt_iff_toInt_lt, show (1 : Int32) = nI 1 from rfl, pk_sub_toInt (by omega) (by omega)]
      omega
    simp [h2]
theorem e_isVG {x : Int32} (hx : x < 0 ∨ nI 4 ≤ x) (y : Int32) (μ : HMem) : f_Model_isVertex x y μ = some (bI false, μ) := by
  unfold f_Model_isVertex f_Model_isVertex_J26 f_Model_isVertex_J27
  rw [e_isGX hx, bd_some, if_pos (by decide), e_J0]
theorem setG_i (σ : HS) (i : Nat) (G : HG) : (setG σ i G).1 i = G := if_pos rfl
theorem w126 {μ : HMem} {i : Nat} {x : Int32} (h : i < 292) : Fr 126 127 μ (h_wi μ 126 i x) := Fr.wi (by omega) (by omega)
theorem LM_setVertex (a b c : Int32) {μ : HMem} (h : SI μ) : Fc (f_Law_setVertex a b c μ) (f_Model_setVertex a b c) := by
  obtain ⟨σ, ok, hc, hr⟩ := h
  unfold Fc f_Law_setVertex f_Bench_setVertex
  rcases ix_g a (n := 4) (by omega) with ha | ⟨i, hi, rfl⟩
  · rw [e_graphAtX ha, bdx_r, bdt_r]
    refine w_ret ?_
    unfold f_Model_setVertex
    rw [e_isVG ha, bd_some]
    exact w_f (by decide) (w_ret (Q_err ok hc hr (by decide) _))
  · rw [e_graphAt hi, bdx_l]
    have hri := hr.1 i hi
    have hci := hc.1 i hi
    have hn := (ok.1 i hi).1
    rcases ix_g b (n := (σ.1 i).1) (by omega) with hb | ⟨v, hv, rfl⟩
    · rw [e_reqVX hci hb, bdx_r, bdt_r]
      refine w_ret ?_
      unfold f_Model_setVertex
      rw [e_isVX hi hri hn hb, bd_some]
      exact w_f (by decide) (w_ret (Q_err ok hc hr (by decide) _))
    · rw [e_reqV hci hn hv, bdx_l]
      by_cases hw : c < -3 ∨ 3 < c
      · rw [e_reqRX hw, bdx_r, bdt_r]
        refine w_ret ?_
        unfold f_Model_setVertex
        rw [e_isV hi hri hn hv, bd_some, e_inX hw, bd_some]
        exact w_t (by decide) (w_f (by decide) (w_ret (Q_err ok hc hr (by decide) _)))
      · rw [e_reqR hw, bdx_l]
        have w1 : -3 ≤ c := Int32.not_lt.mp (fun h => hw (Or.inl h))
        have w2 : c ≤ 3 := Int32.not_lt.mp (fun h => hw (Or.inr h))
        refine w_try (w_bdl (s_save ok hc (fun m1 a1 a2 => ?_)))
        have hci1 := a1.1 i hi
        refine w_chk (by rw [len_1 (isg_g hi)]; exact in_N (by omega) (by omega)) ?_
        refine w_let ?_
        refine w_chk (by rw [len_1 (isg_g hi)]; exact in_N (by omega) (by omega)) ?_
        refine w_let ?_
        rw [cl_8 (by omega), hci1.2.1 v hv]
        refine w_ret ?_
        show wp _ _
        rw [e_out]
        refine w_ret ?_
        have hf : Fr (4 * i) (4 * i + 4) m1 (h_wi m1 (4 * i + 1) v c) := Fr.wi (by omega) (by omega)
        have r2 := (hr.fr (a2.trans hf (a := 0) (b := 88) (by omega) (by omega) (by omega) (by omega)) (by omega)).wl 143 0 (Int32.toInt64 (((push σ).1 i).2.1 v))
        unfold f_Model_setVertex
        rw [e_isV hi (r2.1 i hi) hn hv, bd_some, e_inT hw, bd_some]
        refine w_t (by decide) (w_t (by decide) ?_)
        refine w_bdk (s_msave ok r2 (fun m3 d1 d2 d3 d4 => ?_))
        refine w_bde (e_mweight (by omega) hn (d1.1 i hi) hv) ?_
        rw [m73w]
        refine w_chk (in_N (by rw [show h_len 126 = 438 from rfl]; omega) (by decide)) ?_
        refine w_let ?_
        rw [cl_8 (by omega)]
        have f4 : Fr 126 127 m3 (h_wi m3 126 (73 * i + 1 + v) c) := Fr.wi (by omega) (by omega)
        refine w_ret ⟨⟨setG (push σ) i (sw ((push σ).1 i) v c), ok_setG (ok_push ok) i ((ok.1 i hi).wt v w1 w2), ?_, ?_⟩, ?_, fun _ => ?_⟩
        · exact ((CS.set hi a1 hf (hci1.wt v c)).wl 143 0 _).fr (d2.trans f4 (a := 125) (b := 128) (by omega) (by omega) (by omega) (by omega)) (by omega)
        · refine ⟨fun j hj => ?_, ?_, ?_⟩
          · rw [wi_126]
            show RG _ _ (if j = i then _ else (push σ).1 j)
            by_cases e : j = i
            · rw [if_pos e, e]
              exact (d1.1 i hi).wt hv hn c
            · rw [if_neg e]
              have hj8 := (ok.1 j hj).1
              refine (d1.1 j hj).shift hj8 (fun q hq => pk_un ?_)
              have : v < 8 := by omega
              omega
          · have := d1.2.1
            show RH (push σ).2.1 _
            unfold RH at this ⊢
            rw [f4.i (c := 125) (by omega), f4.i (c := 127) (by omega)]
            exact this
          · have := d1.2.2
            show RT (push σ).2.2 _
            unfold RT at this ⊢
            rw [f4.i (c := 125) (by omega), f4.i (c := 128) (by omega)]
            exact this
        · rw [f4.i (by omega)]; exact d4
        · rw [f4.l (by omega), d2.l (by omega), wl_s]
          rfl
/-- an edge of a reference's graph among the four -/
theorem RS.set {σ : HS} {μ μ' : HMem} {i : Nat} {G : HG} (ok : OKs σ) (hi : i < 4) (hr : RS σ μ) (hf : Fw (73 * i) (73 * i + 73) μ μ') (hG : RG (μ'.1 126) (73 * i) G) : RS (setG σ i G) μ' := by
  refine ⟨fun j hj => ?_, ?_, ?_⟩
  · show RG _ _ (if j = i then G else σ.1 j)
    by_cases e : j = i
    · rw [if_pos e, e]; exact hG
    · rw [if_neg e]
      exact (hr.1 j hj).fw (ok.1 j hj).1 hf (by omega)
  · have := hr.2.1
    show RH σ.2.1 _
    unfold RH at this ⊢
    rw [hf.1.i (c := 125) (by omega), hf.1.i (c := 127) (by omega)]
    exact this
  · have := hr.2.2
    show RT σ.2.2 _
    unfold RT at this ⊢
    rw [hf.1.i (c := 125) (by omega), hf.1.i (c := 128) (by omega)]
    exact this
theorem LM_setEdge (a b c d : Int32) {μ : HMem} (h : SI μ) : Fc (f_Law_setEdge a b c d μ) (f_Model_setEdge a b c d) := by
  obtain ⟨σ, ok, hc, hr⟩ := h
  unfold Fc f_Law_setEdge f_Bench_setEdge
  rcases ix_g a (n := 4) (by omega) with ha | ⟨i, hi, rfl⟩
  · rw [e_graphAtX ha, bdx_r, bdt_r]
    refine w_ret ?_
    unfold f_Model_setEdge f_Model_setEdge_J18
    rw [e_isVG ha, bd_some]
    exact w_t (by decide) (w_ret (Q_err ok hc hr (by decide) _))
  · rw [e_graphAt hi, bdx_l]
    have hri := hr.1 i hi
    have hci := hc.1 i hi
    have hn := (ok.1 i hi).1
    rcases ix_g b (n := (σ.1 i).1) (by omega) with hb | ⟨u, hu, rfl⟩
    · rw [e_reqVX hci hb, bdx_r, bdt_r]
      refine w_ret ?_
      unfold f_Model_setEdge f_Model_setEdge_J18
      rw [e_isVX hi hri hn hb, bd_some]
      exact w_t (by decide) (w_ret (Q_err ok hc hr (by decide) _))
    · rw [e_reqV hci hn hu, bdx_l]
      rcases ix_g c (n := (σ.1 i).1) (by omega) with hb | ⟨v, hv, rfl⟩
      · rw [e_reqVX hci hb, bdx_r, bdt_r]
        refine w_ret ?_
        unfold f_Model_setEdge f_Model_setEdge_J18
        rw [e_isV hi hri hn hu, bd_some, e_isVX hi hri hn hb, bd_some]
        exact w_f (by decide) (w_f (by decide) (w_ret (Q_err ok hc hr (by decide) _)))
      · rw [e_reqV hci hn hv, bdx_l]
        by_cases hw : d < -2 ∨ 2 < d
        · rw [e_reqRX hw, bdx_r, bdt_r]
          refine w_ret ?_
          unfold f_Model_setEdge f_Model_setEdge_J18
          rw [e_isV hi hri hn hu, bd_some, e_isV hi hri hn hv, bd_some, e_inX hw, bd_some]
          exact w_f (by decide) (w_t (by decide) (w_f (by decide) (w_ret (Q_err ok hc hr (by decide) _))))
        · rw [e_reqR hw, bdx_l]
          have w1 : -2 ≤ d := Int32.not_lt.mp (fun h => hw (Or.inl h))
          have w2 : d ≤ 2 := Int32.not_lt.mp (fun h => hw (Or.inr h))
          refine w_try (w_bdl (s_save ok hc (fun m1 a1 a2 => ?_)))
          have hci1 := a1.1 i hi
          refine w_bde (e_between (isg_g hi) hci1 hn hu hv) ?_
          refine w_bdk (s_join (isg_g hi) hci1 hn hu hv d (fun m2 b1 b2 => ?_))
          refine w_ret ?_
          show wp _ _
          rw [e_out]
          refine w_ret ?_
          have r2 := (hr.fr (a2.trans b2 (a := 0) (b := 88) (by omega) (by omega) (by omega) (by omega)) (by omega)).wl 143 0 (Int32.toInt64 (((push σ).1 i).2.2 u v))
          unfold f_Model_setEdge f_Model_setEdge_J18
          rw [e_isV hi (r2.1 i hi) hn hu, bd_some, e_isV hi (r2.1 i hi) hn hv, bd_some, e_inT hw, bd_some]
          refine w_f (by decide) (w_t (by decide) (w_t (by decide) ?_))
          refine w_bdk (s_msave ok r2 (fun m3 d1 d2 d3 d4 => ?_))
          refine w_bde (e_mbetween (by omega) hn (d1.1 i hi) hu hv) ?_
          refine w_bdk (s_puts (by omega) hn (d1.1 i hi) hu hv d (fun m4 e1 e2 => ?_))
          refine w_ret ⟨⟨setG (push σ) i (jn ((push σ).1 i) u v d), ok_setG (ok_push ok) i ((ok.1 i hi).jn u v w1 w2), ?_, RS.set (ok_push ok) hi d1 e2 e1⟩, ?_, fun _ => ?_⟩
          · exact ((CS.set hi a1 b2 b1).wl 143 0 _).fr (d2.trans e2.1 (a := 125) (b := 128) (by omega) (by omega) (by omega) (by omega)) (by omega)
          · rw [e2.1.i (by omega)]; exact d4
          · rw [e2.1.l (by omega), d2.l (by omega), wl_s]
            rfl
/-- numbers of edges -/
theorem edN_al (E : Nat → Nat → Int32) (n : Nat) : alN E n = edN E false n + edN E true n := by
  unfold alN edN
  rw [← sm_add]
  refine sm_ext (fun u _ => ?_)
  rw [cn_sm, cn_sm, cn_sm, ← sm_add]
  refine sm_ext (fun v _ => ?_)
  unfold edP
  by_cases e : u = v
  · subst e
    cases decide (E u u = 0) <;> simp
  · have e' : decide (u = v) = false := decide_eq_false e
    rw [e']
    cases decide (E u v = 0) <;> simp
theorem cn_one {p : Nat → Bool} {u : Nat} (b : Bool) : ∀ n, (∀ v, v < n → p v = (b && decide (v = u))) → u < n → cn p n = if b then 1 else 0
  | 0, _, h => absurd h (Nat.not_lt_zero _)
  | n + 1, hp, h => by
    rw [cn_s]
    rcases Nat.lt_or_ge u n with h1 | h1
    · rw [cn_one b n (fun v hv => hp v (by omega)) h1, hp n (by omega)]
      have : ¬ n = u := by omega
      simp [this]
    · have e : u = n := by omega
      subst e
      rw [cn_zero (fun v hv => by rw [hp v (by omega)]; have : ¬ v = u := by omega
                                  simp [this]), hp u (by omega)]
      cases b <;> simp
theorem edN_lo (E : Nat → Nat → Int32) (n : Nat) : edN E true n = cn (fun v => !decide (E v v = 0)) n := by
  unfold edN
  rw [cn_sm]
  refine sm_ext (fun u hu => ?_)
  rw [cn_one (u := u) (!decide (E u u = 0)) n (fun v _ => ?_) hu]
  unfold edP
  by_cases e : v = u
  · subst e
    cases decide (E v v = 0) <;> simp
  · have e' : ¬ u = v := fun h => e h.symm
    simp [e, e']
theorem e_loopCount {μ : HMem} {g : Nat} {G : HG} (hg : IsG g) (h : CG μ g G) (hn : G.1 ≤ 8) : f_Graph_loopCount g μ = some (nI (edN G.2.2 true G.1), μ) := by
  have key : wp (f_Graph_loopCount g μ) (fun r μ' => r = nI (edN G.2.2 true G.1) ∧ μ' = μ) := by
    unfold f_Graph_loopCount
    refine w_bdk (s_loops hg h hn (fun r hr => ?_))
    have h8 : S8 r := fun i hi => by
      cases hb : bt r i with
      | false => rfl
      | true => have := ((hr i).mp hb).1; omega
    refine w_bde (f_bitCount h8 _) ?_
    refine w_ret ⟨?_, rfl⟩
    rw [edN_lo]
    have e8 := cn_add (p := bt r) G.1 (8 - G.1) (fun i h1 _ => by
      cases hb : bt r i with
      | false => rfl
      | true => have := ((hr i).mp hb).1; omega)
    rw [show G.1 + (8 - G.1) = 8 by omega] at e8
    rw [e8]
    congr 1
    refine cn_ext (fun v hv => ?_)
    cases hb : bt r v with
    | true =>
      have := ((hr v).mp hb).2
      simp [this]
    | false =>
      by_cases c : G.2.2 v v = 0
      · simp [c]
      · rw [(hr v).mpr ⟨hv, c⟩] at hb; cases hb
  obtain ⟨r, μ', e, rfl, rfl⟩ := key
  exact e
theorem loN_ed {G : HG} (h : GV G) : loN G.2.2 G.1 = edN G.2.2 false G.1 := by
  unfold loN edN
  have e1 : ∀ u, u < G.1 → cn (fun v => !decide (G.2.2 u v = 0)) u = sm (fun v => if (decide (v < u) && !decide (G.2.2 u v = 0)) = true then 1 else 0) G.1 := by
    intro u hu
    rw [← cn_sm]
    have := cn_add (p := fun v => decide (v < u) && !decide (G.2.2 u v = 0)) u (G.1 - u) (fun i h1 _ => by
      have : ¬ i < u := by omega
      simp [this])
    rw [show u + (G.1 - u) = G.1 by omega] at this
    rw [this]
    refine cn_ext (fun v hv => ?_)
    simp [hv]
  rw [sm_ext e1, sm_comm]
  refine sm_ext (fun v hv => ?_)
  rw [cn_sm]
  refine sm_ext (fun u hu => ?_)
  unfold edP
  rw [(h.2.2 u v hu hv).1]
  by_cases e : v = u
  · subst e; simp
  · have e' : decide (v = u) = false := decide_eq_false e
    rw [e']
    rcases Nat.lt_or_ge v u with h1 | h1
    · have : v ≤ u := by omega
      simp [h1, this]
    · have h2 : ¬ v ≤ u := by omega
      have h3 : ¬ v < u := by omega
      simp [h2, h3]
theorem LM_make (a b c : Int32) {μ : HMem} (h : SI μ) : Fc (f_Law_make a b c μ) (f_Model_make a b c) := by
  obtain ⟨σ, ok, hc, hr⟩ := h
  unfold Fc f_Law_make f_Bench_make
  rcases ix_g a (n := 4) (by omega) with ha | ⟨i, hi, rfl⟩
  · rw [e_graphAtX ha, bdx_r, bdt_r]
    refine w_ret ?_
    unfold f_Model_make
    rw [e_isGX ha, bd_some]
    exact w_f (by decide) (w_ret (Q_err ok hc hr (by decide) _))
  · rw [e_graphAt hi, bdx_l]
    have hri := hr.1 i hi
    by_cases hb : b < 0 ∨ 4 < b
    · rw [e_reqRX hb, bdx_r, bdt_r]
      refine w_ret ?_
      unfold f_Model_make f_Model_make_J32
      rw [e_isG hi, bd_some, e_inX hb, bd_some]
      exact w_t (by decide) (w_t (by decide) (w_ret (Q_err ok hc hr (by decide) _)))
    · rw [e_reqR hb, bdx_l]
      by_cases hs : c < 0 ∨ 8 < c
      · rw [e_reqRX hs, bdx_r, bdt_r]
        refine w_ret ?_
        unfold f_Model_make f_Model_make_J32
        rw [e_isG hi, bd_some, e_inT hb, bd_some, e_inX hs, bd_some]
        exact w_t (by decide) (w_f (by decide) (w_f (by decide) (w_ret (Q_err ok hc hr (by decide) _))))
      · rw [e_reqR hs, bdx_l]
        obtain ⟨fam, hf, rfl⟩ := rg_n (n := 4) (by omega) hb
        obtain ⟨n, hn, rfl⟩ := rg_n (n := 8) (by omega) hs
        have hG := GV_fm (fam := fam) hn
        refine w_try (w_bdl (s_save ok hc (fun m1 a1 a2 => ?_)))
        refine w_bdl (s_reset (isg_g hi) hn (fun m2 b1 b2 => ?_))
        refine w_bdl (s_joinFamily (isg_g hi) hn b1 hf (fun m3 c1 c2 => ?_))
        refine w_bde (s_edgeCount (isg_g hi) c1 hG) ?_
        refine w_bde (e_loopCount (isg_g hi) c1 hG.1) ?_
        refine w_ret ?_
        show wp _ _
        rw [e_out, nI_add, ← edN_al]
        refine w_ret ?_
        have hf3 : Fr (4 * i) (4 * i + 4) m1 m3 := b2.trans c2 (by omega) (by omega) (by omega) (by omega)
        have hr2 := (hr.fr (a2.trans hf3 (a := 0) (b := 88) (by omega) (by omega) (by omega) (by omega)) (by omega)).wl 143 0 (Int32.toInt64 (nI (alN (fmG fam n).2.2 (fmG fam n).1)))
        unfold f_Model_make
        rw [e_isG hi, bd_some, e_inT hb, bd_some, e_inT hs, bd_some]
        refine w_t (by decide) (w_f (by decide) (w_t (by decide) ?_))
        refine w_bdk (s_begins (k := 4) (by omega) hn (fun m4 d1 d2 => ?_))
        refine s_makeL hn d1 hf _ _ (fun m5 e1 e2 => ?_)
        unfold f_Model_make_J103
        have e3 := d2.trans e2 (lo := 292) (hi := 365) (by omega) (by omega) (by omega) (by omega)
        refine w_bdk (s_keeps ok (hr2.fw ok e3 (by omega)) hi e1 hn (fun m6 g1 g2 g3 => ?_))
        refine w_ret ⟨⟨setG (push σ) i _, ok_setG (ok_push ok) i hG, ?_, g1⟩, g3, fun _ => ?_⟩
        · exact ((CS.set hi a1 hf3 c1).wl 143 0 _).fr (e3.1.trans g2 (a := 125) (b := 128) (by omega) (by omega) (by omega) (by omega)) (by omega)
        · rw [g2.l (by omega), e3.1.l (by omega), wl_s]
          rfl
theorem LM_random (a b c d : Int32) {μ : HMem} (h : SI μ) : Fc (f_Law_random a b c d μ) (f_Model_random a b c d) := by
  obtain ⟨σ, ok, hc, hr⟩ := h
  unfold Fc f_Law_random f_Bench_random
  rcases ix_g a (n := 4) (by omega) with ha | ⟨i, hi, rfl⟩
  · rw [e_graphAtX ha, bdx_r, bdt_r]
    refine w_ret ?_
    unfold f_Model_random
    rw [e_isGX ha, bd_some]
    exact w_f (by decide) (w_ret (Q_err ok hc hr (by decide) _))
  · rw [e_graphAt hi, bdx_l]
    have hri := hr.1 i hi
    by_cases hs : b < 0 ∨ 8 < b
    · rw [e_reqRX hs, bdx_r, bdt_r]
      refine w_ret ?_
      unfold f_Model_random f_Model_random_J44
      rw [e_isG hi, bd_some, e_inX hs, bd_some]
      exact w_t (by decide) (w_t (by decide) (w_ret (Q_err ok hc hr (by decide) _)))
    · rw [e_reqR hs, bdx_l]
      by_cases h3 : c < 0 ∨ 999999 < c
      · rw [e_reqRX h3, bdx_r, bdt_r]
        refine w_ret ?_
        unfold f_Model_random f_Model_random_J44
        rw [e_isG hi, bd_some, e_inT hs, bd_some, e_inX h3, bd_some]
        exact w_t (by decide) (w_f (by decide) (w_t (by decide) (w_ret (Q_err ok hc hr (by decide) _))))
      · rw [e_reqR h3, bdx_l]
        by_cases h4 : d < 0 ∨ 100 < d
        · rw [e_reqRX h4, bdx_r, bdt_r]
          refine w_ret ?_
          unfold f_Model_random f_Model_random_J44
          rw [e_isG hi, bd_some, e_inT hs, bd_some, e_inT h3, bd_some, e_inX h4, bd_some]
          exact w_t (by decide) (w_f (by decide) (w_f (by decide) (w_f (by decide) (w_ret (Q_err ok hc hr (by decide) _)))))
        · rw [e_reqR h4, bdx_l]
          obtain ⟨n, hn, rfl⟩ := rg_n (n := 8) (by omega) hs
          have hG := GV_rs hn (Int32.toInt64 c) d
          refine w_try (w_bdl (s_save ok hc (fun m1 a1 a2 => ?_)))
          refine w_bdl (s_reset (isg_g hi) hn (fun m2 b1 b2 => ?_))
          refine w_bdl (s_joinRandomly (isg_g hi) hn b1 c d (fun m3 c1 c2 => ?_))
          refine w_bde (s_edgeCount (isg_g hi) c1 hG) ?_
          refine w_ret ?_
          show wp _ _
          rw [e_out, ← loN_ed hG]
          refine w_ret ?_
          have hf3 : Fr (4 * i) (4 * i + 4) m1 m3 := b2.trans c2 (by omega) (by omega) (by omega) (by omega)
          have hr2 := (hr.fr (a2.trans hf3 (a := 0) (b := 88) (by omega) (by omega) (by omega) (by omega)) (by omega)).wl 143 0 (Int32.toInt64 (nI (loN (rsG n (Int32.toInt64 c) d).2.2 (rsG n (Int32.toInt64 c) d).1)))
          unfold f_Model_random
          rw [e_isG hi, bd_some, e_inT hs, bd_some, e_inT h3, bd_some, e_inT h4, bd_some]
          refine w_t (by decide) (w_f (by decide) (w_f (by decide) (w_t (by decide) ?_)))
          refine w_bdk (s_begins (k := 4) (by omega) hn (fun m4 d1 d2 => ?_))
          refine w_let ?_
          refine s_randomL hn d1 _ _ _ _ (fun m5 e1 e2 => ?_)
          unfold f_Model_random_J140
          have e3 := d2.trans e2 (lo := 292) (hi := 365) (by omega) (by omega) (by omega) (by omega)
          refine w_bdk (s_keeps ok (hr2.fw ok e3 (by omega)) hi e1 hn (fun m6 g1 g2 g3 => ?_))
          refine w_ret ⟨⟨setG (push σ) i _, ok_setG (ok_push ok) i hG, ?_, g1⟩, g3, fun _ => ?_⟩
          · exact ((CS.set hi a1 hf3 c1).wl 143 0 _).fr (e3.1.trans g2 (a := 125) (b := 128) (by omega) (by omega) (by omega) (by omega)) (by omega)
          · rw [g2.l (by omega), e3.1.l (by omega), wl_s]
            rfl
