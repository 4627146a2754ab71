/-! 53: combine, undo, append, clearText -/
theorem cn_full {n : Nat} (hn : n ≤ 8) : ∀ i, i ≤ n → cn (bt (fullS n)) i = i
  | 0, _ => rfl
  | i + 1, h => by
    rw [cn_s, cn_full hn i (by omega), b_full hn]
    have : i < n := by omega
    simp [this]
theorem sel_full {n i : Nat} (hn : n ≤ 8) (hi : i < n) : sel (bt (fullS n)) n i = i := by
  have := sel_rk (p := bt (fullS n)) hi (by rw [b_full hn]; simp [hi])
  rw [cn_full hn i (by omega)] at this
  exact this
theorem pl_un {X Y : HG} (hX : GV X) (hY : GV Y) : GE (plG (plG (X.1 + Y.1, fun _ => 1, fun _ _ => 0) X (bt (fullS X.1)) 0) Y (bt (fullS Y.1)) X.1) (unG X Y) := by
  have cX := cn_full hX.1 X.1 (Nat.le_refl _)
  have cY := cn_full hY.1 Y.1 (Nat.le_refl _)
  refine ⟨rfl, fun v hv => ?_, fun u v hu hv => ?_⟩
  · have hv' : v < X.1 + Y.1 := hv
    show (if X.1 ≤ v ∧ v < X.1 + cn (bt (fullS Y.1)) Y.1 then Y.2.1 (sel (bt (fullS Y.1)) Y.1 (v - X.1)) else (if 0 ≤ v ∧ v < 0 + cn (bt (fullS X.1)) X.1 then X.2.1 (sel (bt (fullS X.1)) X.1 (v - 0)) else 1)) = unW X Y v
    rw [cX, cY]
    unfold unW
    by_cases c : v < X.1
    · rw [if_neg (by omega), if_pos (by omega), if_pos c, show v - 0 = v by omega, sel_full hX.1 c]
    · rw [if_pos (by omega), if_neg c, sel_full hY.1 (by omega)]
  · have hu' : u < X.1 + Y.1 := hu
    have hv' : v < X.1 + Y.1 := hv
    show (if (X.1 ≤ u ∧ u < X.1 + cn (bt (fullS Y.1)) Y.1) ∧ (X.1 ≤ v ∧ v < X.1 + cn (bt (fullS Y.1)) Y.1) then Y.2.2 (sel (bt (fullS Y.1)) Y.1 (u - X.1)) (sel (bt (fullS Y.1)) Y.1 (v - X.1)) else (if (0 ≤ u ∧ u < 0 + cn (bt (fullS X.1)) X.1) ∧ (0 ≤ v ∧ v < 0 + cn (bt (fullS X.1)) X.1) then X.2.2 (sel (bt (fullS X.1)) X.1 (u - 0)) (sel (bt (fullS X.1)) X.1 (v - 0)) else 0)) = unT X Y u v
    rw [cX, cY]
    unfold unT
    by_cases c1 : u < X.1 ∧ v < X.1
    · rw [if_neg (by omega), if_pos (by omega), if_pos c1, show u - 0 = u by omega, show v - 0 = v by omega, sel_full hX.1 c1.1, sel_full hX.1 c1.2]
    · by_cases c2 : X.1 ≤ u ∧ X.1 ≤ v
      · rw [if_pos (by omega), if_neg c1, if_pos c2, sel_full hY.1 (by omega), sel_full hY.1 (by omega)]
      · rw [if_neg (by omega), if_neg (by omega), if_neg c1, if_neg c2]
/-- the end of a call that has made the draft and the reference's MADE -/
theorem end_made {σ : HS} {m1 m2 : HMem} (ok : OKs σ) {i : Nat} (hi : i < 4) {G : HG} (hG : GV G) (c1 : CS (push σ) m1) (hf : Fr 16 20 m1 m2) (hd : CG m2 16 G) {Q : (Int32 ⊕ Nat) → HMem → Prop} (hQ : ∀ m3, CS (setG (push σ) i G) m3 → Fr 0 20 m1 m3 → Q (.inl (nI G.1)) m3) : wp (h_bd (f_Graph_copyFrom (4 * i) 16 m2) (fun _ μ => some (.inl (μ.1 (4 * i) 0), μ))) Q := by
  refine w_bdl (s_copyFrom (isg_g hi) ⟨by omega, by omega⟩ (by omega) hd hG.1 (fun m3 b1 b2 => ?_))
  rw [b1.1]
  refine w_ret (hQ m3 (CS.set hi (c1.fr hf (by omega)) b2 b1) (hf.trans b2 (by omega) (by omega) (by omega) (by omega)))
theorem LM_combine (a x y k : Int32) {μ : HMem} (h : SI μ) : Fc (f_Law_combine a x y k μ) (f_Model_combine a x y k) := by
  obtain ⟨σ, ok, hc, hr⟩ := h
  unfold Fc f_Law_combine f_Bench_combine
  rcases ix_g a (n := 4) (by omega) with ha | ⟨i, hi, rfl⟩
  · rw [e_graphAtX ha, bdx_r, bdt_r]
    refine w_ret ?_
    unfold f_Model_combine f_Model_combine_J21
    rw [e_isGX ha, bd_some]
    exact w_t (by decide) (w_ret (Q_err ok hc hr (by decide) _))
  · rw [e_graphAt hi, bdx_l]
    rcases ix_g x (n := 4) (by omega) with ha | ⟨p, hp, rfl⟩
    · rw [e_graphAtX ha, bdx_r, bdt_r]
      refine w_ret ?_
      unfold f_Model_combine f_Model_combine_J21
      rw [e_isG hi, bd_some, e_isGX ha, bd_some]
      exact w_f (by decide) (w_t (by decide) (w_ret (Q_err ok hc hr (by decide) _)))
    · rw [e_graphAt hp, bdx_l]
      rcases ix_g y (n := 4) (by omega) with ha | ⟨q, hq, rfl⟩
      · rw [e_graphAtX ha, bdx_r, bdt_r]
        refine w_ret ?_
        unfold f_Model_combine f_Model_combine_J21
        rw [e_isG hi, bd_some, e_isG hp, bd_some, e_isGX ha, bd_some]
        exact w_f (by decide) (w_f (by decide) (w_f (by decide) (w_ret (Q_err ok hc hr (by decide) _))))
      · rw [e_graphAt hq, bdx_l]
        by_cases hb : k < 0 ∨ 2 < k
        · rw [e_reqRX hb, bdx_r, bdt_r]
          refine w_ret ?_
          unfold f_Model_combine
          rw [e_isG hi, bd_some, e_isG hp, bd_some, e_isG hq, bd_some, e_inX hb, bd_some]
          exact w_f (by decide) (w_f (by decide) (w_t (by decide) (w_f (by decide) (w_ret (Q_err ok hc hr (by decide) _)))))
        · rw [e_reqR hb, bdx_l]
          obtain ⟨kd, hk, rfl⟩ := rg_n (n := 2) (by omega) hb
          have hX := ok.1 p hp
          have hY := ok.1 q hq
          have cX := (hc.1 p hp).1
          have cY := (hc.1 q hq).1
          have hX8 := hX.1
          have hY8 := hY.1
          rw [cX, cY, pk_mul, nI_add]
          /- the reference's way there -/
          have refgo : ∀ (N : Nat), (nI N = if ¬ nI kd = 0 then nI ((σ.1 p).1 * (σ.1 q).1) else nI ((σ.1 p).1 + (σ.1 q).1)) → ∀ (m : HMem) (Q : Int32 → HMem → Prop), RS σ m → wp (f_Model_combine_J73 (nI i) (nI p) (nI q) (nI kd) (nI N) m) Q → wp (f_Model_combine (nI i) (nI p) (nI q) (nI kd) m) Q := by
            intro N hN m Q hrm hw
            unfold f_Model_combine
            rw [e_isG hi, bd_some, e_isG hp, bd_some, e_isG hq, bd_some, e_inT hb, bd_some]
            refine w_f (by decide) (w_f (by decide) (w_t (by decide) (w_t (by decide) ?_)))
            by_cases h0 : nI kd = 0
            · rw [if_neg (fun h => h h0)] at hN ⊢
              rw [e_msize (by omega) (hrm.1 p hp), bd_some, e_msize (by omega) (hrm.1 q hq), bd_some, nI_add, ← hN]
              exact hw
            · rw [if_pos h0] at hN ⊢
              rw [e_msize (by omega) (hrm.1 p hp), bd_some, e_msize (by omega) (hrm.1 q hq), bd_some, pk_mul, ← hN]
              exact hw
          /- too many vertices -/
          have big : ∀ N, N < 100 → (nI N = if ¬ nI kd = 0 then nI ((σ.1 p).1 * (σ.1 q).1) else nI ((σ.1 p).1 + (σ.1 q).1)) → ¬ N ≤ 8 → wp (h_bdt (f_Bench_combine_J58 (nI kd) (4 * i) (4 * p) (4 * q) (nI N) μ) (fun e => List.lookup e [(1, 1), (2, 2), (3, 3)]) (fun r8 μ_8 => h_chk 0 (h_len 143) (h_let (h_wl μ_8 143 (Int32.toNatClampNeg (0)) (Int32.toInt64 r8)) (fun μ_12 => some ((0 : Int32), μ_12))))) (fun k1 μ1 => wp (f_Model_combine (nI i) (nI p) (nI q) (nI kd) μ1) (fun b μ2 => FcQ k1 (fun _ => Int32.toInt64 b) μ2)) := by
            intro N hN hNe h8
            unfold f_Bench_combine_J58
            have h8' : ¬ nI N ≤ (8 : Int32) := nI_ge (a := 8) (by omega) (by omega)
            rw [if_neg h8', bdt_r]
            refine w_ret ?_
            refine refgo N hNe _ _ hr ?_
            unfold f_Model_combine_J73
            exact w_f h8' (w_ret (Q_err ok hc hr (by decide) _))
          /- made -/
          have good : ∀ N (G : HG), G.1 = N → (nI N = if ¬ nI kd = 0 then nI ((σ.1 p).1 * (σ.1 q).1) else nI ((σ.1 p).1 + (σ.1 q).1)) → N ≤ 8 → GV G → (∀ m1, CS (push σ) m1 → Fr 0 88 μ m1 → ∀ (Q : (Int32 ⊕ Nat) → HMem → Prop), (∀ m2, CG m2 16 G → Fr 16 20 m1 m2 → wp (f_Bench_combine_J161 (4 * i) m2) Q) → ∀ m0, CG m0 16 (N, fun _ => 1, fun _ _ => 0) → Fr 16 20 m1 m0 → wp (if ¬ nI kd = 0 then if ¬ nI kd = (2 : Int32) then f_Bench_combine_J158 (4 * i) 0 (4 * q) (4 * p) m0 else f_Bench_combine_J158 (4 * i) 1 (4 * q) (4 * p) m0 else h_bd (f_Graph_all (4 * p) m0) (fun r110 μ_110 => h_bd (f_Graph_place 16 (4 * p) r110 0 μ_110) (fun _ μ_114 => h_bd (f_Graph_all (4 * q) μ_114) (fun r125 μ_125 => h_bd (f_Graph_place 16 (4 * q) r125 (μ_125.1 (4 * p) 0) μ_125) (fun _ μ_133 => f_Bench_combine_J161 (4 * i) μ_133))))) Q) → (∀ m1, RS σ m1 → ∀ (Q : Int32 → HMem → Prop), (∀ m2, RG (m2.1 126) 292 G → Fw 292 365 m1 m2 → wp (f_Model_combine_J115 (nI i) m2) Q) → wp (if ¬ nI kd = 0 then if ¬ nI kd = (2 : Int32) then f_Model_combine_J112 (nI i) 0 (nI q) (nI p) m1 else f_Model_combine_J112 (nI i) 1 (nI q) (nI p) m1 else h_bd (f_Model_unites (nI p) (nI q) m1) (fun _ μ_92 => f_Model_combine_J115 (nI i) μ_92)) Q) → wp (h_bdt (f_Bench_combine_J58 (nI kd) (4 * i) (4 * p) (4 * q) (nI N) μ) (fun e => List.lookup e [(1, 1), (2, 2), (3, 3)]) (fun r8 μ_8 => h_chk 0 (h_len 143) (h_let (h_wl μ_8 143 (Int32.toNatClampNeg (0)) (Int32.toInt64 r8)) (fun μ_12 => some ((0 : Int32), μ_12))))) (fun k1 μ1 => wp (f_Model_combine (nI i) (nI p) (nI q) (nI kd) μ1) (fun b μ2 => FcQ k1 (fun _ => Int32.toInt64 b) μ2)) := by
            intro N G eN hNe h8 hG hcls href
            have h8' : nI N ≤ (8 : Int32) := nI_le (b := 8) h8 (by omega)
            unfold f_Bench_combine_J58
            rw [if_pos h8']
            refine w_try (w_bdl (s_save ok hc (fun m1 a1 a2 => ?_)))
            refine w_bdl (s_reset ⟨by omega, by omega⟩ h8 (fun m0 b1 b2 => ?_))
            refine hcls m1 a1 (a2.wide (by omega) (by omega)) _ (fun m2 d1 d2 => ?_) m0 b1 b2
            unfold f_Bench_combine_J161
            refine end_made ok hi hG a1 d2 d1 (fun m3 e1 e2 => ?_)
            show wp _ _
            rw [e_out]
            refine w_ret ?_
            have hr2 := (hr.fr (a2.trans e2 (a := 0) (b := 88) (by omega) (by omega) (by omega) (by omega)) (by omega)).wl 143 0 (Int32.toInt64 (nI G.1))
            refine refgo N hNe _ _ hr2 ?_
            unfold f_Model_combine_J73
            refine w_t h8' ?_
            refine href _ hr2 _ (fun m4 g1 g2 => ?_)
            unfold f_Model_combine_J115
            refine w_bdk (s_keeps ok (hr2.fw ok g2 (by omega)) hi g1 hG.1 (fun m5 h1 h2 h3 => ?_))
            refine w_bde (e_msize (by omega) (h1.1 i hi)) ?_
            refine w_ret ⟨⟨setG (push σ) i G, ok_setG (ok_push ok) i hG, ?_, h1⟩, h3, fun _ => ?_⟩
            · exact (e1.wl 143 0 _).fr (g2.1.trans h2 (a := 125) (b := 128) (by omega) (by omega) (by omega) (by omega)) (by omega)
            · rw [h2.l (by omega), g2.1.l (by omega), wl_s, setG_i]
          have mulbd : (σ.1 p).1 * (σ.1 q).1 < 100 := Nat.lt_of_le_of_lt (Nat.mul_le_mul hX8 hY8) (by omega)
          have prod : ∀ b : Bool, nI kd = (if b then 2 else 1) → wp (h_bdt (if ¬ nI kd = 0 then f_Bench_combine_J58 (nI kd) (4 * i) (4 * p) (4 * q) (nI ((σ.1 p).1 * (σ.1 q).1)) μ else f_Bench_combine_J58 (nI kd) (4 * i) (4 * p) (4 * q) (nI ((σ.1 p).1 + (σ.1 q).1)) μ) (fun e => List.lookup e [(1, 1), (2, 2), (3, 3)]) (fun r8 μ_8 => h_chk 0 (h_len 143) (h_let (h_wl μ_8 143 (Int32.toNatClampNeg (0)) (Int32.toInt64 r8)) (fun μ_12 => some ((0 : Int32), μ_12))))) (fun k1 μ1 => wp (f_Model_combine (nI i) (nI p) (nI q) (nI kd) μ1) (fun b μ2 => FcQ k1 (fun _ => Int32.toInt64 b) μ2)) := by
            intro b hkb
            have h0 : ¬ nI kd = 0 := by rw [hkb]; cases b <;> decide
            rw [if_pos h0]
            have hNe : nI ((σ.1 p).1 * (σ.1 q).1) = if ¬ nI kd = 0 then nI ((σ.1 p).1 * (σ.1 q).1) else nI ((σ.1 p).1 + (σ.1 q).1) := by rw [if_pos h0]
            by_cases h8 : (σ.1 p).1 * (σ.1 q).1 ≤ 8
            · refine good _ (prG (σ.1 p) (σ.1 q) b) rfl hNe h8 (GV_pr hX hY b h8) ?_ ?_
              · intro m1 a1 a2 Q hQ m0 b1 b2
                refine w_t h0 ?_
                have go : ∀ v : Int32, v = bI b → wp (f_Bench_combine_J158 (4 * i) v (4 * q) (4 * p) m0) Q := by
                  rintro v rfl
                  unfold f_Bench_combine_J158
                  refine w_bdl (s_multiply ⟨by omega, by omega⟩ (isg_g hp) (isg_g hq) (by omega) (by omega) hX hY ((a1.1 p hp).fr b2 (by omega)) ((a1.1 q hq).fr b2 (by omega)) h8 b b1 (fun m2 d1 d2 => ?_))
                  exact hQ m2 d1 (b2.trans d2 (by omega) (by omega) (by omega) (by omega))
                cases b with
                | false => exact w_t (by rw [hkb]; decide) (go 0 rfl)
                | true => exact w_f (by rw [hkb]; decide) (go 1 rfl)
              · intro m1 r1 Q hQ
                refine w_t h0 ?_
                have go : ∀ v : Int32, v = bI b → wp (f_Model_combine_J112 (nI i) v (nI q) (nI p) m1) Q := by
                  rintro v rfl
                  unfold f_Model_combine_J112
                  exact w_bdk (s_multiplies hp hq hX hY (r1.1 p hp) (r1.1 q hq) h8 b (fun m2 d1 d2 => hQ m2 d1 d2))
                cases b with
                | false => exact w_t (by rw [hkb]; decide) (go 0 rfl)
                | true => exact w_f (by rw [hkb]; decide) (go 1 rfl)
            · exact big _ mulbd hNe h8
          rcases (by omega : kd = 0 ∨ kd = 1 ∨ kd = 2) with rfl | rfl | rfl
          · have h0 : nI 0 = 0 := rfl
            rw [if_neg (fun h => h h0)]
            have hNe : nI ((σ.1 p).1 + (σ.1 q).1) = if ¬ nI 0 = 0 then nI ((σ.1 p).1 * (σ.1 q).1) else nI ((σ.1 p).1 + (σ.1 q).1) := by rw [if_neg (fun h => h h0)]
            by_cases h8 : (σ.1 p).1 + (σ.1 q).1 ≤ 8
            · refine good _ (unG (σ.1 p) (σ.1 q)) rfl hNe h8 (GV_un hX hY h8) ?_ ?_
              · intro m1 a1 a2 Q hQ m0 b1 b2
                refine w_f (fun h => h h0) ?_
                have cp := (a1.1 p hp).fr b2 (by omega)
                refine w_bde (e_all cp hX8) ?_
                refine w_bdk (s_place (s := 0) (G0 := ((σ.1 p).1 + (σ.1 q).1, fun _ => 1, fun _ _ => 0)) ⟨by omega, by omega⟩ (isg_g hp) (by omega) (fullS (σ.1 p).1) hX cp (by show 0 + cn (bt (fullS (σ.1 p).1)) (σ.1 p).1 ≤ (σ.1 p).1 + (σ.1 q).1; rw [cn_full hX8 _ (Nat.le_refl _)]; omega) h8 b1 (fun m2 d1 d2 => ?_))
                have f2 : Fr 16 20 m1 m2 := b2.trans d2 (by omega) (by omega) (by omega) (by omega)
                have cq := (a1.1 q hq).fr f2 (by omega)
                refine w_bde (e_all cq hY8) ?_
                rw [((a1.1 p hp).fr f2 (by omega)).1]
                refine w_bdk (s_place (s := (σ.1 p).1) ⟨by omega, by omega⟩ (isg_g hq) (by omega) (fullS (σ.1 q).1) hY cq (by show (σ.1 p).1 + cn (bt (fullS (σ.1 q).1)) (σ.1 q).1 ≤ (σ.1 p).1 + (σ.1 q).1; rw [cn_full hY8 _ (Nat.le_refl _)]; omega) h8 d1 (fun m3 e1 e2 => ?_))
                exact hQ m3 (e1.congr (pl_un hX hY)) (f2.trans e2 (by omega) (by omega) (by omega) (by omega))
              · intro m1 r1 Q hQ
                refine w_f (fun h => h h0) ?_
                exact w_bdk (s_unites hp hq hX hY (r1.1 p hp) (r1.1 q hq) h8 (fun m2 d1 d2 => hQ m2 d1 d2))
            · exact big _ (by omega) hNe h8
          · exact prod false rfl
          · exact prod true rfl
theorem LM_undo {μ : HMem} (h : SI μ) : Fc (f_Law_undo μ) f_Model_undo := by
  obtain ⟨σ, ok, hc, hr⟩ := h
  obtain ⟨o, ho, c1, c2, c3⟩ := hc.2.1
  unfold Fc f_Law_undo f_Bench_undo
  have h4 := ok.2.1
  by_cases h0 : σ.2.1.1 = 0
  · rw [c2, h0, if_neg (fun h => h rfl), bdt_r]
    refine w_ret ?_
    unfold f_Model_undo
    rw [hr.2.1.1, h0]
    exact w_f (fun h => h rfl) (w_ret (Q_err ok hc hr (by decide) _))
  · have hne : ¬ nI σ.2.1.1 = 0 := nI_ne0 (by omega) (by omega)
    rw [c2, if_pos hne]
    refine w_try (w_bdl (s_restore ok hc (by omega) (fun m1 a1 a2 => ?_)))
    refine w_ret ?_
    show wp _ _
    rw [e_out]
    refine w_ret ?_
    have hr1 := (hr.fr a2 (by omega)).wl 143 0 (Int32.toInt64 (m1.1 86 2))
    obtain ⟨o2, _, d1, d2, _⟩ := a1.2.1
    have hv : Int32.toInt64 (m1.1 86 2) = Int32.toInt64 (nI (σ.2.1.1 - 1)) := by rw [d2]
    generalize hm2 : h_wl m1 143 0 (Int32.toInt64 (m1.1 86 2)) = m2 at hr1
    have ho2 : m2.2 143 0 = Int32.toInt64 (nI (σ.2.1.1 - 1)) := by rw [← hm2, wl_s, hv]
    have hc2 : CS (σ.2.1.2 (σ.2.1.1 - 1), (σ.2.1.1 - 1, σ.2.1.2), σ.2.2) m2 := by rw [← hm2]; exact a1
    unfold f_Model_undo
    obtain ⟨r1, ⟨r2, r3⟩, r4, r5⟩ := hr1
    rw [r2]
    refine w_t hne ?_
    refine w_let ?_
    have e1 : nI σ.2.1.1 - 1 = nI (σ.2.1.1 - 1) := by
      obtain ⟨q, hq⟩ : ∃ q, σ.2.1.1 = q + 1 := ⟨σ.2.1.1 - 1, by omega⟩
      rw [hq, nI_pred]
      rfl
    rw [e1]
    have f0 : Fr 125 126 m2 (h_wi m2 125 2 (nI (σ.2.1.1 - 1))) := Fr.wi (by omega) (by omega)
    have q2 : (h_wi m2 125 2 (nI (σ.2.1.1 - 1))).1 125 2 = nI (σ.2.1.1 - 1) := wi_s _ _ _ _
    have q4 : (h_wi m2 125 2 (nI (σ.2.1.1 - 1))).1 125 4 = nI σ.2.2.1 := by rw [wi_n _ _ (by omega)]; exact r4
    generalize h_wi m2 125 2 (nI (σ.2.1.1 - 1)) = m3 at f0 q2 q4
    refine w_for (fun f i (m : HMem) => wp (f_Model_undo_L25 f_Model_undo_J59 f (nI i) m) _) (fun i m => Fr 126 127 m3 m ∧ (∀ j, j < i → m.1 126 j = m3.1 127 (292 * (σ.2.1.1 - 1) + j))) 292 ?_ ?_ 0 m3 (by omega) (by omega) ⟨Fr.refl _ _ _, fun j hj => absurd hj (Nat.not_lt_zero _)⟩
    · rintro f m ⟨g1, g2⟩
      show wp (f_Model_undo_L25_b f_Model_undo_J59 (f_Model_undo_L25 f_Model_undo_J59 f) (nI 292) m) _
      unfold f_Model_undo_L25_b f_Model_undo_J59
      refine w_t (by decide) ?_
      refine w_bde (e_tells _ _) ?_
      have e2 : m.1 125 2 = nI (σ.2.1.1 - 1) := by rw [g1.i (by omega)]; exact q2
      have ok' : OKs (σ.2.1.2 (σ.2.1.1 - 1), (σ.2.1.1 - 1, σ.2.1.2), σ.2.2) := ⟨fun i hi => ok.2.2.1 _ i (by omega) hi, (by show σ.2.1.1 - 1 ≤ 4; omega), fun j i hj hi => ok.2.2.1 j i (by have : j < σ.2.1.1 - 1 := hj; omega) hi, ok.2.2.2⟩
      have fm : Fr 125 127 m2 m := f0.trans g1 (by omega) (by omega) (by omega) (by omega)
      refine w_ret (Q_ok ok' (hc2.fr fm (by omega)) ⟨fun i hi => ?_, ⟨e2, fun j i hj hi => ?_⟩, ?_, fun k hk => ?_⟩ (x := Int32.toInt64 (nI (σ.2.1.1 - 1))) ?_ ?_)
      · refine RG.shift (f := m2.1 127) (b := 292 * (σ.2.1.1 - 1) + 73 * i) (ok.2.2.1 _ i (by omega) hi).1 (r3 _ i (by omega) hi) (fun j hj => ?_)
        rw [g2 _ (by omega), f0.i (by omega), Nat.add_assoc]
      · rw [fm.i (by omega)]
        exact r3 j i (by have : j < σ.2.1.1 - 1 := hj; omega) hi
      · rw [g1.i (by omega)]; exact q4
      · rw [fm.i (by omega)]; exact r5 k hk
      · rw [fm.l (by omega)]; exact ho2
      · show Int32.toInt64 (m.1 125 2) = _
        rw [e2]
    · rintro f i m hi ⟨g1, g2⟩ ih
      show wp (f_Model_undo_L25_b f_Model_undo_J59 (f_Model_undo_L25 f_Model_undo_J59 f) (nI i) m) _
      unfold f_Model_undo_L25_b
      refine w_f (nI_ge (b := 292) hi (by omega)) ?_
      have e2 : m.1 125 2 = nI (σ.2.1.1 - 1) := by rw [g1.i (by omega)]; exact q2
      rw [e2, m292]
      refine w_chk (in_N (by rw [show h_len 127 = 1168 from rfl]; omega) (by decide)) ?_
      refine w_chk (in_N (by rw [show h_len 126 = 438 from rfl]; omega) (by decide)) ?_
      refine w_let ?_
      refine w_let ?_
      rw [nI_1, cl_8 (by omega), cl_8 (by omega)]
      refine ih _ ⟨g1.trans (Fr.wi (by omega) (by omega)) (Nat.le_refl _) (Nat.le_refl _) (Nat.le_refl 126) (Nat.le_refl 127), fun j hj => ?_⟩
      rw [wi_e]
      by_cases e : j = i
      · rw [if_pos ⟨rfl, e⟩, e, g1.i (by omega)]
      · rw [if_neg (by omega)]; exact g2 j (by omega)
