/-! 55: vertex, edge, folds -/
theorem w_down {σ : Type} (P : Nat → Nat → σ → Prop) (I : Nat → σ → Prop) (he : ∀ k s, I 0 s → P (k + 1) 0 s) (hs : ∀ k i s, I (i + 1) s → (∀ s', I i s' → P k i s') → P (k + 1) (i + 1) s) (i0 : Nat) (s0 : σ) (hf : i0 < 1000000000000) (h0 : I i0 s0) : P h_fuel i0 s0 := by
  have key : ∀ k i s, i < k → I i s → P k i s := by
    intro k
    induction k with
    | zero => intro i s h; exact absurd h (Nat.not_lt_zero _)
    | succ k ih =>
      intro i s hi hI
      cases i with
      | zero => exact he k s hI
      | succ i => exact hs k i s hI (fun s' hI' => ih i s' (by omega) hI')
  exact key h_fuel i0 s0 (by unfold h_fuel; omega) h0
theorem dn (j : Nat) : nI j + (-1) = nI j - 1 := by
  cases j with
  | zero => decide
  | succ j => rw [pk_m1, nI_pred]
theorem dn0 : (nI 0 - 1 : Int32) < 0 := by decide
theorem dnS {j : Nat} (h : j < 2000) : ¬ (nI (j + 1) - 1 : Int32) < 0 := by rw [nI_pred]; exact nI_pos (by omega)
theorem dnN {j : Nat} (h : j < 2000) : ¬ nI j = (-1 : Int32) := by
  intro e
  have h1 : (nI j).toInt = j := nI_toInt (by omega)
  rw [e] at h1
  have h2 : (-1 : Int32).toInt = -1 := by decide
  omega
theorem LM_vertex (a b c : Int32) {μ : HMem} (h : SI μ) : Fc (f_Law_vertex a b c μ) (f_Model_vertex a b c) := by
  obtain ⟨σ, ok, hc, hr⟩ := h
  unfold Fc f_Law_vertex f_Bench_vertex
  rcases ix_g a (n := 4) (by omega) with ha | ⟨i, hi, rfl⟩
  · rw [e_graphAtX ha, bdx_r, bdt_r]
    refine w_ret ?_
    unfold f_Model_vertex
    rw [e_isVG ha, bd_some]
    exact w_f (by decide) (w_ret (Q_err ok hc hr (by decide) _))
  · rw [e_graphAt hi, bdx_l]
    have hri := hr.1 i hi
    have hci := hc.1 i hi
    have hV := ok.1 i hi
    have hn := hV.1
    rcases ix_g b (n := (σ.1 i).1) (by omega) with hb | ⟨v, hv, rfl⟩
    · rw [e_reqVX hci hb, bdx_r, bdt_r]
      refine w_ret ?_
      unfold f_Model_vertex
      rw [e_isVX hi hri hn hb, bd_some]
      exact w_f (by decide) (w_ret (Q_err ok hc hr (by decide) _))
    · rw [e_reqV hci hn hv, bdx_l]
      by_cases hw : c < 0 ∨ 2 < c
      · rw [e_reqRX hw, bdx_r, bdt_r]
        refine w_ret ?_
        unfold f_Model_vertex
        rw [e_isV hi hri hn hv, bd_some, e_inX hw, bd_some]
        exact w_t (by decide) (w_f (by decide) (w_ret (Q_err ok hc hr (by decide) _)))
      · rw [e_reqR hw, bdx_l]
        obtain ⟨w, hw2, rfl⟩ := rg_n (n := 2) (by omega) hw
        have hnear : ∀ (m : HMem) (Q : Int32 → HMem → Prop), RS σ m → Q (μ.1 (4 * i + 3) v) m → wp (f_Model_near (nI i) (nI v) m) Q := by
          intro m Q hrm hQ
          refine s_near (by omega) hn (hrm.1 i hi) hv (fun r hr => ?_)
          have : r = μ.1 (4 * i + 3) v := b_ext (fun u _ => by
            have h1 := hr u
            have h2 := hci.2.2.2 v u (by omega)
            cases hb1 : bt r u with
            | true =>
              obtain ⟨h3, h4⟩ := h1.mp hb1
              exact (h2.mpr ⟨hv, h3, by rw [(hV.2.2 v u hv h3).1]; exact h4⟩).symm
            | false =>
              cases hb2 : bt (μ.1 (4 * i + 3) v) u with
              | false => rfl
              | true =>
                obtain ⟨_, h3, h4⟩ := h2.mp hb2
                rw [h1.mpr ⟨h3, by rw [(hV.2.2 u v h3 hv).1]; exact h4⟩] at hb1
                cases hb1)
          rw [this]
          exact hQ
        have h8 : S8 (μ.1 (4 * i + 3) v) := near_S8 hci hn (by omega)
        rcases (by omega : w = 0 ∨ w = 1 ∨ w = 2) with rfl | rfl | rfl
        · rw [if_pos (by decide), chk_in (by rw [len_1 (isg_g hi)]; exact in_N (by omega) (by omega)), cl_8 (by omega), hci.2.1 v hv]
          refine LM_obs ok (r := (σ.1 i).2.1 v) (w_ret ⟨rfl, hc, hr⟩) (fun m2 c2 r2 => ?_)
          unfold f_Model_vertex f_Model_vertex_J67
          rw [e_isV hi (r2.1 i hi) hn hv, bd_some, e_inT hw, bd_some]
          refine w_t (by decide) (w_t (by decide) (w_f (by decide) ?_))
          refine w_bde (e_mweight (by omega) hn (r2.1 i hi) hv) ?_
          exact w_ret (ob_tell c2 r2 rfl _)
        · rw [if_neg (by decide), if_pos (by decide), chk_in (by rw [len_3 (isg_g hi)]; exact in_N (by omega) (by omega)), cl_8 (by omega), f_bitCount h8]
          refine LM_obs ok (r := nI (cn (bt (μ.1 (4 * i + 3) v)) 8)) (w_ret ⟨rfl, hc, hr⟩) (fun m2 c2 r2 => ?_)
          unfold f_Model_vertex f_Model_vertex_J67
          rw [e_isV hi (r2.1 i hi) hn hv, bd_some, e_inT hw, bd_some]
          refine w_t (by decide) (w_t (by decide) (w_t (by decide) (w_f (by decide) ?_)))
          refine w_bdk (hnear m2 _ r2 ?_)
          refine w_bde (e_bits h8 _) ?_
          exact w_ret (ob_tell c2 r2 rfl _)
        · rw [if_neg (by decide), if_neg (by decide), chk_in (by rw [len_3 (isg_g hi)]; exact in_N (by omega) (by omega)), cl_8 (by omega)]
          refine LM_obs ok (r := μ.1 (4 * i + 3) v) (w_ret ⟨rfl, hc, hr⟩) (fun m2 c2 r2 => ?_)
          unfold f_Model_vertex f_Model_vertex_J67
          rw [e_isV hi (r2.1 i hi) hn hv, bd_some, e_inT hw, bd_some]
          refine w_t (by decide) (w_t (by decide) (w_t (by decide) (w_t (by decide) ?_)))
          refine w_bdk (hnear m2 _ r2 ?_)
          exact w_ret (ob_tell c2 r2 rfl _)
theorem LM_edge (a b c : Int32) {μ : HMem} (h : SI μ) : Fc (f_Law_edge a b c μ) (f_Model_edge a b c) := by
  obtain ⟨σ, ok, hc, hr⟩ := h
  unfold Fc f_Law_edge f_Bench_edge
  rcases ix_g a (n := 4) (by omega) with ha | ⟨i, hi, rfl⟩
  · rw [e_graphAtX ha, bdx_r, bdt_r]
    refine w_ret ?_
    unfold f_Model_edge f_Model_edge_J32 f_Model_edge_J37
    rw [e_isVG ha, bd_some]
    exact w_t (by decide) (w_ret (Q_err ok hc hr (by decide) _))
  · rw [e_graphAt hi, bdx_l]
    have hri := hr.1 i hi
    have hci := hc.1 i hi
    have hn := (ok.1 i hi).1
    rcases ix_g b (n := (σ.1 i).1) (by omega) with hb | ⟨u, hu, rfl⟩
    · rw [e_reqVX hci hb, bdx_r, bdt_r]
      refine w_ret ?_
      unfold f_Model_edge f_Model_edge_J32 f_Model_edge_J37
      rw [e_isVX hi hri hn hb, bd_some]
      exact w_t (by decide) (w_ret (Q_err ok hc hr (by decide) _))
    · rw [e_reqV hci hn hu, bdx_l]
      rcases ix_g c (n := (σ.1 i).1) (by omega) with hb | ⟨v, hv, rfl⟩
      · rw [e_reqVX hci hb, bdx_r, bdt_r]
        refine w_ret ?_
        unfold f_Model_edge f_Model_edge_J32 f_Model_edge_J37
        rw [e_isV hi hri hn hu, bd_some, e_isVX hi hri hn hb, bd_some]
        exact w_f (by decide) (w_t (by decide) (w_ret (Q_err ok hc hr (by decide) _)))
      · rw [e_reqV hci hn hv, bdx_l, e_between (isg_g hi) hci hn hu hv]
        refine LM_obs ok (r := (σ.1 i).2.2 u v) (w_ret ⟨rfl, hc, hr⟩) (fun m2 c2 r2 => ?_)
        unfold f_Model_edge f_Model_edge_J32 f_Model_edge_J37
        rw [e_isV hi (r2.1 i hi) hn hu, bd_some, e_isV hi (r2.1 i hi) hn hv, bd_some]
        refine w_f (by decide) (w_f (by decide) ?_)
        refine w_bde (e_mbetween (by omega) hn (r2.1 i hi) hu hv) ?_
        exact w_ret (ob_tell c2 r2 rfl _)
/-- u can be folded onto v inside a set -/
def FT (X : HG) (K : Nat → Prop) (u v : Nat) : Prop := (v < X.1 ∧ v ≠ u ∧ K v) ∧ (∀ o, o < X.1 → K o → o ≠ u → ¬ X.2.2 u o = 0 → ¬ X.2.2 v o = 0) ∧ (¬ X.2.2 u u = 0 → ¬ X.2.2 v v = 0)
theorem s_foldTargets {μ : HMem} {g : Nat} {G : HG} (hg : IsG g) (h : CG μ g G) (hn : G.1 ≤ 8) {u : Nat} (hu : u < G.1) (set : Int32) {Q : Int32 → HMem → Prop} (hQ : ∀ r, (∀ v, bt r v = true ↔ FT G (fun o => bt set o = true) u v) → Q r μ) : wp (f_Graph_foldTargets g (nI u) set μ) Q := by
  unfold f_Graph_foldTargets
  refine w_chk (by rw [len_3 hg]; exact in_N (by omega) (by omega)) ?_
  refine w_let ?_
  refine w_chk (by rw [len_3 hg]; exact in_N (by omega) (by omega)) ?_
  rw [cl_8 (by omega)]
  refine w_bde (e_has _ (by omega) _) ?_
  have ho : ∀ o, bt ((μ.1 (g + 3) u &&& set) &&& (h_ishl 1 (nI u) ^^^ -1)) o = true ↔ (o < G.1 ∧ ¬ G.2.2 u o = 0) ∧ bt set o = true ∧ o ≠ u := by
    intro o
    rw [b_not, b_and, b_one (by omega), Bool.and_eq_true, Bool.and_eq_true, h.2.2.2 u o (by omega), Bool.not_eq_true', decide_eq_false_iff_not]
    constructor
    · rintro ⟨⟨⟨_, h1, h2⟩, h3⟩, h4⟩; exact ⟨⟨h1, h2⟩, h3, h4⟩
    · rintro ⟨⟨h1, h2⟩, h3, h4⟩; exact ⟨⟨⟨hu, h1, h2⟩, h3⟩, h4⟩
  generalize ((μ.1 (g + 3) u &&& set) &&& (h_ishl 1 (nI u) ^^^ -1)) = oth at ho
  have hl : bt (μ.1 (g + 3) u) u = true ↔ ¬ G.2.2 u u = 0 := by
    rw [h.2.2.2 u u (by omega)]
    exact ⟨fun h => h.2.2, fun h => ⟨hu, hu, h⟩⟩
  generalize bt (μ.1 (g + 3) u) u = lp at hl
  refine w_for (fun k i (x : Int32) => wp (f_Graph_foldTargets_L33 k g (nI u) set oth (bI lp) x (nI i) μ) Q) (fun i x => ∀ v, bt x v = true ↔ v < i ∧ FT G (fun o => bt set o = true) u v) G.1 ?_ ?_ 0 0 (by omega) (by omega) ?_
  · intro k x hx
    show wp (f_Graph_foldTargets_L33_b (f_Graph_foldTargets_L33 k) g (nI u) set oth (bI lp) x (nI G.1) μ) Q
    unfold f_Graph_foldTargets_L33_b
    refine w_t (by rw [h.1]; exact Int32.le_refl _) ?_
    exact w_ret (hQ x (fun v => by rw [hx v]; exact ⟨fun h => h.2, fun h => ⟨h.1.1, h⟩⟩))
  · intro k i x hi hx ih
    show wp (f_Graph_foldTargets_L33_b (f_Graph_foldTargets_L33 k) g (nI u) set oth (bI lp) x (nI i) μ) Q
    unfold f_Graph_foldTargets_L33_b
    refine w_f (by rw [h.1]; exact nI_ge hi (by omega)) ?_
    have keep : ¬ FT G (fun o => bt set o = true) u i → ∀ v, bt x v = true ↔ v < i + 1 ∧ FT G (fun o => bt set o = true) u v := by
      intro hnf v
      rw [hx v]
      constructor
      · rintro ⟨h1, h2⟩; exact ⟨by omega, h2⟩
      · rintro ⟨h1, h2⟩
        rcases Nat.lt_or_ge v i with h3 | h3
        · exact ⟨h3, h2⟩
        · have : v = i := by omega
          subst this
          exact absurd h2 hnf
    have go : ∀ need : Int32, (∀ o, bt need o = true ↔ bt oth o = true ∨ (lp = true ∧ o = i)) → wp (f_Graph_foldTargets_J57 (f_Graph_foldTargets_L33 k) g (nI u) set oth (bI lp) x (nI i) need μ) Q := by
      intro need hneed
      unfold f_Graph_foldTargets_J57 f_Graph_foldTargets_J98
      refine w_if (fun e => ?_) (fun e => ?_)
      · have e := (eqI (by omega) (by omega)).mp e
        refine w_let ?_
        rw [nI_1]
        exact ih x (keep (fun hf => hf.1.2.1 e))
      · have e : ¬ i = u := fun h => e (by rw [h])
        refine w_bde (e_has _ (by omega) _) ?_
        refine w_if (fun hb => ?_) (fun hb => ?_)
        · rw [bI_0] at hb
          refine w_let ?_
          rw [nI_1]
          refine ih x (keep (fun hf => ?_))
          have this : bt set i = true := hf.1.2.2
          rw [hb] at this
          cases this
        · rw [bI_n] at hb
          refine w_chk (by rw [len_3 hg]; exact in_N (by omega) (by omega)) ?_
          rw [cl_8 (by omega)]
          have hz : need &&& (μ.1 (g + 3) i ^^^ -1) = 0 ↔ FT G (fun o => bt set o = true) u i := by
            rw [b_eq0]
            constructor
            · intro hall
              have h1 : ∀ o, o < 8 → bt need o = true → bt (μ.1 (g + 3) i) o = true := by
                intro o ho8 hn1
                have := hall o (by omega)
                rw [b_not, hn1] at this
                simpa using this
              refine ⟨⟨hi, e, hb⟩, fun o h2 h3 h4 h5 => ?_, fun h2 => ?_⟩
              · exact ((h.2.2.2 i o (by omega)).mp (h1 o (by omega) ((hneed o).mpr (Or.inl ((ho o).mpr ⟨⟨h2, h5⟩, h3, h4⟩))))).2.2
              · exact ((h.2.2.2 i i (by omega)).mp (h1 i (by omega) ((hneed i).mpr (Or.inr ⟨hl.mpr h2, rfl⟩)))).2.2
            · rintro ⟨_, h2, h3⟩ o ho32
              rw [b_not]
              cases hno : bt need o with
              | false => rfl
              | true =>
                have : bt (μ.1 (g + 3) i) o = true := by
                  rw [h.2.2.2 i o (by omega)]
                  rcases (hneed o).mp hno with h4 | ⟨h4, h5⟩
                  · obtain ⟨⟨h5, h6⟩, h7, h8⟩ := (ho o).mp h4
                    exact ⟨hi, h5, h2 o h5 h7 h8 h6⟩
                  · rw [h5]
                    exact ⟨hi, hi, h3 (hl.mp h4)⟩
                rw [this]
                rfl
          refine w_if (fun hh => ?_) (fun hh => ?_)
          · refine w_let ?_
            rw [nI_1]
            exact ih x (keep (fun hf => hh (hz.mpr hf)))
          · have hf := hz.mp (Classical.byContradiction hh)
            refine w_let ?_
            refine w_let ?_
            rw [nI_1]
            refine ih _ (fun v => ?_)
            rw [b_or, Bool.or_eq_true, hx v, b_one (by omega), decide_eq_true_iff]
            constructor
            · rintro (⟨h1, h2⟩ | rfl)
              · exact ⟨by omega, h2⟩
              · exact ⟨by omega, hf⟩
            · rintro ⟨h1, h2⟩
              rcases Nat.lt_or_ge v i with h3 | h3
              · exact Or.inl ⟨h3, h2⟩
              · exact Or.inr (by omega)
    refine w_if (fun hb => ?_) (fun hb => ?_)
    · rw [bI_0] at hb
      exact go oth (fun o => ⟨Or.inl, fun h => h.elim id (fun h => by rw [hb] at h; cases h.1)⟩)
    · rw [bI_n] at hb
      refine go _ (fun o => ?_)
      rw [b_or, Bool.or_eq_true, b_one (by omega), decide_eq_true_iff]
      exact ⟨fun h => h.elim Or.inl (fun h => Or.inr ⟨hb, h⟩), fun h => h.elim Or.inl (fun h => Or.inr h.2)⟩
  · intro v
    rw [b_0]
    simp
theorem e_isFold {μ : HMem} {k : Nat} {G : HG} (hk : k < 6) (hn : G.1 ≤ 8) (h : RG (μ.1 126) (73 * k) G) {u v : Nat} (hu : u < G.1) (hv : v < G.1) : ∃ b, f_Model_isFold (nI k) (nI u) (nI v) μ = some (bI b, μ) ∧ (b = true ↔ FT G (fun _ => True) u v) := by
  have key : wp (f_Model_isFold (nI k) (nI u) (nI v) μ) (fun r μ' => ∃ b, r = bI b ∧ μ' = μ ∧ (b = true ↔ FT G (fun _ => True) u v)) := by
    have main : ∀ b0 : Bool, (b0 = true ↔ v ≠ u) → wp (f_Model_isFold_J10 (nI k) (nI u) (nI v) (bI b0) μ) (fun r μ' => ∃ b, r = bI b ∧ μ' = μ ∧ (b = true ↔ FT G (fun _ => True) u v)) := by
      intro b0 hb0
      unfold f_Model_isFold_J10
      refine w_for (fun f i (x : Bool) => wp (f_Model_isFold_L15 f_Model_isFold_J75 f (nI k) (nI u) (nI v) (bI x) (nI i) μ) _) (fun i x => x = true ↔ v ≠ u ∧ ∀ o, o < i → ¬ G.2.2 u o = 0 → ¬ G.2.2 v (if o = u then v else o) = 0) G.1 ?_ ?_ 0 b0 (by omega) (by omega) ?_
      · intro f x hx
        show wp (f_Model_isFold_L15_b f_Model_isFold_J75 (f_Model_isFold_L15 f_Model_isFold_J75 f) (nI k) (nI u) (nI v) (bI x) (nI G.1) μ) _
        unfold f_Model_isFold_L15_b f_Model_isFold_J75
        refine w_bde (e_msize hk h) ?_
        refine w_t (Int32.le_refl _) ?_
        rw [e_J]
        refine w_ret ⟨x, rfl, rfl, ?_⟩
        rw [hx]
        constructor
        · rintro ⟨h1, h2⟩
          refine ⟨⟨hv, h1, trivial⟩, fun o h3 _ h4 h5 => ?_, fun h3 => ?_⟩
          · have := h2 o h3 h5
            rw [if_neg h4] at this
            exact this
          · have := h2 u hu h3
            rw [if_pos rfl] at this
            exact this
        · rintro ⟨⟨_, h1, _⟩, h2, h3⟩
          refine ⟨h1, fun o h4 h5 => ?_⟩
          by_cases e : o = u
          · rw [if_pos e]
            subst e
            exact h3 h5
          · rw [if_neg e]
            exact h2 o h4 trivial e h5
      · intro f i x hi hx ih
        show wp (f_Model_isFold_L15_b f_Model_isFold_J75 (f_Model_isFold_L15 f_Model_isFold_J75 f) (nI k) (nI u) (nI v) (bI x) (nI i) μ) _
        unfold f_Model_isFold_L15_b
        refine w_bde (e_msize hk h) ?_
        refine w_f (nI_ge hi (by omega)) ?_
        refine w_if (fun hb => ?_) (fun hb => ?_)
        · rw [bI_0] at hb
          subst hb
          unfold f_Model_isFold_J75
          rw [e_J]
          refine w_ret ⟨false, rfl, rfl, ?_⟩
          constructor
          · intro h; cases h
          · rintro ⟨⟨_, h1, _⟩, h2, h3⟩
            refine hx.mpr ⟨h1, fun o h4 h5 => ?_⟩
            by_cases e : o = u
            · rw [if_pos e]
              subst e
              exact h3 h5
            · rw [if_neg e]
              exact h2 o (by omega) trivial e h5
        · rw [bI_n] at hb
          subst hb
          obtain ⟨x1, x2⟩ := hx.mp rfl
          refine w_bde (e_isNear hk hn h hu hi) ?_
          unfold f_Model_isFold_J62 f_Model_isFold_J56 f_Model_isFold_J67 f_Model_isFold_J62 f_Model_isFold_J67
          refine w_if (fun hb => ?_) (fun hb => ?_)
          · rw [bI_0] at hb
            refine w_let ?_
            rw [nI_1]
            refine ih true ⟨fun _ => ⟨x1, fun o h4 h5 => ?_⟩, fun _ => rfl⟩
            rcases Nat.lt_or_ge o i with h6 | h6
            · exact x2 o h6 h5
            · have : o = i := by omega
              subst this
              simp [h5] at hb
          · rw [bI_n] at hb
            have hE : ¬ G.2.2 u i = 0 := by simpa using hb
            have go : ∀ w, w < G.1 → w = (if i = u then v else i) → wp (h_bd (f_Model_isNear (nI k) (nI v) (nI w) μ) (fun r56 μ_56 => if r56 = 0 then h_let (nI i + 1) (fun v5_69 => f_Model_isFold_L15 f_Model_isFold_J75 f (nI k) (nI u) (nI v) 0 v5_69 μ_56) else h_let (nI i + 1) (fun v5_69 => f_Model_isFold_L15 f_Model_isFold_J75 f (nI k) (nI u) (nI v) 1 v5_69 μ_56))) (fun r μ' => ∃ b, r = bI b ∧ μ' = μ ∧ (b = true ↔ FT G (fun _ => True) u v)) := by
              intro w hw hwe
              refine w_bde (e_isNear hk hn h hv hw) ?_
              refine w_if (fun hb2 => ?_) (fun hb2 => ?_)
              · rw [bI_0] at hb2
                refine w_let ?_
                rw [nI_1]
                refine ih false ⟨fun h => (by cases h), fun hh => ?_⟩
                have := hh.2 i (by omega) hE
                rw [← hwe] at this
                simp [this] at hb2
              · rw [bI_n] at hb2
                refine w_let ?_
                rw [nI_1]
                refine ih true ⟨fun _ => ⟨x1, fun o h4 h5 => ?_⟩, fun _ => rfl⟩
                rcases Nat.lt_or_ge o i with h6 | h6
                · exact x2 o h6 h5
                · have : o = i := by omega
                  subst this
                  rw [← hwe]
                  simpa using hb2
            refine w_if (fun e => ?_) (fun e => ?_)
            · have e : ¬ i = u := fun h => e (by rw [h])
              exact go i hi (by rw [if_neg e])
            · have e := (eqI (by omega) (by omega)).mp (Classical.byContradiction e)
              exact go v hv (by rw [if_pos e])
      · rw [hb0]
        exact ⟨fun h => ⟨h, fun o ho => absurd ho (Nat.not_lt_zero _)⟩, fun h => h.1⟩
    unfold f_Model_isFold
    refine w_if (fun e => ?_) (fun e => ?_)
    · have e := (eqI (by omega) (by omega)).mp e
      exact main false ⟨fun h => (by cases h), fun h => absurd e.symm h⟩
    · exact main true ⟨fun _ h => e (by rw [h]), fun _ => rfl⟩
  obtain ⟨r, μ', e, b, rfl, rfl, hb⟩ := key
  exact ⟨b, e, hb⟩
theorem s_foldsOf {μ : HMem} {k : Nat} {G : HG} (hk : k < 6) (hn : G.1 ≤ 8) (h : RG (μ.1 126) (73 * k) G) {u : Nat} (hu : u < G.1) {Q : Int32 → HMem → Prop} (hQ : ∀ r, (∀ v, bt r v = true ↔ FT G (fun _ => True) u v) → Q r μ) : wp (f_Model_foldsOf (nI k) (nI u) μ) Q := by
  unfold f_Model_foldsOf
  refine w_for (fun f i (x : Int32) => wp (f_Model_foldsOf_L5 f (nI k) (nI u) x (nI i) μ) Q) (fun i x => ∀ v, bt x v = true ↔ v < i ∧ FT G (fun _ => True) u v) G.1 ?_ ?_ 0 0 (by omega) (by omega) ?_
  · intro f x hx
    show wp (f_Model_foldsOf_L5_b (f_Model_foldsOf_L5 f) (nI k) (nI u) x (nI G.1) μ) Q
    unfold f_Model_foldsOf_L5_b
    refine w_bde (e_msize hk h) ?_
    refine w_t (Int32.le_refl _) ?_
    exact w_ret (hQ x (fun v => by rw [hx v]; exact ⟨fun h => h.2, fun h => ⟨h.1.1, h⟩⟩))
  · intro f i x hi hx ih
    show wp (f_Model_foldsOf_L5_b (f_Model_foldsOf_L5 f) (nI k) (nI u) x (nI i) μ) Q
    unfold f_Model_foldsOf_L5_b f_Model_foldsOf_J35
    refine w_bde (e_msize hk h) ?_
    refine w_f (nI_ge hi (by omega)) ?_
    obtain ⟨b, e1, e2⟩ := e_isFold hk hn h hu hi
    refine w_bde e1 ?_
    refine w_if (fun hb => ?_) (fun hb => ?_)
    · rw [bI_0] at hb
      refine w_let ?_
      refine w_let ?_
      rw [nI_1]
      refine ih _ (fun v => ?_)
      rw [b_or, b_0, Bool.or_false, hx v]
      constructor
      · rintro ⟨h1, h2⟩; exact ⟨by omega, h2⟩
      · rintro ⟨h1, h2⟩
        rcases Nat.lt_or_ge v i with h3 | h3
        · exact ⟨h3, h2⟩
        · have : v = i := by omega
          subst this
          rw [e2.mpr h2] at hb; cases hb
    · rw [bI_n] at hb
      refine w_let ?_
      refine w_let ?_
      rw [nI_1]
      refine ih _ (fun v => ?_)
      rw [b_or, Bool.or_eq_true, hx v, b_one (by omega), decide_eq_true_iff]
      constructor
      · rintro (⟨h1, h2⟩ | rfl)
        · exact ⟨by omega, h2⟩
        · exact ⟨by omega, e2.mp hb⟩
      · rintro ⟨h1, h2⟩
        rcases Nat.lt_or_ge v i with h3 | h3
        · exact Or.inl ⟨h3, h2⟩
        · exact Or.inr (by omega)
  · intro v
    rw [b_0]
    simp
theorem FT_full {X : HG} (hn : X.1 ≤ 8) {u v : Nat} : FT X (fun o => bt (fullS X.1) o = true) u v ↔ FT X (fun _ => True) u v := by
  have hb : ∀ o, o < X.1 → bt (fullS X.1) o = true := fun o ho => by rw [b_full hn]; simp [ho]
  constructor
  · rintro ⟨⟨h1, h2, _⟩, h3, h4⟩
    exact ⟨⟨h1, h2, trivial⟩, fun o ho _ => h3 o ho (hb o ho), h4⟩
  · rintro ⟨⟨h1, h2, _⟩, h3, h4⟩
    exact ⟨⟨h1, h2, hb v h1⟩, fun o ho _ => h3 o ho trivial, h4⟩
theorem LM_folds (a b : Int32) {μ : HMem} (h : SI μ) : Fc (f_Law_folds a b μ) (f_Model_folds a b) := by
  obtain ⟨σ, ok, hc, hr⟩ := h
  unfold Fc f_Law_folds f_Bench_folds
  rcases ix_g a (n := 4) (by omega) with ha | ⟨i, hi, rfl⟩
  · rw [e_graphAtX ha, bdx_r, bdt_r]
    refine w_ret ?_
    unfold f_Model_folds f_Model_folds_J27
    rw [e_isVG ha, bd_some]
    exact w_t (by decide) (w_ret (Q_err ok hc hr (by decide) _))
  · rw [e_graphAt hi, bdx_l]
    have hri := hr.1 i hi
    have hci := hc.1 i hi
    have hn := (ok.1 i hi).1
    rcases ix_g b (n := (σ.1 i).1) (by omega) with hb | ⟨v, hv, rfl⟩
    · rw [e_reqVX hci hb, bdx_r, bdt_r]
      refine w_ret ?_
      unfold f_Model_folds f_Model_folds_J27
      rw [e_isVX hi hri hn hb, bd_some]
      exact w_t (by decide) (w_ret (Q_err ok hc hr (by decide) _))
    · rw [e_reqV hci hn hv, bdx_l, e_all hci hn, bd_some]
      have : ∃ r, f_Graph_foldTargets (4 * i) (nI v) (fullS (σ.1 i).1) μ = some (r, μ) ∧ ∀ w, bt r w = true ↔ FT (σ.1 i) (fun o => bt (fullS (σ.1 i).1) o = true) v w := by
        obtain ⟨r, μ', e, h1, rfl⟩ := s_foldTargets (Q := fun r μ' => (∀ w, bt r w = true ↔ FT (σ.1 i) (fun o => bt (fullS (σ.1 i).1) o = true) v w) ∧ μ' = μ) (isg_g hi) hci hn hv (fullS (σ.1 i).1) (fun r hr => ⟨hr, rfl⟩)
        exact ⟨r, e, h1⟩
      obtain ⟨r, e1, e2⟩ := this
      rw [e1]
      refine LM_obs ok (r := r) (w_ret ⟨rfl, hc, hr⟩) (fun m2 c2 r2 => ?_)
      unfold f_Model_folds f_Model_folds_J27
      rw [e_isV hi (r2.1 i hi) hn hv, bd_some]
      refine w_f (by decide) ?_
      refine w_bdk (s_foldsOf (by omega) hn (r2.1 i hi) hv (fun r' hr' => ?_))
      have : r' = r := b_ext (fun w _ => by
        rw [Bool.eq_iff_iff, hr' w, e2 w, FT_full hn])
      rw [this]
      exact w_ret (ob_tell c2 r2 rfl _)
