/-! 56: dismantle -/
noncomputable def lst (P : Nat → Prop) : Nat → Nat
  | 0 => 0
  | n + 1 => if lst P n < n then lst P n else @ite _ (P n) (Classical.propDecidable _) n (n + 1)
theorem lst_sp (P : Nat → Prop) : ∀ n, (lst P n < n ∧ P (lst P n) ∧ ∀ u, u < lst P n → ¬ P u) ∨ (lst P n = n ∧ ∀ u, u < n → ¬ P u)
  | 0 => Or.inr ⟨rfl, fun _ h => absurd h (Nat.not_lt_zero _)⟩
  | n + 1 => by
    rcases lst_sp P n with ⟨h1, h2, h3⟩ | ⟨h1, h2⟩
    · have e : lst P (n + 1) = lst P n := if_pos h1
      rw [e]
      exact Or.inl ⟨by omega, h2, h3⟩
    · have e : lst P (n + 1) = @ite _ (P n) (Classical.propDecidable _) n (n + 1) := if_neg (by omega)
      by_cases hp : P n
      · rw [if_pos hp] at e
        rw [e]
        exact Or.inl ⟨by omega, hp, h2⟩
      · rw [if_neg hp] at e
        rw [e]
        refine Or.inr ⟨rfl, fun u hu => ?_⟩
        rcases Nat.lt_or_ge u n with h | h
        · exact h2 u h
        · have : u = n := by omega
          subst this
          exact hp
theorem lst_eq {P : Nat → Prop} {n v : Nat} (h1 : v < n) (h2 : P v) (h3 : ∀ u, u < v → ¬ P u) : lst P n = v := by
  rcases lst_sp P n with ⟨a, b, c⟩ | ⟨a, b⟩
  · rcases Nat.lt_trichotomy (lst P n) v with h | h | h
    · exact absurd b (h3 _ h)
    · exact h
    · exact absurd h2 (c v h)
  · exact absurd h2 (b v h1)
theorem lst_no {P : Nat → Prop} {n : Nat} (h : ∀ u, u < n → ¬ P u) : lst P n = n := by
  rcases lst_sp P n with ⟨a, b, c⟩ | ⟨a, b⟩
  · exact absurd b (h _ a)
  · exact a
theorem in_cg {X : HG} {p q : Nat → Bool} (h : ∀ v, v < X.1 → p v = q v) : GE (inG X p) (inG X q) := by
  have hs : ∀ n i, n ≤ X.1 → sel p n i = sel q n i := by
    intro n i
    induction n with
    | zero => intro _; rfl
    | succ n ih =>
      intro hn
      unfold sel
      rw [h n (by omega), cn_ext (fun j hj => h j (by omega)), ih (by omega)]
  refine ⟨cn_ext h, fun v _ => ?_, fun u v _ _ => ?_⟩
  · show X.2.1 (sel p X.1 v) = X.2.1 (sel q X.1 v)
    rw [hs _ _ (Nat.le_refl _)]
  · show X.2.2 (sel p X.1 u) (sel p X.1 v) = X.2.2 (sel q X.1 u) (sel q X.1 v)
    rw [hs _ _ (Nat.le_refl _), hs _ _ (Nat.le_refl _)]
theorem cn_co (K p : Nat → Bool) : ∀ v, cn (fun v => K v && p (cn K v)) v = cn p (cn K v)
  | 0 => rfl
  | v + 1 => by
    rw [cn_s, cn_s, cn_co K p v]
    cases hk : K v with
    | false => simp
    | true =>
      show _ = cn p (cn K v + 1)
      rw [cn_s]
      simp
theorem in_in (X : HG) (K p : Nat → Bool) : GE (inG (inG X K) p) (inG X (fun v => K v && p (cn K v))) := by
  have hs : ∀ j, j < cn p (cn K X.1) → sel (fun v => K v && p (cn K v)) X.1 j = sel K X.1 (sel p (cn K X.1) j) := by
    intro j hj
    obtain ⟨a1, a2, a3⟩ := sel_sp hj
    obtain ⟨b1, b2, b3⟩ := sel_sp a1
    have := sel_rk (p := fun v => K v && p (cn K v)) b1 (by simp [b2, b3, a2])
    rw [cn_co, b3, a3] at this
    exact this
  refine ⟨(cn_co K p X.1).symm, fun v hv => ?_, fun u v hu hv => ?_⟩
  · show X.2.1 (sel K X.1 (sel p (cn K X.1) v)) = X.2.1 (sel (fun v => K v && p (cn K v)) X.1 v)
    rw [hs v hv]
  · show X.2.2 (sel K X.1 (sel p (cn K X.1) u)) (sel K X.1 (sel p (cn K X.1) v)) = X.2.2 (sel (fun v => K v && p (cn K v)) X.1 u) (sel (fun v => K v && p (cn K v)) X.1 v)
    rw [hs u hu, hs v hv]
/-- one vertex dropped -/
theorem in_drop {X : HG} (hX : X.1 ≤ 8) {K : Nat → Bool} {a : Nat} (ha : a < cn K X.1) : GE (inG (inG X K) (bt (fullS (cn K X.1) &&& (h_ishl 1 (nI a) ^^^ -1)))) (inG X (fun v => K v && !decide (v = sel K X.1 a))) := by
  have hle := cn_le K X.1
  refine (in_in X K _).trans (in_cg (fun v hv => ?_))
  obtain ⟨b1, b2, b3⟩ := sel_sp ha
  show (K v && bt (fullS (cn K X.1) &&& (h_ishl 1 (nI a) ^^^ -1)) (cn K v)) = _
  rw [b_not, b_full (by omega), b_one (by omega)]
  cases hk : K v with
  | false => rfl
  | true =>
    have h1 : cn K v < cn K X.1 := cn_st hk hv
    have h2 : (cn K v = a) ↔ v = sel K X.1 a := by
      constructor
      · intro e
        have := sel_rk hv hk
        rw [e] at this
        exact this.symm
      · intro e; rw [e, b3]
    by_cases e : v = sel K X.1 a
    · have e2 := h2.mpr e
      rw [decide_eq_true e, decide_eq_true e2]
      simp
    · have e2 : ¬ cn K v = a := fun h => e (h2.mp h)
      rw [decide_eq_false e, decide_eq_false e2]
      simp [h1]
theorem FT_in {X : HG} {K : Nat → Bool} {a b : Nat} (ha : a < cn K X.1) (hb : b < cn K X.1) : FT (inG X K) (fun _ => True) a b ↔ FT X (fun o => K o = true) (sel K X.1 a) (sel K X.1 b) := by
  obtain ⟨a1, a2, a3⟩ := sel_sp ha
  obtain ⟨b1, b2, b3⟩ := sel_sp hb
  constructor
  · rintro ⟨⟨_, h1, _⟩, h2, h3⟩
    refine ⟨⟨b1, fun e => h1 ?_, b2⟩, fun o ho ko hne he => ?_, h3⟩
    · rw [← a3, ← b3, e]
    · have hso := sel_rk ho ko
      have := h2 (cn K o) (cn_st ko ho) trivial (fun e => hne (by rw [← hso, e])) (by show ¬ X.2.2 _ _ = 0; rw [hso]; exact he)
      have t : ¬ X.2.2 (sel K X.1 b) (sel K X.1 (cn K o)) = 0 := this
      rw [hso] at t
      exact t
  · rintro ⟨⟨_, h1, _⟩, h2, h3⟩
    refine ⟨⟨hb, fun e => h1 (by rw [e]), trivial⟩, fun o ho _ hne he => ?_, h3⟩
    obtain ⟨o1, o2, o3⟩ := sel_sp ho
    exact h2 _ o1 o2 (fun e => hne (by rw [← o3, e, a3])) he
noncomputable def stF (X : HG) (K : Nat → Bool) : Nat := lst (fun v => K v = true ∧ ∃ w, FT X (fun o => K o = true) v w) X.1
noncomputable def stK (X : HG) : Nat → Nat → Bool
  | 0 => fun v => decide (v < X.1)
  | t + 1 => fun v => stK X t v && !decide (v = stF X (stK X t))
theorem stK_lt {X : HG} : ∀ {t v : Nat}, stK X t v = true → v < X.1
  | 0, v, h => by simpa [stK] using h
  | t + 1, v, h => by
    have : stK X t v = true := by
      unfold stK at h
      simp at h
      exact h.1
    exact stK_lt this
theorem stK_fix {X : HG} {t : Nat} (h : stF X (stK X t) = X.1) : ∀ d, stK X (t + d) = stK X t
  | 0 => rfl
  | d + 1 => by
    show (fun v => stK X (t + d) v && !decide (v = stF X (stK X (t + d)))) = _
    rw [stK_fix h d, h]
    funext v
    cases hk : stK X t v with
    | false => rfl
    | true =>
      have := stK_lt hk
      have : ¬ v = X.1 := by omega
      simp [this]
theorem s_lowestFoldable {μ : HMem} {g : Nat} {G : HG} (hg : IsG g) (h : CG μ g G) (hn : G.1 ≤ 8) (set : Int32) {K : Nat → Bool} (hs : ∀ v, bt set v = K v) {Q : Int32 → HMem → Prop} (hQ : Q (if stF G K < G.1 then nI (stF G K) else -1) μ) : wp (f_Graph_lowestFoldable g set μ) Q := by
  have hs' : (fun o => bt set o = true) = (fun o => K o = true) := funext (fun o => by rw [hs o])
  unfold f_Graph_lowestFoldable
  refine w_for (fun f i (_ : Unit) => wp (f_Graph_lowestFoldable_L2 f g set (nI i) μ) Q) (fun i _ => ∀ v, v < i → ¬ (K v = true ∧ ∃ w, FT G (fun o => K o = true) v w)) G.1 ?_ ?_ 0 () (by omega) (by omega) (fun v hv => absurd hv (Nat.not_lt_zero _))
  · intro f _ hI
    show wp (f_Graph_lowestFoldable_L2_b (f_Graph_lowestFoldable_L2 f) g set (nI G.1) μ) Q
    unfold f_Graph_lowestFoldable_L2_b
    refine w_t (by rw [h.1]; exact Int32.le_refl _) ?_
    refine w_ret ?_
    have e : stF G K = G.1 := lst_no hI
    rw [if_neg (by omega)] at hQ
    exact hQ
  · intro f i _ hi hI ih
    show wp (f_Graph_lowestFoldable_L2_b (f_Graph_lowestFoldable_L2 f) g set (nI i) μ) Q
    unfold f_Graph_lowestFoldable_L2_b f_Graph_lowestFoldable_J29
    refine w_f (by rw [h.1]; exact nI_ge hi (by omega)) ?_
    have next : ¬ (K i = true ∧ ∃ w, FT G (fun o => K o = true) i w) → wp (h_let (nI i + 1) (fun v2_29 => f_Graph_lowestFoldable_L2 f g set v2_29 μ)) Q := by
      intro hno
      refine w_let ?_
      rw [nI_1]
      refine ih () (fun v hv => ?_)
      rcases Nat.lt_or_ge v i with h1 | h1
      · exact hI v h1
      · have : v = i := by omega
        subst this
        exact hno
    refine w_bde (e_has _ (by omega) _) ?_
    refine w_if (fun hb => ?_) (fun hb => ?_)
    · rw [bI_0, hs] at hb
      exact next (fun h => by rw [hb] at h; cases h.1)
    · rw [bI_n, hs] at hb
      refine w_bdk (s_foldTargets hg h hn hi set (fun r hr => ?_))
      rw [hs'] at hr
      refine w_if (fun h0 => ?_) (fun h0 => ?_)
      · refine next (fun h => ?_)
        obtain ⟨w, hw⟩ := h.2
        have := (hr w).mpr hw
        rw [h0, b_0] at this
        cases this
      · refine w_ret ?_
        have hex : ∃ w, FT G (fun o => K o = true) i w := by
          refine Classical.byContradiction (fun hc => h0 (b_eq0.mpr (fun w _ => ?_)))
          cases hb2 : bt r w with
          | false => rfl
          | true => exact absurd ⟨w, (hr w).mp hb2⟩ hc
        have e : stF G K = i := lst_eq hi ⟨hb, hex⟩ hI
        rw [e, if_pos hi] at hQ
        exact hQ
theorem s_stiffPart {μ : HMem} {g : Nat} {G : HG} (hg : IsG g) (h : CG μ g G) (hn : G.1 ≤ 8) {Q : Int32 → HMem → Prop} (hQ : ∀ r, (∀ v, bt r v = stK G G.1 v) → Q r μ) : wp (f_Graph_stiffPart g μ) Q := by
  unfold f_Graph_stiffPart
  refine w_bde (e_all h hn) ?_
  refine w_for (fun f i (x : Int32) => wp (f_Graph_stiffPart_L7 f_Graph_stiffPart_J26 f_Graph_stiffPart_J43 f g x (nI i) μ) Q) (fun i x => ∀ v, bt x v = stK G i v) G.1 ?_ ?_ 0 (fullS G.1) (by omega) (by omega) (fun v => b_full hn v)
  · intro f x hx
    show wp (f_Graph_stiffPart_L7_b f_Graph_stiffPart_J26 f_Graph_stiffPart_J43 (f_Graph_stiffPart_L7 f_Graph_stiffPart_J26 f_Graph_stiffPart_J43 f) g x (nI G.1) μ) Q
    unfold f_Graph_stiffPart_L7_b f_Graph_stiffPart_J43
    refine w_t (by rw [h.1]; exact Int32.le_refl _) ?_
    exact w_ret (hQ x hx)
  · intro f i x hi hx ih
    show wp (f_Graph_stiffPart_L7_b f_Graph_stiffPart_J26 f_Graph_stiffPart_J43 (f_Graph_stiffPart_L7 f_Graph_stiffPart_J26 f_Graph_stiffPart_J43 f) g x (nI i) μ) Q
    unfold f_Graph_stiffPart_L7_b f_Graph_stiffPart_J26 f_Graph_stiffPart_J43
    refine w_f (by rw [h.1]; exact nI_ge hi (by omega)) ?_
    refine w_bdk (s_lowestFoldable hg h hn x hx ?_)
    by_cases hl : stF G (stK G i) < G.1
    · rw [if_pos hl]
      refine w_t (dnN (by omega)) ?_
      refine w_let ?_
      refine w_let ?_
      rw [nI_1]
      refine ih _ (fun v => ?_)
      rw [b_not, b_one (by omega), hx v]
      rfl
    · rw [if_neg hl]
      have e : stF G (stK G i) = G.1 := by
        rcases lst_sp (fun v => stK G i v = true ∧ ∃ w, FT G (fun o => stK G i o = true) v w) G.1 with h1 | h1
        · exact absurd h1.1 hl
        · exact h1.1
      refine w_f (fun h => h rfl) ?_
      refine w_ret (hQ x (fun v => ?_))
      have := stK_fix e (G.1 - i)
      rw [show i + (G.1 - i) = G.1 by omega] at this
      rw [hx v, this]
/-- the reference's lowest -/
theorem s_lowestFolded {μ : HMem} {k : Nat} {G : HG} (hk : k < 6) (hn : G.1 ≤ 8) (h : RG (μ.1 126) (73 * k) G) {Q : Int32 → HMem → Prop} (hno : (∀ v, v < G.1 → ¬ ∃ w, FT G (fun _ => True) v w) → Q (-1) μ) (hyes : ∀ v, v < G.1 → (∃ w, FT G (fun _ => True) v w) → (∀ u, u < v → ¬ ∃ w, FT G (fun _ => True) u w) → Q (nI v) μ) : wp (f_Model_lowestFolded (nI k) μ) Q := by
  unfold f_Model_lowestFolded
  refine w_bde (e_msize hk h) ?_
  refine w_let ?_
  refine w_down (fun f i (x : Int32) => wp (f_Model_lowestFolded_L10 f (nI k) x (nI i - 1) μ) Q) (fun i x => i ≤ G.1 ∧ ((x = -1 ∧ ∀ v, i ≤ v → v < G.1 → ¬ ∃ w, FT G (fun _ => True) v w) ∨ (∃ v, i ≤ v ∧ v < G.1 ∧ x = nI v ∧ (∃ w, FT G (fun _ => True) v w) ∧ ∀ u, i ≤ u → u < v → ¬ ∃ w, FT G (fun _ => True) u w))) ?_ ?_ G.1 (-1) (by omega) ⟨Nat.le_refl _, Or.inl ⟨rfl, fun v h1 h2 => by omega⟩⟩
  · rintro f x ⟨_, hx⟩
    show wp (f_Model_lowestFolded_L10_b (f_Model_lowestFolded_L10 f) (nI k) x (nI 0 - 1) μ) Q
    unfold f_Model_lowestFolded_L10_b
    refine w_t dn0 (w_ret ?_)
    rcases hx with ⟨rfl, hx⟩ | ⟨v, h1, h2, rfl, h3, h4⟩
    · exact hno (fun v hv => hx v (Nat.zero_le _) hv)
    · exact hyes v h2 h3 (fun u hu => h4 u (Nat.zero_le _) hu)
  · rintro f i x ⟨hi, hx⟩ ih
    show wp (f_Model_lowestFolded_L10_b (f_Model_lowestFolded_L10 f) (nI k) x (nI (i + 1) - 1) μ) Q
    unfold f_Model_lowestFolded_L10_b f_Model_lowestFolded_J28
    refine w_f (dnS (by omega)) ?_
    rw [nI_pred]
    refine w_bdk (s_foldsOf hk hn h (by omega) (fun r hr => ?_))
    have hz : r = 0 ↔ ¬ ∃ w, FT G (fun _ => True) i w := by
      constructor
      · rintro rfl ⟨w, hw⟩
        have := (hr w).mpr hw
        rw [b_0] at this
        cases this
      · intro hc
        refine b_eq0.mpr (fun w _ => ?_)
        cases hb2 : bt r w with
        | false => rfl
        | true => exact absurd ⟨w, (hr w).mp hb2⟩ hc
    refine w_if (fun h0 => ?_) (fun h0 => ?_)
    · have h0 := hz.mp h0
      refine w_let ?_
      rw [dn]
      refine ih x ⟨by omega, ?_⟩
      rcases hx with ⟨rfl, hx⟩ | ⟨v, h1, h2, rfl, h3, h4⟩
      · refine Or.inl ⟨rfl, fun v h5 h6 => ?_⟩
        rcases Nat.lt_or_ge i v with h7 | h7
        · exact hx v h7 h6
        · have : v = i := by omega
          subst this; exact h0
      · refine Or.inr ⟨v, by omega, h2, rfl, h3, fun u h5 h6 => ?_⟩
        rcases Nat.lt_or_ge i u with h7 | h7
        · exact h4 u h7 h6
        · have : u = i := by omega
          subst this; exact h0
    · have h0 := Classical.not_not.mp (fun h => h0 (hz.mpr h))
      refine w_let ?_
      rw [dn]
      exact ih (nI i) ⟨by omega, Or.inr ⟨i, Nat.le_refl _, by omega, rfl, h0, fun u h1 h2 => by omega⟩⟩
theorem s_drops {μ : HMem} {X : HG} (hX : GV X) {K : Nat → Bool} (h : RG (μ.1 126) 292 (inG X K)) {a : Nat} (ha : a < cn K X.1) {Q : Unit → HMem → Prop} (hQ : ∀ μ', RG (μ'.1 126) 292 (inG X (fun v => K v && !decide (v = sel K X.1 a))) → Fw 292 438 μ μ' → Q () μ') : wp (f_Model_drops 4 (nI a) μ) Q := by
  have hle := cn_le K X.1
  have hX8 := hX.1
  unfold f_Model_drops
  refine w_bde (e_msize (k := 4) (by omega) h) ?_
  rw [all_k _ (by show cn K X.1 < 9; omega)]
  refine w_bdk (s_induces (k := 4) (by omega) (GV_in hX K) h _ (fun m1 a1 a2 => ?_))
  exact w_ret (hQ m1 (a1.congr (in_drop hX8 ha)) a2)
theorem cn_drop {K : Nat → Bool} {s : Nat} (hk : K s = true) : ∀ n, s < n → cn K n = cn (fun v => K v && !decide (v = s)) n + 1
  | 0, h => absurd h (Nat.not_lt_zero _)
  | n + 1, h => by
    rw [cn_s, cn_s]
    rcases Nat.lt_or_ge s n with h1 | h1
    · rw [cn_drop hk n h1]
      have : ¬ n = s := by omega
      simp [this]
      omega
    · have e : s = n := by omega
      subst e
      have e2 : cn (fun v => K v && !decide (v = s)) s = cn K s := cn_ext (fun v hv => by
        have : ¬ v = s := by omega
        simp [this])
      rw [e2]
      simp [hk]
theorem LM_dismantle (a : Int32) {μ : HMem} (h : SI μ) : Fc (f_Law_dismantle a μ) (f_Model_dismantle a) := by
  obtain ⟨σ, ok, hc, hr⟩ := h
  unfold Fc f_Law_dismantle f_Bench_dismantle
  rcases ix_g a (n := 4) (by omega) with ha | ⟨i, hi, rfl⟩
  · rw [e_graphAtX ha, bdx_r, bdt_r]
    refine w_ret ?_
    unfold f_Model_dismantle
    rw [e_isGX ha, bd_some]
    exact w_f (by decide) (w_ret (Q_err ok hc hr (by decide) _))
  · rw [e_graphAt hi, bdx_l]
    have hV := ok.1 i hi
    have hn := hV.1
    refine w_try (w_bdl (s_save ok hc (fun m1 a1 a2 => ?_)))
    have hc1 : CG m1 (4 * i) (σ.1 i) := a1.1 i hi
    refine w_let ?_
    rw [hc1.1]
    refine w_bdl (s_stiffPart (isg_g hi) hc1 hn (fun r hr' => ?_))
    have hbr : bt r = stK (σ.1 i) (σ.1 i).1 := funext hr'
    refine w_bdl (s_induce (g := 16) ⟨by omega, by omega⟩ (isg_g hi) (by omega) r hV hc1 (fun v hv => stK_lt (by rw [← hr' v]; exact hv)) (fun m2 b1 b2 => ?_))
    rw [hbr] at b1
    have hGV : GV (inG (σ.1 i) (stK (σ.1 i) (σ.1 i).1)) := GV_in hV _
    refine w_bdl (s_copyFrom (isg_g hi) ⟨by omega, by omega⟩ (by omega) b1 hGV.1 (fun m3 d1 d2 => ?_))
    rw [d1.1]
    have hle := cn_le (stK (σ.1 i) (σ.1 i).1) (σ.1 i).1
    rw [pk_sub (by exact hle)]
    refine w_ret ?_
    show wp _ _
    rw [e_out]
    refine w_ret ?_
    have f3 : Fr 0 88 μ m3 := (a2.trans b2 (a := 0) (b := 88) (by omega) (by omega) (by omega) (by omega)).trans d2 (by omega) (by omega) (by omega) (by omega)
    have c3 : CS (setG (push σ) i (inG (σ.1 i) (stK (σ.1 i) (σ.1 i).1))) m3 := CS.set hi (a1.fr b2 (by omega)) d2 d1
    generalize hout : Int32.toInt64 (nI ((σ.1 i).1 - (inG (σ.1 i) (stK (σ.1 i) (σ.1 i).1)).1)) = out
    have hr2 := (hr.fr f3 (by omega)).wl 143 0 out
    have ho : (h_wl m3 143 0 out).2 143 0 = out := wl_s _ _ _ _
    replace c3 := c3.wl 143 0 out
    generalize h_wl m3 143 0 out = m4 at hr2 ho c3
    unfold f_Model_dismantle
    rw [e_isG hi, bd_some]
    refine w_t (by decide) ?_
    refine w_bdk (s_copies (k' := 4) (by omega) (by omega) (by omega) (fun m5 e1 e2 => ?_))
    have r5 : RG (m5.1 126) 292 (inG (σ.1 i) (stK (σ.1 i) 0)) := by
      have h1 : RG (m5.1 126) 292 (σ.1 i) := (hr2.1 i hi).shift hn (fun j hj => e1 j hj)
      refine h1.congr ?_
      have hid : ∀ v, v ≤ (σ.1 i).1 → cn (stK (σ.1 i) 0) v = v := by
        intro v hv
        have : cn (stK (σ.1 i) 0) v = cn (fun _ => true) v := cn_ext (fun j hj => by
          show decide (j < (σ.1 i).1) = true
          have : j < (σ.1 i).1 := by omega
          simp [this])
        rw [this, cn_true]
      have hsl : ∀ v, v < (σ.1 i).1 → sel (stK (σ.1 i) 0) (σ.1 i).1 v = v := by
        intro v hv
        have := sel_rk (p := stK (σ.1 i) 0) hv (by show decide (v < (σ.1 i).1) = true; simp [hv])
        rw [hid v (by omega)] at this
        exact this
      refine ⟨(hid _ (Nat.le_refl _)).symm, fun v hv => ?_, fun u v hu hv => ?_⟩
      · show _ = (σ.1 i).2.1 (sel _ _ v)
        rw [hsl v hv]
      · show _ = (σ.1 i).2.2 (sel _ _ u) (sel _ _ v)
        rw [hsl u hu, hsl v hv]
    have f5 : Fw 292 438 m4 m5 := ⟨e2.1, fun j hj => e2.2 j (by omega)⟩
    generalize hX : σ.1 i = X at *
    /- what is looked for next -/
    have nextv : ∀ (m : HMem) (t : Nat) (Q : Int32 → HMem → Prop), RG (m.1 126) 292 (inG X (stK X t)) → (stF X (stK X t) = X.1 → Q (-1) m) → (∀ v, v < cn (stK X t) X.1 → stF X (stK X t) = sel (stK X t) X.1 v → Q (nI v) m) → wp (f_Model_lowestFolded 4 m) Q := by
      intro m t Q hm h1 h2
      refine s_lowestFolded (k := 4) (by omega) (GV_in hV _).1 hm (fun hno => h1 ?_) (fun v hv hex hall => h2 v hv ?_)
      · refine lst_no (fun u hu hc => ?_)
        obtain ⟨k1, w, kw⟩ := hc
        have hw := kw.1
        refine hno (cn (stK X t) u) (cn_st k1 hu) ⟨cn (stK X t) w, ?_⟩
        rw [FT_in (cn_st k1 hu) (cn_st hw.2.2 hw.1), sel_rk hu k1, sel_rk hw.1 hw.2.2]
        exact kw
      · obtain ⟨s1, s2, s3⟩ := sel_sp hv
        obtain ⟨w, kw⟩ := hex
        refine lst_eq s1 ⟨s2, sel (stK X t) X.1 w, (FT_in hv kw.1.1).mp kw⟩ (fun u hu hc => ?_)
        obtain ⟨k1, w2, kw2⟩ := hc
        have hw := kw2.1
        have hlt : cn (stK X t) u < v := by rw [← s3]; exact cn_st k1 hu
        refine hall (cn (stK X t) u) hlt ⟨cn (stK X t) w2, ?_⟩
        rw [FT_in (cn_st k1 (by omega)) (cn_st hw.2.2 hw.1), sel_rk (by omega) k1, sel_rk hw.1 hw.2.2]
        exact kw2
    have loop : ∀ (v3 : Int32) (m : HMem) (t : Nat), t ≤ X.1 → cn (stK X t) X.1 + t = X.1 → RG (m.1 126) 292 (inG X (stK X t)) → Fw 292 438 m4 m → ((v3 = -1 ∧ stF X (stK X t) = X.1) ∨ (∃ v, v < cn (stK X t) X.1 ∧ v3 = nI v ∧ stF X (stK X t) = sel (stK X t) X.1 v)) → wp (f_Model_dismantle_L27 f_Model_dismantle_J50 h_fuel (nI i) (nI t) v3 m) (fun b μ2 => FcQ 0 (fun _ => Int32.toInt64 b) μ2) := by
      intro v3 m t h1 h2 h3 h4 h5
      refine w_loopF (fun f (s : Nat × Int32 × HMem) => wp (f_Model_dismantle_L27 f_Model_dismantle_J50 f (nI i) (nI s.1) s.2.1 s.2.2) (fun b μ2 => FcQ 0 (fun _ => Int32.toInt64 b) μ2)) (fun s => s.1 ≤ X.1 ∧ cn (stK X s.1) X.1 + s.1 = X.1 ∧ RG (s.2.2.1 126) 292 (inG X (stK X s.1)) ∧ Fw 292 438 m4 s.2.2 ∧ ((s.2.1 = -1 ∧ stF X (stK X s.1) = X.1) ∨ (∃ v, v < cn (stK X s.1) X.1 ∧ s.2.1 = nI v ∧ stF X (stK X s.1) = sel (stK X s.1) X.1 v))) (fun s => X.1 - s.1) ?_ (t, v3, m) ⟨h1, h2, h3, h4, h5⟩ (by show X.1 - t < _; omega)
      rintro f ⟨t, v3, m⟩ ⟨h1, h2, h3, h4, h5⟩ ih
      show wp (f_Model_dismantle_L27_b f_Model_dismantle_J50 (f_Model_dismantle_L27 f_Model_dismantle_J50 f) (nI i) (nI t) v3 m) _
      unfold f_Model_dismantle_L27_b
      simp only at h1 h2 h3 h4 h5
      rcases h5 with ⟨rfl, h5⟩ | ⟨v, hv, rfl, h5⟩
      · refine w_t rfl ?_
        unfold f_Model_dismantle_J50
        have eK : stK X X.1 = stK X t := by
          have := stK_fix h5 (X.1 - t)
          rw [show t + (X.1 - t) = X.1 by omega] at this
          exact this
        refine w_bdk (s_keeps ok (hr2.fw ok h4 (by omega)) hi h3 (GV_in hV _).1 (fun m6 g1 g2 g3 => ?_))
        rw [eK] at c3 hGV
        refine w_ret ⟨⟨_, ok_setG (ok_push ok) i hGV, c3.fr (h4.1.trans g2 (a := 125) (b := 128) (by omega) (by omega) (by omega) (by omega)) (by omega), g1⟩, g3, fun _ => ?_⟩
        rw [g2.l (by omega), h4.1.l (by omega), ho, ← hout, eK]
        show Int32.toInt64 (nI (X.1 - cn (stK X t) X.1)) = Int32.toInt64 (nI t)
        rw [show X.1 - cn (stK X t) X.1 = t by omega]
      · have hle2 := cn_le (stK X t) X.1
        refine w_f (dnN (by omega)) ?_
        refine w_bdk (s_drops hV h3 hv (fun m6 g1 g2 => ?_))
        refine w_let ?_
        rw [nI_1]
        have g1' : RG (m6.1 126) 292 (inG X (stK X (t + 1))) := by
          show RG _ _ (inG X (fun v => stK X t v && !decide (v = stF X (stK X t))))
          rw [h5]
          exact g1
        obtain ⟨s1, s2, s3⟩ := sel_sp hv
        have hcn : cn (stK X (t + 1)) X.1 + (t + 1) = X.1 := by
          have := cn_drop s2 X.1 s1
          show cn (fun v => stK X t v && !decide (v = stF X (stK X t))) X.1 + (t + 1) = X.1
          rw [h5]
          omega
        have h46 : Fw 292 438 m4 m6 := h4.trans g2 (by omega) (by omega) (by omega) (by omega)
        refine w_bdk (nextv m6 (t + 1) _ g1' (fun e => ?_) (fun w hw e => ?_))
        · refine ih (t + 1, -1, m6) ⟨by show t + 1 ≤ X.1; omega, hcn, g1', h46, Or.inl ⟨rfl, e⟩⟩ ?_
          show X.1 - (t + 1) < X.1 - t
          omega
        · refine ih (t + 1, nI w, m6) ⟨by show t + 1 ≤ X.1; omega, hcn, g1', h46, Or.inr ⟨w, hw, rfl, e⟩⟩ ?_
          show X.1 - (t + 1) < X.1 - t
          omega
    have hc0 : cn (stK X 0) X.1 + 0 = X.1 := by
      have : cn (stK X 0) X.1 = cn (fun _ => true) X.1 := cn_ext (fun j hj => by
        show decide (j < X.1) = true
        simp [hj])
      rw [this, cn_true]
      rfl
    refine w_bdk (nextv m5 0 _ r5 (fun e => ?_) (fun v hv e => ?_))
    · exact loop (-1) m5 0 (Nat.zero_le _) hc0 r5 f5 (Or.inl ⟨rfl, e⟩)
    · exact loop (nI v) m5 0 (Nat.zero_le _) hc0 r5 f5 (Or.inr ⟨v, hv, rfl, e⟩)
