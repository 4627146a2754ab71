/-! 70: cores -/
def spP (X : HG) (K : Nat → Bool) (u : Nat) : Prop := ∃ f, Hm K (fun _ t => K t && !decide (t = u)) X.2.2 X.2.2 f
def ko (K : Nat → Bool) (u : Nat) : Nat → Bool := fun w => K w && !decide (w = u)
def al (n : Nat) : Nat → Bool := fun v => decide (v < n)
noncomputable def coK (X : HG) : Nat → Nat → Bool
  | 0 => al X.1
  | v + 1 => @ite _ (coK X v v = true ∧ spP X (coK X v) v) (Classical.propDecidable _) (ko (coK X v) v) (coK X v)
theorem coK_y {X : HG} {v : Nat} (h : coK X v v = true ∧ spP X (coK X v) v) : coK X (v + 1) = ko (coK X v) v := if_pos h
theorem coK_n {X : HG} {v : Nat} (h : ¬ (coK X v v = true ∧ spP X (coK X v) v)) : coK X (v + 1) = coK X v := if_neg h
theorem coK_lt {X : HG} : ∀ {v w : Nat}, coK X v w = true → w < X.1
  | 0, w, h => of_decide_eq_true h
  | v + 1, w, h => by
    by_cases e : coK X v v = true ∧ spP X (coK X v) v
    · rw [coK_y e] at h
      unfold ko at h
      rw [Bool.and_eq_true] at h
      exact coK_lt h.1
    · rw [coK_n e] at h
      exact coK_lt h
theorem ko_t {K : Nat → Bool} {u w : Nat} : ko K u w = true ↔ K w = true ∧ w ≠ u := by
  unfold ko
  rw [Bool.and_eq_true, Bool.not_eq_true', decide_eq_false_iff_not]
theorem sp_mono {X : HG} {K : Nat → Bool} {u v : Nat} (h : spP X K v) (hu : spP X (ko K v) u) : spP X K u := by
  obtain ⟨f, f1, f2⟩ := h
  obtain ⟨g, g1, g2⟩ := hu
  have hf : ∀ w, K w = true → ko K v (f w) = true := fun w hw => f1 w hw
  refine ⟨fun w => g (f w), fun w hw => ?_, fun a b ha hb hE => g2 _ _ (hf a ha) (hf b hb) (f2 a b ha hb hE)⟩
  have := g1 (f w) (hf w hw)
  rw [Bool.and_eq_true, ko_t] at this
  show (K (g (f w)) && !decide (g (f w) = u)) = true
  rw [this.1.1, this.2]
  rfl
theorem coK_no {X : HG} : ∀ {v : Nat}, ∀ u, u < v → coK X v u = true → ¬ spP X (coK X v) u
  | 0, u, hu, _ => absurd hu (Nat.not_lt_zero _)
  | v + 1, u, hu, hk => by
    by_cases e : coK X v v = true ∧ spP X (coK X v) v
    · rw [coK_y e] at hk ⊢
      rw [ko_t] at hk
      intro hs
      exact coK_no u (by omega) hk.1 (sp_mono e.2 hs)
    · rw [coK_n e] at hk ⊢
      rcases Nat.lt_or_ge u v with h | h
      · exact coK_no u h hk
      · have : u = v := by omega
        subst this
        exact fun hs => e ⟨hk, hs⟩
theorem coK_same {X : HG} {t : Nat} : ∀ d, (∀ w, t ≤ w → w < t + d → coK X t w = true → ¬ spP X (coK X t) w) → coK X (t + d) = coK X t
  | 0, _ => rfl
  | d + 1, h => by
    have ih := coK_same (X := X) (t := t) d (fun w h1 h2 => h w h1 (by omega))
    rw [← Nat.add_assoc, coK_n, ih]
    rw [ih]
    exact fun hc => h (t + d) (by omega) (by omega) hc.1 hc.2
theorem s_ccore {μ : HMem} {g : Nat} {X : HG} (hg : IsG g) (cx : CG μ g X) (hX : GV X) {Q : Int32 → HMem → Prop} (hQ : ∀ r μ', (∀ w, bt r w = coK X X.1 w) → Fr 103 117 μ μ' → Q r μ') : wp (f_HomSearch_coreOf g μ) Q := by
  have nX := hX.1
  unfold f_HomSearch_coreOf
  refine w_bde (e_all cx nX) ?_
  have hg84 := hg.2
  refine w_for (fun f v (y : Int32 × HMem) => wp (f_HomSearch_coreOf_L7 f g y.1 (nI v) y.2) Q) (fun v y => Fr 103 117 μ y.2 ∧ ∀ w, bt y.1 w = coK X v w) X.1 ?_ ?_ 0 (fullS X.1, μ) (by omega) (by omega) ⟨Fr.refl _ _ _, fun w => b_full nX w⟩
  · rintro f ⟨x, m⟩ ⟨h1, h2⟩
    show wp (f_HomSearch_coreOf_L7_b (f_HomSearch_coreOf_L7 f) g x (nI X.1) m) Q
    unfold f_HomSearch_coreOf_L7_b
    rw [(cx.fr (show Fr 103 117 μ m from h1) (by omega)).1]
    exact w_t (nI_le (Nat.le_refl _) (by omega)) (w_ret (hQ x m h2 h1))
  · rintro f v ⟨x, m⟩ hv ⟨h1, h2⟩ ih
    show wp (f_HomSearch_coreOf_L7_b (f_HomSearch_coreOf_L7 f) g x (nI v) m) Q
    unfold f_HomSearch_coreOf_L7_b f_HomSearch_coreOf_J57
    replace h1 : Fr 103 117 μ m := h1
    replace h2 : ∀ w, bt x w = coK X v w := h2
    have cm := cx.fr h1 (by omega)
    have hxe : bt x = coK X v := funext h2
    have hre : bt (x &&& (h_ishl 1 (nI v) ^^^ -1)) = ko (coK X v) v := funext (fun w => by
      rw [b_not, h2 w, b_one (by omega)]
      rfl)
    have hP : ∀ w, coK X v w = true → w < X.1 := fun w hw => coK_lt hw
    have hR : ∀ w, ko (coK X v) v w = true → w < X.1 := fun w hw => coK_lt (ko_t.mp hw).1
    rw [cm.1]
    refine w_f (nI_ge hv (by omega)) ?_
    refine w_bdk (s_load hg hg cm cm nX nX _ _ (fun m1 k1 k2 k3 => ?_))
    rw [hxe, hre] at k1
    rw [hre] at k2
    refine w_bde (e_has _ (by omega) _) ?_
    rw [h2 v]
    have skip : ∀ m', Fr 103 117 μ m' → ¬ (coK X v v = true ∧ spP X (coK X v) v) → wp (h_let (nI v + 1) (fun v3_57 => f_HomSearch_coreOf_L7 f g x v3_57 m')) Q := by
      intro m' q1 q2
      refine w_let ?_
      rw [nI_1]
      exact ih (x, m') ⟨q1, fun w => by show bt x w = coK X (v + 1) w; rw [coK_n q2]; exact h2 w⟩
    have f1 : Fr 103 117 μ m1 := h1.trans k3 (by omega) (by omega) (by omega) (by omega)
    refine w_if (fun h0 => ?_) (fun h0 => ?_)
    · rw [bI_0] at h0
      exact skip m1 f1 (fun hc => by rw [h0] at hc; cases hc.1)
    · rw [bI_n] at h0
      refine w_bdk (s_ext0 hX hX hP hR k1 (fun _ _ h => h) k2 (fun b m2 hb f2 => ?_))
      have hb2 : b = true ↔ spP X (coK X v) v := hb.trans ⟨fun ⟨f, h⟩ => ⟨f, (Hm0 hP hR f).mp h⟩, fun ⟨f, h⟩ => ⟨f, (Hm0 hP hR f).mpr h⟩⟩
      have f12 : Fr 103 117 μ m2 := f1.trans f2 (by omega) (by omega) (by omega) (by omega)
      refine w_if (fun h3 => ?_) (fun h3 => ?_)
      · rw [bI_0] at h3
        exact skip m2 f12 (fun hc => by rw [hb2.mpr hc.2] at h3; cases h3)
      · rw [bI_n] at h3
        refine w_let ?_
        refine w_let ?_
        rw [nI_1]
        exact ih (_, m2) ⟨f12, fun w => by show bt (x &&& (h_ishl 1 (nI v) ^^^ -1)) w = coK X (v + 1) w; rw [coK_y ⟨h0, hb2.mp h3⟩, hre]⟩
theorem s_lowestSpared {μ : HMem} {k : Nat} {G : HG} (hk : k < 6) (hV : GV G) (h : RG (μ.1 126) (73 * k) G) {Q : Int32 → HMem → Prop} (hno : ∀ μ', (∀ v, v < G.1 → ¬ spP G (al G.1) v) → Fr 133 137 μ μ' → Q (-1) μ') (hyes : ∀ v μ', v < G.1 → spP G (al G.1) v → (∀ u, u < v → ¬ spP G (al G.1) u) → Fr 133 137 μ μ' → Q (nI v) μ') : wp (f_Model_lowestSpared (nI k) μ) Q := by
  have hn := hV.1
  unfold f_Model_lowestSpared
  refine w_for (fun f v (y : Int32 × HMem) => wp (f_Model_lowestSpared_L4 f_Model_lowestSpared_J40 f (nI k) y.1 (nI v) y.2) Q) (fun v y => Fr 133 137 μ y.2 ∧ ((y.1 = -1 ∧ ∀ u, u < v → ¬ spP G (al G.1) u) ∨ (∃ w, w < G.1 ∧ y.1 = nI w ∧ spP G (al G.1) w ∧ ∀ u, u < w → ¬ spP G (al G.1) u))) G.1 ?_ ?_ 0 (-1, μ) (by omega) (by omega) ⟨Fr.refl _ _ _, Or.inl ⟨rfl, fun u hu => absurd hu (Nat.not_lt_zero _)⟩⟩
  · rintro f ⟨x, m⟩ ⟨h1, h2⟩
    show wp (f_Model_lowestSpared_L4_b f_Model_lowestSpared_J40 (f_Model_lowestSpared_L4 f_Model_lowestSpared_J40 f) (nI k) x (nI G.1) m) Q
    unfold f_Model_lowestSpared_L4_b f_Model_lowestSpared_J40
    replace h1 : Fr 133 137 μ m := h1
    refine w_bde (e_msize hk (by rw [h1.i (by omega)]; exact h)) ?_
    refine w_t (nI_le (Nat.le_refl _) (by omega)) ?_
    rcases h2 with ⟨e, h2⟩ | ⟨w, hw, e, h2, h3⟩
    · have e : x = -1 := e
      rw [e]
      exact w_ret (hno m h2 h1)
    · have e : x = nI w := e
      rw [e]
      exact w_ret (hyes w m hw h2 h3 h1)
  · rintro f v ⟨x, m⟩ hv ⟨h1, h2⟩ ih
    show wp (f_Model_lowestSpared_L4_b f_Model_lowestSpared_J40 (f_Model_lowestSpared_L4 f_Model_lowestSpared_J40 f) (nI k) x (nI v) m) Q
    unfold f_Model_lowestSpared_L4_b f_Model_lowestSpared_J40 f_Model_lowestSpared_J33
    replace h1 : Fr 133 137 μ m := h1
    have hm : RG (m.1 126) (73 * k) G := by rw [h1.i (by omega)]; exact h
    refine w_bde (e_msize hk hm) ?_
    refine w_f (nI_ge hv (by omega)) ?_
    rcases h2 with ⟨e, h2⟩ | ⟨w, hw, e, h2, h3⟩
    · have e : x = -1 := e
      refine w_f (fun h => h e) ?_
      refine w_bdk (s_isFree hk hk hV hV hm hm (fun b m2 hb f2 _ => ?_))
      have eq : ∀ t, (decide (t < G.1) && !decide (nI t = nI v)) = (al G.1 t && !decide (t = v)) := fun t => by
        unfold al
        rcases Nat.lt_or_ge t G.1 with h4 | h4
        · have : decide (nI t = nI v) = decide (t = v) := by
            rw [decide_eq_decide, nI_eq (by omega) (by omega)]
          rw [this]
        · rw [decide_eq_false (Nat.not_lt.mpr h4), Bool.false_and, Bool.false_and]
      have hb2 : b = true ↔ spP G (al G.1) v := hb.trans ⟨fun ⟨f, h⟩ => ⟨f, Hm.cg h (fun w t _ => eq t)⟩, fun ⟨f, h⟩ => ⟨f, Hm.cg h (fun w t _ => (eq t).symm)⟩⟩
      have f12 : Fr 133 137 μ m2 := h1.trans f2 (by omega) (by omega) (by omega) (by omega)
      refine w_if (fun h4 => ?_) (fun h4 => ?_)
      · rw [bI_0] at h4
        refine w_let ?_
        rw [nI_1]
        refine ih (-1, m2) ⟨f12, Or.inl ⟨rfl, fun u hu => ?_⟩⟩
        rcases Nat.lt_or_ge u v with h5 | h5
        · exact h2 u h5
        · have : u = v := by omega
          rw [this]
          exact fun hs => by rw [hb2.mpr hs] at h4; cases h4
      · rw [bI_n] at h4
        refine w_let ?_
        rw [nI_1]
        exact ih (nI v, m2) ⟨f12, Or.inr ⟨v, hv, rfl, hb2.mp h4, h2⟩⟩
    · have e : x = nI w := e
      rw [e]
      exact w_t (dnN (by omega)) (w_ret (hyes w m hw h2 h3 h1))
theorem sp_in {X : HG} {K : Nat → Bool} (hK : ∀ v, K v = true → v < X.1) {a : Nat} (ha : a < cn K X.1) : spP (inG X K) (al (cn K X.1)) a ↔ spP X K (sel K X.1 a) := by
  obtain ⟨a1, a2, a3⟩ := sel_sp ha
  constructor
  · rintro ⟨f, h1, h2⟩
    have in1 : ∀ w, K w = true → f (cn K w) < cn K X.1 ∧ f (cn K w) ≠ a := fun w hw => by
      have := h1 (cn K w) (decide_eq_true (cn_st hw (hK w hw)))
      rw [Bool.and_eq_true, Bool.not_eq_true', decide_eq_false_iff_not] at this
      exact ⟨of_decide_eq_true this.1, this.2⟩
    refine ⟨fun w => sel K X.1 (f (cn K w)), fun w hw => ?_, fun u v hu hv hE => ?_⟩
    · obtain ⟨q1, q2⟩ := in1 w hw
      obtain ⟨s1, s2, s3⟩ := sel_sp q1
      show (K (sel K X.1 (f (cn K w))) && !decide (sel K X.1 (f (cn K w)) = sel K X.1 a)) = true
      rw [s2, decide_eq_false (fun e => q2 (by rw [← s3, e, a3]))]
      rfl
    · have q := h2 (cn K u) (cn K v) (decide_eq_true (cn_st hu (hK u hu))) (decide_eq_true (cn_st hv (hK v hv)))
      have e1 : (inG X K).2.2 (cn K u) (cn K v) = X.2.2 u v := by
        show X.2.2 (sel K X.1 (cn K u)) (sel K X.1 (cn K v)) = _
        rw [sel_rk (hK u hu) hu, sel_rk (hK v hv) hv]
      rw [e1] at q
      exact q hE
  · rintro ⟨f, h1, h2⟩
    have in1 : ∀ i, i < cn K X.1 → K (f (sel K X.1 i)) = true ∧ f (sel K X.1 i) ≠ sel K X.1 a := fun i hi => by
      obtain ⟨s1, s2, s3⟩ := sel_sp hi
      have := h1 _ s2
      rw [Bool.and_eq_true, Bool.not_eq_true', decide_eq_false_iff_not] at this
      exact this
    refine ⟨fun i => cn K (f (sel K X.1 i)), fun i hi => ?_, fun u v hu hv hE => ?_⟩
    · have hi := of_decide_eq_true hi
      obtain ⟨q1, q2⟩ := in1 i hi
      have q3 := cn_st q1 (hK _ q1)
      show (al (cn K X.1) (cn K (f (sel K X.1 i))) && !decide (cn K (f (sel K X.1 i)) = a)) = true
      unfold al
      rw [decide_eq_true q3, decide_eq_false (fun e => q2 ?_)]
      · rfl
      · rw [← e, sel_rk (hK _ q1) q1]
    · have hu := of_decide_eq_true hu
      have hv := of_decide_eq_true hv
      obtain ⟨_, s2, _⟩ := sel_sp hu
      obtain ⟨_, t2, _⟩ := sel_sp hv
      show ¬ X.2.2 (sel K X.1 (cn K (f (sel K X.1 u)))) (sel K X.1 (cn K (f (sel K X.1 v)))) = 0
      rw [sel_rk (hK _ (in1 u hu).1) (in1 u hu).1, sel_rk (hK _ (in1 v hv).1) (in1 v hv).1]
      exact h2 _ _ s2 t2 hE
/-- a frame with what is made -/
def Fq (μ μ' : HMem) : Prop := Fr 126 143 μ μ' ∧ μ'.1 127 = μ.1 127 ∧ μ'.1 128 = μ.1 128 ∧ ∀ i, i < 292 → μ'.1 126 i = μ.1 126 i
theorem Fq.trans {μ μ1 μ2 : HMem} (h1 : Fq μ μ1) (h2 : Fq μ1 μ2) : Fq μ μ2 := ⟨h1.1.trans h2.1 (by omega) (by omega) (by omega) (by omega), h2.2.1.trans h1.2.1, h2.2.2.1.trans h1.2.2.1, fun i hi => (h2.2.2.2 i hi).trans (h1.2.2.2 i hi)⟩
theorem Fq.fw {lo hi : Nat} {μ μ' : HMem} (h : Fw lo hi μ μ') (hl : 292 ≤ lo) : Fq μ μ' := ⟨h.1.wide (by omega) (by omega), h.1.i (by omega), h.1.i (by omega), fun i hi => h.2 i (by omega)⟩
theorem Fq.fr {a b : Nat} {μ μ' : HMem} (h : Fr a b μ μ') (ha : 129 ≤ a) (hb : b ≤ 143) : Fq μ μ' := ⟨h.wide (by omega) (by omega), h.i (by omega), h.i (by omega), fun i _ => by rw [h.i (by omega)]⟩
theorem CS.fq {σ : HS} {μ μ' : HMem} (hc : CS σ μ) (hf : Fq μ μ') : CS σ μ' := hc.fr hf.1 (by omega)
theorem RS.fq {σ : HS} {μ μ' : HMem} (ok : OKs σ) (hr : RS σ μ) (hf : Fq μ μ') : RS σ μ' := by
  refine ⟨fun i hi => (hr.1 i hi).shift (ok.1 i hi).1 (fun j hj => hf.2.2.2 _ (by omega)), ?_, ?_⟩
  · have h2 := hr.2.1
    unfold RH at h2 ⊢
    rw [hf.1.i (c := 125) (by omega), hf.2.1]
    exact h2
  · have h2 := hr.2.2
    unfold RT at h2 ⊢
    rw [hf.1.i (c := 125) (by omega), hf.2.2.1]
    exact h2
theorem in_al {X : HG} : GE X (inG X (al X.1)) := by
  have hid : ∀ v, v ≤ X.1 → cn (al X.1) v = v := by
    intro v hv
    have : cn (al X.1) v = cn (fun _ => true) v := cn_ext (fun j hj => by
      show decide (j < X.1) = true
      have : j < X.1 := by omega
      simp [this])
    rw [this, cn_true]
  have hsl : ∀ v, v < X.1 → sel (al X.1) X.1 v = v := by
    intro v hv
    have := sel_rk (p := al X.1) hv (by show decide (v < X.1) = true; simp [hv])
    rw [hid v (by omega)] at this
    exact this
  refine ⟨(hid _ (Nat.le_refl _)).symm, fun v hv => ?_, fun u v hu hv => ?_⟩
  · show _ = X.2.1 (sel _ _ v)
    rw [hsl v hv]
  · show _ = X.2.2 (sel _ _ u) (sel _ _ v)
    rw [hsl u hu, hsl v hv]
theorem s_shrinks {μ : HMem} {X : HG} (hX : GV X) (h : RG (μ.1 126) 292 X) {Q : Int32 → HMem → Prop} (hQ : ∀ μ', RG (μ'.1 126) 292 (inG X (coK X X.1)) → Fq μ μ' → Q (nI (cn (coK X X.1) X.1)) μ') : wp (f_Model_shrinks μ) Q := by
  have nX := hX.1
  have hKlt : ∀ t w, coK X t w = true → w < X.1 := fun t w hw => coK_lt hw
  unfold f_Model_shrinks
  have nextv : ∀ (m : HMem) (t : Nat) (Q' : Int32 → HMem → Prop), RG (m.1 126) 292 (inG X (coK X t)) → (∀ m', (∀ u, coK X t u = true → ¬ spP X (coK X t) u) → Fr 133 137 m m' → Q' (-1) m') → (∀ a m', a < cn (coK X t) X.1 → spP X (coK X t) (sel (coK X t) X.1 a) → (∀ u, u < sel (coK X t) X.1 a → coK X t u = true → ¬ spP X (coK X t) u) → Fr 133 137 m m' → Q' (nI a) m') → wp (f_Model_lowestSpared 4 m) Q' := by
    intro m t Q' hm h1 h2
    refine s_lowestSpared (k := 4) (by omega) (GV_in hX _) hm (fun m' hno f1 => h1 m' (fun u hu hs => ?_) f1) (fun a m' ha hs hall f1 => h2 a m' ha ((sp_in (hKlt t) ha).mp hs) (fun u hu hK hs' => ?_) f1)
    · have hlt := cn_st hu (hKlt t u hu)
      refine hno _ hlt ((sp_in (hKlt t) hlt).mpr ?_)
      rw [sel_rk (hKlt t u hu) hu]
      exact hs
    · obtain ⟨s1, s2, s3⟩ := sel_sp ha
      have hlt : cn (coK X t) u < a := by rw [← s3]; exact cn_st hK hu
      refine hall _ hlt ((sp_in (hKlt t) (Nat.lt_trans hlt ha)).mpr ?_)
      rw [sel_rk (hKlt t u hK) hK]
      exact hs'
  have loop : ∀ (x : Int32) (m : HMem) (t : Nat), t ≤ X.1 → RG (m.1 126) 292 (inG X (coK X t)) → Fq μ m → ((x = -1 ∧ ∀ u, coK X t u = true → ¬ spP X (coK X t) u) ∨ (∃ a, a < cn (coK X t) X.1 ∧ x = nI a ∧ spP X (coK X t) (sel (coK X t) X.1 a) ∧ ∀ u, u < sel (coK X t) X.1 a → coK X t u = true → ¬ spP X (coK X t) u)) → wp (f_Model_shrinks_L6 f_Model_shrinks_J26 h_fuel x m) Q := by
    intro x m t h1 h2 h3 h4
    refine w_loopF (fun f (s : Nat × Int32 × HMem) => wp (f_Model_shrinks_L6 f_Model_shrinks_J26 f s.2.1 s.2.2) Q) (fun s => s.1 ≤ X.1 ∧ RG (s.2.2.1 126) 292 (inG X (coK X s.1)) ∧ Fq μ s.2.2 ∧ ((s.2.1 = -1 ∧ ∀ u, coK X s.1 u = true → ¬ spP X (coK X s.1) u) ∨ (∃ a, a < cn (coK X s.1) X.1 ∧ s.2.1 = nI a ∧ spP X (coK X s.1) (sel (coK X s.1) X.1 a) ∧ ∀ u, u < sel (coK X s.1) X.1 a → coK X s.1 u = true → ¬ spP X (coK X s.1) u))) (fun s => X.1 - s.1) ?_ (t, x, m) ⟨h1, h2, h3, h4⟩ (by show X.1 - t < _; omega)
    rintro f ⟨t, x, m⟩ ⟨h1, h2, h3, h4⟩ ih
    show wp (f_Model_shrinks_L6_b f_Model_shrinks_J26 (f_Model_shrinks_L6 f_Model_shrinks_J26 f) x m) Q
    unfold f_Model_shrinks_L6_b f_Model_shrinks_J26
    replace h1 : t ≤ X.1 := h1
    replace h2 : RG (m.1 126) 292 (inG X (coK X t)) := h2
    replace h3 : Fq μ m := h3
    replace h4 : (x = -1 ∧ ∀ u, coK X t u = true → ¬ spP X (coK X t) u) ∨ (∃ a, a < cn (coK X t) X.1 ∧ x = nI a ∧ spP X (coK X t) (sel (coK X t) X.1 a) ∧ ∀ u, u < sel (coK X t) X.1 a → coK X t u = true → ¬ spP X (coK X t) u) := h4
    rcases h4 with ⟨e, h4⟩ | ⟨a, ha, e, h4, h5⟩
    · refine w_t e ?_
      have eK : coK X X.1 = coK X t := by
        have := coK_same (X := X) (t := t) (X.1 - t) (fun w _ _ hw => h4 w hw)
        rw [show t + (X.1 - t) = X.1 by omega] at this
        exact this
      refine w_bde (e_msize (k := 4) (by omega) h2) ?_
      have := hQ m (by rw [eK]; exact h2) h3
      rw [eK] at this
      exact w_ret this
    · have hle := cn_le (coK X t) X.1
      refine w_f (by rw [e]; exact dnN (by omega)) ?_
      rw [e]
      obtain ⟨s1, s2, s3⟩ := sel_sp ha
      refine w_bdk (s_drops hX h2 ha (fun m2 g1 g2 => ?_))
      generalize hs : sel (coK X t) X.1 a = s at *
      have hts : t ≤ s := Nat.le_of_not_lt (fun hlt => coK_no s hlt s2 h4)
      have eS : coK X s = coK X t := by
        have := coK_same (X := X) (t := t) (s - t) (fun w h6 h7 hw => h5 w (by omega) hw)
        rw [show t + (s - t) = s by omega] at this
        exact this
      have eS1 : coK X (s + 1) = ko (coK X t) s := by
        rw [coK_y (by rw [eS]; exact ⟨s2, h4⟩), eS]
      have g1' : RG (m2.1 126) 292 (inG X (coK X (s + 1))) := by rw [eS1]; exact g1
      have q2 : Fq μ m2 := h3.trans (Fq.fw g2 (by omega))
      refine w_bdk (nextv m2 (s + 1) _ g1' (fun m3 hno f3 => ?_) (fun b m3 hb hsp hall f3 => ?_))
      · refine ih (s + 1, -1, m3) ⟨by show s + 1 ≤ X.1; omega, by show RG (m3.1 126) 292 _; rw [f3.i (by omega)]; exact g1', q2.trans (Fq.fr f3 (by omega) (by omega)), Or.inl ⟨rfl, hno⟩⟩ ?_
        show X.1 - (s + 1) < X.1 - t
        omega
      · refine ih (s + 1, nI b, m3) ⟨by show s + 1 ≤ X.1; omega, by show RG (m3.1 126) 292 _; rw [f3.i (by omega)]; exact g1', q2.trans (Fq.fr f3 (by omega) (by omega)), Or.inr ⟨b, hb, rfl, hsp, hall⟩⟩ ?_
        show X.1 - (s + 1) < X.1 - t
        omega
  have h0 : RG (μ.1 126) 292 (inG X (coK X 0)) := h.congr in_al
  refine w_bdk (nextv μ 0 _ h0 (fun m' hno f1 => ?_) (fun a m' ha hsp hall f1 => ?_))
  · exact loop (-1) m' 0 (Nat.zero_le _) (by rw [f1.i (by omega)]; exact h0) (Fq.fr f1 (by omega) (by omega)) (Or.inl ⟨rfl, hno⟩)
  · exact loop (nI a) m' 0 (Nat.zero_le _) (by rw [f1.i (by omega)]; exact h0) (Fq.fr f1 (by omega) (by omega)) (Or.inr ⟨a, ha, rfl, hsp, hall⟩)
