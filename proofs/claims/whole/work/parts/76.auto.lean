/-! 76: automorphisms -/
theorem cn_pt {n t : Nat} (ht : t < n) : cn (fun u => decide (u = t)) n = 1 := by
  have h1 := cn_one1 t n
  have h2 := cn_st (p := fun u => decide (u = t)) (a := t) (b := n) (decide_eq_true rfl) ht
  omega
theorem sm_if {p : Nat → Bool} {c : Nat} : ∀ n, sm (fun s => if p s = true then c else 0) n = cn p n * c
  | 0 => by show 0 = 0 * c; rw [Nat.zero_mul]
  | n + 1 => by
    show sm (fun s => if p s = true then c else 0) n + (if p n = true then c else 0) = cn p (n + 1) * c
    rw [sm_if n, cn_s]
    by_cases h : p n = true
    · rw [if_pos h, if_pos h, Nat.succ_mul]
    · rw [if_neg h, if_neg h, Nat.add_zero, Nat.add_zero]
theorem sm_one {g : Nat → Nat} {t0 : Nat} : ∀ {n : Nat}, t0 < n → sm (fun t => if decide (t = t0) = true then g t else 0) n = g t0
  | 0, h => absurd h (Nat.not_lt_zero _)
  | n + 1, h => by
    show sm (fun t => if decide (t = t0) = true then g t else 0) n + (if decide (n = t0) = true then g n else 0) = g t0
    rcases Nat.lt_or_ge t0 n with h1 | h1
    · rw [sm_one h1, if_neg (by rw [decide_eq_true_iff]; omega), Nat.add_zero]
    · have e : n = t0 := by omega
      subst e
      have : sm (fun t => if decide (t = n) = true then g t else 0) n = sm (fun _ => 0) n := sm_ext (fun t ht => if_neg (by rw [decide_eq_true_iff]; omega))
      rw [this, sm_0, if_pos (decide_eq_true rfl), Nat.zero_add]
theorem sm_bij {n : Nat} {a : Nat → Nat} {g : Nat → Nat} (h1 : ∀ u, u < n → a u < n) (h2 : ∀ u w, u < n → w < n → a u = a w → u = w) : sm (fun s => g (a s)) n = sm g n := by
  have e1 : sm (fun s => g (a s)) n = sm (fun s => sm (fun t => if decide (t = a s) = true then g t else 0) n) n := sm_ext (fun s hs => (sm_one (g := g) (h1 s hs)).symm)
  rw [e1, sm_comm (fun s t => if decide (t = a s) = true then g t else 0) n n]
  refine sm_ext (fun t ht => ?_)
  have e2 : sm (fun s => if decide (t = a s) = true then g t else 0) n = cn (fun s => decide (t = a s)) n * g t := sm_if n
  rw [e2]
  have e3 : cn (fun s => decide (t = a s)) n = 1 := by
    have := cn_bij (q := fun u => decide (u = t)) h1 h2
    rw [cn_pt ht] at this
    rw [← this]
    exact cn_ext (fun s _ => decide_eq_decide.mpr ⟨fun h => h.symm, fun h => h.symm⟩)
  rw [e3, Nat.one_mul]
theorem lk_comp {X : HG} (hX : GV X) {τ : Nat → Nat} (hτ : Ful (lkB X X) X.1 X.1 τ) {b : Nat → Nat} {k : Nat} (hb : ∀ j, j ≤ k → b j < X.1) : lkB X X (fun j => τ (b j)) k = lkB X X b k := by
  obtain ⟨h1, h2, h3, h4⟩ := ful_lk hτ
  have key : lk X X (fun j => τ (b j)) k ↔ lk X X b k := by
    have hk := hb k (Nat.le_refl _)
    unfold lk
    show (X.2.1 k = X.2.1 (τ (b k)) ∧ ∀ j, j ≤ k → (j = k ∨ ¬ τ (b j) = τ (b k)) ∧ X.2.2 k j = X.2.2 (τ (b k)) (τ (b j))) ↔ _
    rw [← h3 _ hk]
    constructor
    · rintro ⟨q1, q2⟩
      refine ⟨q1, fun j hj => ?_⟩
      obtain ⟨q3, q4⟩ := q2 j hj
      rw [← ful_sym hX hX rfl hτ hk (hb j hj)] at q4
      exact ⟨q3.elim Or.inl (fun h => Or.inr (fun e => h (by rw [e]))), q4⟩
    · rintro ⟨q1, q2⟩
      refine ⟨q1, fun j hj => ?_⟩
      obtain ⟨q3, q4⟩ := q2 j hj
      rw [← ful_sym hX hX rfl hτ hk (hb j hj)]
      exact ⟨q3.elim Or.inl (fun h => Or.inr (fun e => h (h2 _ _ (hb j hj) hk e))), q4⟩
  cases e1 : lkB X X b k with
  | true => exact lkB_t.mpr (key.mpr (lkB_t.mp e1))
  | false =>
    cases e2 : lkB X X (fun j => τ (b j)) k with
    | false => rfl
    | true =>
      have := lkB_t.mpr (key.mp (lkB_t.mp e2))
      rw [e1] at this
      cases this
theorem tr_comp {X : HG} (hX : GV X) {τ : Nat → Nat} (hτ : Ful (lkB X X) X.1 X.1 τ) : ∀ (r : Nat) (a : Nat → Nat) (k : Nat), (∀ j, j < k → a j < X.1) → tr (lkB X X) X.1 r (fun j => τ (a j)) k = tr (lkB X X) X.1 r a k
  | 0, _, _, _ => rfl
  | r + 1, a, k, ha => by
    obtain ⟨h1, h2, h3, h4⟩ := ful_lk hτ
    show sm (fun t => if lkB X X (ly (fun j => τ (a j)) k t) k = true then tr (lkB X X) X.1 r (ly (fun j => τ (a j)) k t) (k + 1) else 0) X.1 = sm (fun t => if lkB X X (ly a k t) k = true then tr (lkB X X) X.1 r (ly a k t) (k + 1) else 0) X.1
    rw [← sm_bij (g := fun t => if lkB X X (ly (fun j => τ (a j)) k t) k = true then tr (lkB X X) X.1 r (ly (fun j => τ (a j)) k t) (k + 1) else 0) h1 h2]
    refine sm_ext (fun s hs => ?_)
    have e : ly (fun j => τ (a j)) k (τ s) = fun j => τ (ly a k s j) := funext (fun j => by
      by_cases e : j = k
      · rw [e, ly_eq]
        show τ s = τ (ly a k s k)
        rw [ly_eq]
      · show (if j = k then τ s else τ (a j)) = τ (if j = k then s else a j)
        rw [if_neg e, if_neg e])
    have hb : ∀ j, j < k + 1 → ly a k s j < X.1 := fun j hj => by
      by_cases e : j = k
      · rw [e, ly_eq]; exact hs
      · rw [ly_lt (by omega)]; exact ha j (by omega)
    show (if lkB X X (ly (fun j => τ (a j)) k (τ s)) k = true then tr (lkB X X) X.1 r (ly (fun j => τ (a j)) k (τ s)) (k + 1) else 0) = _
    rw [e, lk_comp hX hτ (fun j hj => hb j (by omega)), tr_comp hX hτ r (ly a k s) (k + 1) hb]
def iD : Nat → Nat := fun u => u
theorem ful_id (X : HG) : Ful (lkB X X) X.1 X.1 iD := fun k hk => ⟨hk, lkB_t.mpr ⟨rfl, fun j _ => ⟨by
  by_cases e : j = k
  · exact Or.inl e
  · exact Or.inr e, rfl⟩⟩⟩
/-- an image with all lower ones fixed -/
def Sv (X : HG) (v t : Nat) : Prop := ∃ a, Ful (lkB X X) X.1 X.1 a ∧ (∀ u, u < v → a u = u) ∧ a v = t
noncomputable def SvB (X : HG) (v t : Nat) : Bool := @decide (Sv X v t) (Classical.propDecidable _)
theorem SvB_t {X : HG} {v t : Nat} : SvB X v t = true ↔ Sv X v t := ⟨fun h => @of_decide_eq_true _ (Classical.propDecidable _) h, fun h => @decide_eq_true _ (Classical.propDecidable _) h⟩
theorem tr_orb {X : HG} (hX : GV X) {v : Nat} (hv : v < X.1) : tr (lkB X X) X.1 (X.1 - v) iD v = cn (SvB X v) X.1 * tr (lkB X X) X.1 (X.1 - (v + 1)) iD (v + 1) := by
  have hC := lk_loc X X
  rw [show X.1 - v = (X.1 - (v + 1)) + 1 by omega, ← sm_if]
  show sm (fun t => if lkB X X (ly iD v t) v = true then tr (lkB X X) X.1 (X.1 - (v + 1)) (ly iD v t) (v + 1) else 0) X.1 = _
  refine sm_ext (fun t ht => ?_)
  by_cases hS : SvB X v t = true
  · rw [if_pos hS]
    obtain ⟨τ, t1, t2, t3⟩ := SvB_t.mp hS
    have e : ∀ j, j < v + 1 → ly iD v t j = τ j := fun j hj => by
      by_cases e : j = v
      · rw [e, ly_eq, t3]
      · rw [ly_lt (by omega), t2 j (by omega)]
        rfl
    rw [hC (ly iD v t) τ v (fun j hj => e j (by omega)), if_pos (t1 v hv).2, tr_cg hC _ _ _ (v + 1) e]
    exact tr_comp hX t1 _ iD (v + 1) (fun j hj => by show j < X.1; omega)
  · rw [if_neg hS]
    by_cases hc : lkB X X (ly iD v t) v = true
    · rw [if_pos hc]
      refine Nat.eq_zero_of_not_pos (fun hp => hS (SvB_t.mpr ?_))
      obtain ⟨b, h1, h2⟩ := (tr_pos hC _ _ _).mp hp
      have hbv : b v = t := by rw [h1 v (by omega), ly_eq]
      have hb : ∀ j, j < v → b j = j := fun j hj => by rw [h1 j (by omega), ly_lt hj]; rfl
      refine ⟨b, fun k hk => ?_, hb, hbv⟩
      rcases Nat.lt_trichotomy k v with h3 | h3 | h3
      · rw [hC b iD k (fun j hj => hb j (by omega)), hb k h3]
        exact ⟨hk, (ful_id X k hk).2⟩
      · rw [h3, hC b (ly iD v t) v (fun j hj => h1 j (by omega)), hbv]
        exact ⟨ht, hc⟩
      · exact h2 k (by omega) (by omega)
    · rw [if_neg hc]
theorem s_lower {μ : HMem} {g : Nat} {X : HG} (hg : IsG g) (hX : GV X) (hm : BM X X g g μ) {v : Nat} (hv : v < X.1) (hp : ∀ u, u < v → μ.1 120 u = nI u) {Q : Int32 → HMem → Prop} (hQ : ∀ μ', Fr 120 121 μ μ' → (∀ u, u < v → μ'.1 120 u = nI u) → Q (nI (cn (SvB X v) X.1)) μ') : wp (f_Bijections_imagesWithLowerFixed g (nI v) μ) Q := by
  have nX := hX.1
  have l1 := hg.2
  have cv : cn (SvB X v) v = 0 := cn_zero (fun t ht => by
    cases h : SvB X v t with
    | false => rfl
    | true =>
      obtain ⟨a, h1, h2, h3⟩ := SvB_t.mp h
      have := (ful_lk h1).2.1 t v (by omega) hv (by rw [h2 t ht, h3])
      omega)
  unfold f_Bijections_imagesWithLowerFixed
  refine w_let ?_
  rw [all_k v (by omega)]
  refine w_for (fun f t (y : Int32 × HMem) => wp (f_Bijections_imagesWithLowerFixed_L12 f g (nI v) y.1 (fullS v) (nI t) y.2) Q) (fun t y => v ≤ t ∧ y.1 = nI (cn (SvB X v) t) ∧ Fr 120 121 μ y.2 ∧ ∀ u, u < v → y.2.1 120 u = nI u) X.1 ?_ ?_ v (0, μ) (by omega) (by omega) ⟨Nat.le_refl _, by rw [cv]; rfl, Fr.refl _ _ _, hp⟩
  · rintro f ⟨x, m⟩ ⟨_, k1, k2, k3⟩
    show wp (f_Bijections_imagesWithLowerFixed_L12_b (f_Bijections_imagesWithLowerFixed_L12 f) g (nI v) x (fullS v) (nI X.1) m) Q
    unfold f_Bijections_imagesWithLowerFixed_L12_b
    have k1 : x = nI (cn (SvB X v) X.1) := k1
    rw [(hm.fr l1 l1 k2).1.1, k1]
    exact w_t (nI_le (Nat.le_refl _) (by omega)) (w_ret (hQ m k2 k3))
  · rintro f t ⟨x, m⟩ ht ⟨k0, k1, k2, k3⟩ ih
    show wp (f_Bijections_imagesWithLowerFixed_L12_b (f_Bijections_imagesWithLowerFixed_L12 f) g (nI v) x (fullS v) (nI t) m) Q
    unfold f_Bijections_imagesWithLowerFixed_L12_b f_Bijections_imagesWithLowerFixed_J63
    replace k1 : x = nI (cn (SvB X v) t) := k1
    replace k2 : Fr 120 121 μ m := k2
    replace k3 : ∀ u, u < v → m.1 120 u = nI u := k3
    have hmm := hm.fr l1 l1 k2
    rw [hmm.1.1]
    refine w_f (nI_ge ht (by omega)) ?_
    have skip : ∀ m', Fr 120 121 μ m' → (∀ u, u < v → m'.1 120 u = nI u) → ¬ Sv X v t → wp (h_let (nI t + 1) (fun v5_63 => f_Bijections_imagesWithLowerFixed_L12 f g (nI v) x (fullS v) v5_63 m')) Q := by
      intro m' q1 q2 q3
      refine w_let ?_
      rw [nI_1]
      refine ih (x, m') ⟨by omega, ?_, q1, q2⟩
      show x = nI (cn (SvB X v) (t + 1))
      rw [k1, cn_s, if_neg (fun h => q3 (SvB_t.mp h)), Nat.add_zero]
    refine w_bdk (s_bfits (p := iD) hg hg hX hX hmm hv ht (fun u hu => ⟨k3 u hu, by show u < X.1; omega⟩) (fun b hb => ?_))
    refine w_if (fun h2 => ?_) (fun h2 => ?_)
    · rw [bI_0] at h2
      refine skip m k2 k3 (fun ⟨a, h3, h4, h5⟩ => ?_)
      obtain ⟨_, _, q2, q3⟩ := (cF_ful hX hX rfl).mpr h3 v (Nat.zero_le _) hv
      rw [h5] at q2
      have := hb.mpr ⟨q2, fun j hj => by have := q3 j hj; rw [h5, h4 j hj] at this; exact this⟩
      rw [h2] at this
      cases this
    · rw [bI_n] at h2
      obtain ⟨b1, b2⟩ := hb.mp h2
      refine w_chk (in_8 (by omega) rfl) ?_
      refine w_let ?_
      rw [cl_8 (by omega), nI_1]
      have fw : Fr 120 121 μ (h_wi m 120 v (nI t)) := k2.trans (Fr.wi (a := 120) (b := 121) (by omega) (by omega)) (by omega) (by omega) (by omega) (by omega)
      refine w_bdk (s_bext hX hX rfl hg hg 16 (v + 1) (ly iD v t) (fullS v ||| h_ishl 1 (nI t)) (h_wi m 120 v (nI t)) (by omega) (by omega) (hm.fr l1 l1 fw) (fun u hu' => ?_) (fun s => ?_) _ (fun b3 m3 hb3 f3 k4 => ?_))
      · rw [wi_e]
        by_cases e2 : u = v
        · rw [if_pos ⟨rfl, e2⟩, e2, ly_eq]
          exact ⟨rfl, ht⟩
        · rw [if_neg (by omega), ly_lt (by omega), k3 u (by omega)]
          exact ⟨rfl, by show u < X.1; omega⟩
      · rw [b_or, b_one (by omega), b_full (by omega), Bool.or_eq_true, decide_eq_true_iff, decide_eq_true_iff]
        constructor
        · rintro (h3 | h3)
          · exact ⟨s, by omega, by rw [ly_lt h3]; rfl⟩
          · exact ⟨v, by omega, by rw [ly_eq]; exact h3.symm⟩
        · rintro ⟨u, h3, h4⟩
          by_cases e2 : u = v
          · rw [e2, ly_eq] at h4
            exact Or.inr h4.symm
          · rw [ly_lt (by omega)] at h4
            have : u = s := h4
            exact Or.inl (by omega)
      · have f03 : Fr 120 121 μ m3 := fw.trans f3 (by omega) (by omega) (by omega) (by omega)
        have k03 : ∀ u, u < v → m3.1 120 u = nI u := fun u hu' => by
          rw [k4 u (by omega), wi_n _ _ (Or.inr (by omega))]
          exact k3 u hu'
        have same : (∃ a, (∀ u, u < v + 1 → a u = ly iD v t u) ∧ cF X X (v + 1) a) ↔ Sv X v t := by
          constructor
          · rintro ⟨a, q1, q2⟩
            have q0 : ∀ u, u < v → a u = u := fun u hu' => by rw [q1 u (by omega), ly_lt hu']; rfl
            have qv : a v = t := by rw [q1 v (by omega), ly_eq]
            refine ⟨a, (cF_ful hX hX rfl).mp (fun k hk1 hk2 => ?_), q0, qv⟩
            rcases Nat.lt_trichotomy k v with h5 | h5 | h5
            · rw [q0 k h5]
              refine ⟨hk2, ck_cg (a := iD) (fun j hj => (q0 j (by omega)).symm) ⟨fun j hj e => ?_, rfl, fun j _ => rfl⟩⟩
              have : j = k := e
              omega
            · rw [h5, qv]
              refine ⟨ht, fun j hj e2 => ?_, by rw [qv]; exact b1, fun j hj => by rw [qv, q0 j hj]; exact b2 j hj⟩
              rw [q0 j hj, qv] at e2
              omega
            · exact q2 k (by omega) hk2
          · rintro ⟨a, q1, q2, q3⟩
            have q4 := (cF_ful hX hX rfl).mpr q1
            refine ⟨a, fun u hu' => ?_, fun k hk1 hk2 => q4 k (Nat.zero_le _) hk2⟩
            by_cases e2 : u = v
            · rw [e2, ly_eq, q3]
            · rw [ly_lt (by omega), q2 u (by omega)]
              rfl
        rw [same] at hb3
        refine w_if (fun h3 => ?_) (fun h3 => ?_)
        · rw [bI_0] at h3
          exact skip m3 f03 k03 (fun h4 => by rw [hb3.mpr h4] at h3; cases h3)
        · rw [bI_n] at h3
          refine w_let ?_
          refine w_let ?_
          rw [nI_1]
          refine ih (x + 1, m3) ⟨by omega, ?_, f03, k03⟩
          show x + 1 = nI (cn (SvB X v) (t + 1))
          rw [k1, nI_1, cn_s, if_pos (SvB_t.mpr (hb3.mp h3))]
theorem s_countOnto {μ : HMem} {g : Nat} {X : HG} (hg : IsG g) (hc : CG μ g X) (hX : GV X) {Q : Int32 → HMem → Prop} (hQ : ∀ μ', Fr 118 121 μ μ' → Q (nI (tr (lkB X X) X.1 X.1 (fun _ => 0) 0)) μ') : wp (f_Bijections_countOnto g μ) Q := by
  have nX := hX.1
  have l1 := hg.2
  unfold f_Bijections_countOnto
  refine w_bdk (s_mark hg hc hX (Or.inl rfl) (fun m1 q1 f1 => ?_))
  refine w_bdk (s_mark hg (hc.fr f1 (by omega)) hX (Or.inr rfl) (fun m2 q2 f2 => ?_))
  have f02 : Fr 118 121 μ m2 := f1.trans f2 (by omega) (by omega) (by omega) (by omega)
  have hm : BM X X g g m2 := ⟨hc.fr f02 (by omega), hc.fr f02 (by omega), by rw [f2.i (by omega)]; exact q1, q2⟩
  have e0 : tr (lkB X X) X.1 X.1 (fun _ => 0) 0 = tr (lkB X X) X.1 (X.1 - 0) iD 0 := tr_cg (lk_loc X X) _ _ _ 0 (fun j hj => absurd hj (Nat.not_lt_zero _))
  rw [e0] at hQ
  refine w_for (fun f v (y : Nat × HMem) => wp (f_Bijections_countOnto_L20 f g (nI y.1) (nI v) y.2) Q) (fun v y => Fr 120 121 m2 y.2 ∧ (∀ u, u < v → y.2.1 120 u = nI u) ∧ y.1 * tr (lkB X X) X.1 (X.1 - v) iD v = tr (lkB X X) X.1 (X.1 - 0) iD 0) X.1 ?_ ?_ 0 (1, m2) (by omega) (by omega) ⟨Fr.refl _ _ _, fun u hu => absurd hu (Nat.not_lt_zero _), by show 1 * _ = _; rw [Nat.one_mul]⟩
  · rintro f ⟨x, m⟩ ⟨k1, k2, k3⟩
    show wp (f_Bijections_countOnto_L20_b (f_Bijections_countOnto_L20 f) g (nI x) (nI X.1) m) Q
    unfold f_Bijections_countOnto_L20_b
    replace k1 : Fr 120 121 m2 m := k1
    rw [(hm.fr l1 l1 k1).1.1]
    refine w_t (nI_le (Nat.le_refl _) (by omega)) ?_
    have k3 : x * tr (lkB X X) X.1 (X.1 - X.1) iD X.1 = tr (lkB X X) X.1 (X.1 - 0) iD 0 := k3
    rw [Nat.sub_self] at k3
    have e1 : x = tr (lkB X X) X.1 (X.1 - 0) iD 0 := by
      rw [← k3]
      exact (Nat.mul_one x).symm
    rw [e1]
    exact w_ret (hQ m (f02.trans k1 (by omega) (by omega) (by omega) (by omega)))
  · rintro f v ⟨x, m⟩ hv ⟨k1, k2, k3⟩ ih
    show wp (f_Bijections_countOnto_L20_b (f_Bijections_countOnto_L20 f) g (nI x) (nI v) m) Q
    unfold f_Bijections_countOnto_L20_b
    replace k1 : Fr 120 121 m2 m := k1
    have hmm := hm.fr l1 l1 k1
    rw [hmm.1.1]
    refine w_f (nI_ge hv (by omega)) ?_
    refine w_bdk (s_lower hg hX hmm hv k2 (fun m3 f3 k4 => ?_))
    refine w_let ?_
    refine w_chk (in_8 (by omega) rfl) ?_
    refine w_let ?_
    refine w_let ?_
    rw [cl_8 (by omega), pk_mul, nI_1]
    refine ih (x * cn (SvB X v) X.1, h_wi m3 120 v (nI v)) ⟨(k1.trans f3 (by omega) (by omega) (by omega) (by omega) : Fr 120 121 m2 m3).trans (Fr.wi (a := 120) (b := 121) (by omega) (by omega)) (by omega) (by omega) (by omega) (by omega), fun u hu => ?_, ?_⟩
    · show (h_wi m3 120 v (nI v)).1 120 u = nI u
      rw [wi_e]
      by_cases e : u = v
      · rw [if_pos ⟨rfl, e⟩, e]
      · rw [if_neg (by omega)]
        exact k4 u (by omega)
    · show x * cn (SvB X v) X.1 * tr (lkB X X) X.1 (X.1 - (v + 1)) iD (v + 1) = _
      rw [Nat.mul_assoc, ← tr_orb hX hv]
      exact k3
theorem LM_automorphisms (a : Int32) {μ : HMem} (h : SI μ) : Fc (f_Law_automorphisms a μ) (f_Model_automorphisms a) := by
  obtain ⟨σ, ok, hc, hr⟩ := h
  unfold Fc f_Law_automorphisms f_Bench_automorphisms
  rcases ix_g a (n := 4) (by omega) with ha | ⟨i, hi, rfl⟩
  · rw [e_graphAtX ha, bdx_r, bdt_r]
    refine w_ret ?_
    unfold f_Model_automorphisms f_Model_automorphisms_J25
    rw [e_isGX ha, bd_some]
    exact w_t (by decide) (w_ret (Q_err ok hc hr (by decide) _))
  · rw [e_graphAt hi, bdx_l]
    have hV := ok.1 i hi
    have hn := hV.1
    have hci := hc.1 i hi
    refine LM_obs ok (r := nI (tr (lkB (σ.1 i) (σ.1 i)) (σ.1 i).1 (σ.1 i).1 (fun _ => 0) 0)) ?_ (fun m2 c2 r2 => ?_)
    · refine w_bdk (s_countOnto (isg_g hi) hci hV (fun m1 f1 => ?_))
      exact w_ret ⟨rfl, hc.fr f1 (by omega), hr.fr f1 (by omega)⟩
    · unfold f_Model_automorphisms f_Model_automorphisms_J25
      rw [e_isG hi, bd_some]
      refine w_f (by decide) ?_
      refine w_bdk (s_bijectionsOf (by omega) (by omega) hn hn (r2.1 i hi) (r2.1 i hi) (fun m3 f3 => ?_))
      rw [if_pos rfl]
      have g3 := Fs.fr f3 (by omega) (by omega)
      refine w_bde (e_tells _ _) ?_
      exact w_ret (ob_tell (c2.fs g3) (r2.fs g3) (by rw [g3.out]) _)
