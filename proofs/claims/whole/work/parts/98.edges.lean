/-! 98: count, the class: maps that keep edges apart -/
def bL (x : Int64) (i : Nat) : Bool := x.toBitVec.getLsbD i
theorem bL_or (x y : Int64) (i : Nat) : bL (x ||| y) i = (bL x i || bL y i) := by unfold bL; rw [Int64.toBitVec_or, BitVec.getLsbD_or]
theorem bL_and (x y : Int64) (i : Nat) : bL (x &&& y) i = (bL x i && bL y i) := by unfold bL; rw [Int64.toBitVec_and, BitVec.getLsbD_and]
theorem bL_0 (i : Nat) : bL 0 i = false := BitVec.getLsbD_zero
theorem bL_ext {x y : Int64} (h : ∀ i, i < 64 → bL x i = bL y i) : x = y := Int64.toBitVec_inj.mp (BitVec.eq_of_getLsbD_eq (fun i hi => h i hi))
theorem bL_one : ∀ p, p < 64 → ∀ i, i < 64 → bL (h_lshl 1 (nI p)) i = decide (i = p) := by decide +kernel
theorem pr_m : ∀ s, s < 8 → ∀ t, t < 8 → (8 * (h_mmin (nI s) (nI t))) + (h_mmax (nI s) (nI t)) = nI (pr s t) := by decide +kernel
theorem pr_inj : ∀ t, t < 8 → ∀ s, s < 8 → ∀ s', s' < 8 → pr t s = pr t s' → s = s' := by decide +kernel
def eMr (t O : Nat) : Nat → Int64
  | 0 => 0
  | k + 1 => if O.testBit k = true then eMr t O k ||| h_lshl 1 (nI (pr t k)) else eMr t O k
theorem eMr_b {t O : Nat} (ht : t < 8) : ∀ {k : Nat}, k ≤ 8 → ∀ p, p < 64 → (bL (eMr t O k) p = true ↔ ∃ o, o < k ∧ O.testBit o = true ∧ pr t o = p)
  | 0, _, p, _ => ⟨fun h => (by rw [show eMr t O 0 = 0 from rfl, bL_0] at h; cases h), fun ⟨o, h, _⟩ => absurd h (Nat.not_lt_zero _)⟩
  | k + 1, hk, p, hp => by
    have ih := eMr_b (O := O) ht (k := k) (by omega) p hp
    show bL (if O.testBit k = true then eMr t O k ||| h_lshl 1 (nI (pr t k)) else eMr t O k) p = true ↔ _
    by_cases e : O.testBit k = true
    · rw [if_pos e, bL_or, Bool.or_eq_true, ih, bL_one _ (pr_lt ht (by omega)) p hp, decide_eq_true_iff]
      constructor
      · rintro (⟨o, h1, h2, h3⟩ | rfl)
        · exact ⟨o, by omega, h2, h3⟩
        · exact ⟨k, by omega, e, rfl⟩
      · rintro ⟨o, h1, h2, h3⟩
        rcases Nat.lt_or_ge o k with h | h
        · exact Or.inl ⟨o, h, h2, h3⟩
        · have : o = k := by omega
          rw [this] at h3
          exact Or.inr h3.symm
    · rw [if_neg e, ih]
      constructor
      · rintro ⟨o, h1, h2, h3⟩
        exact ⟨o, by omega, h2, h3⟩
      · rintro ⟨o, h1, h2, h3⟩
        rcases Nat.lt_or_ge o k with h | h
        · exact ⟨o, h, h2, h3⟩
        · have : o = k := by omega
          rw [this] at h2
          exact absurd h2 e
def lbc (v0 : Int64) : Int32 :=
  let a := v0 - ((h_lushr v0 1) &&& 6148914691236517205)
  let b := (a &&& 3689348814741910323) + ((h_lushr a 2) &&& 3689348814741910323)
  let c := (b + (h_lushr b 4)) &&& 1085102592571150095
  let d := c + (h_lushr c 8)
  let e := d + (h_lushr d 16)
  let f := e + (h_lushr e 32)
  (Int64.toInt32 f) &&& 127
theorem lbc_k : ∀ t, t < 8 → ∀ O, O < 256 → lbc (eMr t O 8) = nI (cn (fun o => O.testBit o) 8) := by decide +kernel
theorem mk8 (q : Nat → Bool) : ∀ k, ∃ O, O < 2 ^ k ∧ ∀ i, i < k → O.testBit i = q i
  | 0 => ⟨0, by decide, fun i h => absurd h (Nat.not_lt_zero _)⟩
  | k + 1 => by
    obtain ⟨O, h1, h2⟩ := mk8 q k
    have hO : O < 2 ^ (k + 1) := Nat.lt_of_lt_of_le h1 (Nat.pow_le_pow_right (by omega) (by omega))
    by_cases e : q k = true
    · refine ⟨O ||| 2 ^ k, Nat.or_lt_two_pow hO (Nat.pow_lt_pow_right (by omega) (by omega)), fun i hi => ?_⟩
      rw [Nat.testBit_or, Nat.testBit_two_pow]
      by_cases e2 : i = k
      · rw [e2, e]; simp
      · rw [h2 i (by omega), decide_eq_false (show ¬ k = i by omega), Bool.or_false]
    · refine ⟨O, hO, fun i hi => ?_⟩
      by_cases e2 : i = k
      · rw [e2, Nat.testBit_lt_two_pow h1]
        cases h : q k with
        | false => rfl
        | true => exact absurd h e
      · exact h2 i (by omega)
/-- the earlier neighbors -/
def nbE (X : HG) (v u : Nat) : Bool := nr X v u && decide (u < v)
theorem nbE_t {X : HG} {v u : Nat} (hv : v < X.1) : nbE X v u = true ↔ u < v ∧ ¬ X.2.2 v u = 0 := by
  unfold nbE
  rw [Bool.and_eq_true, decide_eq_true_iff, nr_t]
  exact ⟨fun h => ⟨h.2, h.1.2.2⟩, fun h => ⟨⟨hv, by omega, h.2⟩, h.1⟩⟩
theorem s_edgeImages {X : HG} {μ : HMem} (hn : X.1 ≤ 8) {v : Nat} (hv : v < X.1) (he : ∀ u, bt (μ.1 100 v) u = (nr X v u && decide (u ≤ v))) {b : Nat → Nat} (hb : ∀ u, u ≤ v → μ.1 102 u = nI (b u) ∧ b u < 8) {Q : Int64 → HMem → Prop} (hQ : ∀ e, (∀ p, p < 64 → (bL e p = true ↔ ∃ u, u < v ∧ ¬ X.2.2 v u = 0 ∧ pr (b v) (b u) = p)) → lbc e = nI (icN (nbE X v) b v) → Q e μ) : wp (f_MapSums_edgeImages (nI v) μ) Q := by
  obtain ⟨b1, b2⟩ := hb v (Nat.le_refl _)
  unfold f_MapSums_edgeImages
  refine w_chk (in_N (by rw [show h_len 102 = 8 from rfl]; omega) (by decide)) (w_let ?_)
  rw [cl_8 (by omega), b1]
  have e0 : ∀ z, z = nI 0 → wp (f_MapSums_edgeImages_L13 h_fuel (nI v) 0 (nI (b v)) z μ) Q := ?_
  · exact e0 0 rfl
  rintro z rfl
  refine w_for (fun f i (e : Int64) => wp (f_MapSums_edgeImages_L13 f (nI v) e (nI (b v)) (nI i) μ) Q) (fun i e => ∀ p, p < 64 → (bL e p = true ↔ ∃ u, u < i ∧ ¬ X.2.2 v u = 0 ∧ pr (b v) (b u) = p)) v ?_ ?_ 0 0 (Nat.zero_le _) (by omega) (fun p _ => ⟨fun h => (by rw [bL_0] at h; cases h), fun ⟨u, h, _⟩ => absurd h (Nat.not_lt_zero _)⟩)
  · intro f e hE
    show wp (f_MapSums_edgeImages_L13_b _ _ _ _ _ _) Q
    unfold f_MapSums_edgeImages_L13_b
    refine w_t (nI_le (Nat.le_refl _) (by omega)) (w_ret (hQ e hE ?_))
    obtain ⟨O, o1, o2⟩ := mk8 (imN (nbE X v) b v) 8
    have e1 : e = eMr (b v) O 8 := bL_ext (fun p hp => bqi (by
      rw [hE p hp, eMr_b b2 (Nat.le_refl _) p hp]
      constructor
      · rintro ⟨u, h1, h2, h3⟩
        have hu := (hb u (by omega)).2
        exact ⟨b u, hu, by rw [o2 _ hu, imN_t]; exact ⟨u, h1, (nbE_t hv).mpr ⟨h1, h2⟩, rfl⟩, h3⟩
      · rintro ⟨o, h1, h2, h3⟩
        rw [o2 o h1, imN_t] at h2
        obtain ⟨u, h4, h5, h6⟩ := h2
        exact ⟨u, h4, ((nbE_t hv).mp h5).2, by rw [h6]; exact h3⟩))
    rw [e1, lbc_k _ b2 O o1, show cn (fun o => O.testBit o) 8 = icN (nbE X v) b v from cn_ext (fun t ht => o2 t ht)]
  · intro f i e hi hE ih
    obtain ⟨c1, c2⟩ := hb i (by omega)
    show wp (f_MapSums_edgeImages_L13_b _ _ _ _ _ _) Q
    unfold f_MapSums_edgeImages_L13_b f_MapSums_edgeImages_J65
    refine w_f (nI_ge hi (by omega)) ?_
    refine w_chk (in_N (by rw [show h_len 100 = 8 from rfl]; omega) (by decide)) ?_
    rw [cl_8 (u := v) (by omega), e_has _ (by omega), bd_some, he i, decide_eq_true (show i ≤ v by omega), Bool.and_true, nr_in hv (by omega)]
    refine w_if (fun h3 => ?_) (fun h3 => ?_)
    · rw [bI_0] at h3
      have h3 : X.2.2 v i = 0 := by simpa using h3
      refine w_let ?_
      rw [nI_1]
      refine ih e (fun p hp => ?_)
      rw [hE p hp]
      constructor
      · rintro ⟨u, h4, h5⟩
        exact ⟨u, by omega, h5⟩
      · rintro ⟨u, h4, h5, h6⟩
        rcases Nat.lt_or_ge u i with h | h
        · exact ⟨u, h, h5, h6⟩
        · have : u = i := by omega
          rw [this] at h5
          exact absurd h3 h5
    · rw [bI_n] at h3
      have h3 : ¬ X.2.2 v i = 0 := by simpa using h3
      refine w_chk (in_N (by rw [show h_len 102 = 8 from rfl]; omega) (by decide)) ?_
      rw [cl_8 (u := i) (by omega), c1]
      refine w_let (w_let (w_let ?_))
      rw [nI_1, pr_m _ b2 _ c2]
      refine ih _ (fun p hp => ?_)
      rw [bL_or, Bool.or_eq_true, hE p hp, bL_one _ (pr_lt b2 c2) p hp, decide_eq_true_iff]
      constructor
      · rintro (⟨u, h4, h5⟩ | rfl)
        · exact ⟨u, by omega, h5⟩
        · exact ⟨i, by omega, h3, rfl⟩
      · rintro ⟨u, h4, h5, h6⟩
        rcases Nat.lt_or_ge u i with h | h
        · exact Or.inl ⟨u, h, h5, h6⟩
        · have : u = i := by omega
          rw [this] at h6
          exact Or.inr h6.symm
noncomputable def ped (X : HG) (a : Nat → Nat) (k : Nat) : Bool := @decide (∀ v, v < k → eV X a k v) (Classical.propDecidable _)
theorem ped_t {X : HG} {a : Nat → Nat} {k : Nat} : ped X a k = true ↔ ∀ v, v < k → eV X a k v := ⟨fun h => @of_decide_eq_true _ (Classical.propDecidable _) h, fun h => @decide_eq_true _ (Classical.propDecidable _) h⟩
theorem ped_loc (X : HG) : Loc (ped X) := fun a b k h => bqi (by
  rw [ped_t, ped_t]
  exact ⟨fun h1 v hv => eV_cg hv h (h1 v hv), fun h1 v hv => eV_cg hv (fun j hj => (h j hj).symm) (h1 v hv)⟩)
theorem ped_all {X : HG} {a : Nat → Nat} {n : Nat} : eB X a n = true ↔ ∀ k, k < n → ped X a k = true := by
  rw [eB_t]
  exact ⟨fun h k hk => ped_t.mpr (fun v hv => h k hk v hv), fun h k hk v hv => ped_t.mp (h k hk) v hv⟩
theorem tk_0 {X : HG} {a : Nat → Nat} {u v p : Nat} : tk X a u v p ↔ tk X a u 0 p ∨ ∃ v', v' < v ∧ ¬ X.2.2 u v' = 0 ∧ pr (a u) (a v') = p := by
  unfold tk
  constructor
  · rintro (h | h)
    · exact Or.inl (Or.inl h)
    · exact Or.inr h
  · rintro ((h | ⟨v', h, _⟩) | h)
    · exact Or.inl h
    · exact absurd h (Nat.not_lt_zero _)
    · exact Or.inr h
theorem ped_c {X : HG} {b : Nat → Nat} {v : Nat} (hv : v < X.1) (hb : ∀ u, u ≤ v → b u < 8) : ped X b v = true ↔ (∀ u, u < v → ¬ X.2.2 v u = 0 → ¬ tk X b v 0 (pr (b v) (b u))) ∧ icN (nbE X v) b v = cn (nbE X v) v := by
  rw [ped_t, (icN_eq (N := nbE X v) (a := b) (k := v) (fun p hp => hb p (by omega))).2]
  constructor
  · intro h
    refine ⟨fun u hu hx ht => h u hu hx (tk_0.mpr (Or.inl ht)), fun u hu hN ⟨p, h1, h2, h3⟩ => ?_⟩
    obtain ⟨_, n2⟩ := (nbE_t hv).mp hN
    obtain ⟨_, m2⟩ := (nbE_t hv).mp h2
    exact h u hu n2 (tk_0.mpr (Or.inr ⟨p, h1, m2, by rw [h3]⟩))
  · rintro ⟨h1, h2⟩ u hu hx ht
    rcases tk_0.mp ht with h | ⟨p, h3, h4, h5⟩
    · exact h1 u hu hx h
    · exact h2 u hu ((nbE_t hv).mpr ⟨hu, hx⟩) ⟨p, h3, (nbE_t hv).mpr ⟨by omega, h4⟩, pr_inj _ (hb v (Nat.le_refl _)) _ (hb p (by omega)) _ (hb u (by omega)) h5⟩
theorem and_0 {x y : Int64} : x &&& y = 0 ↔ ∀ p, p < 64 → bL x p = true → bL y p = true → False := by
  constructor
  · intro h p hp h1 h2
    have : bL (x &&& y) p = true := by rw [bL_and, h1, h2]; rfl
    rw [h, bL_0] at this
    cases this
  · intro h
    refine bL_ext (fun p hp => ?_)
    rw [bL_and, bL_0]
    cases h1 : bL x p with
    | false => rfl
    | true =>
      cases h2 : bL y p with
      | false => rfl
      | true => exact absurd (h p hp h1 h2) (fun h => h)
theorem s_edgeInj {X : HG} {M : Nat} {w : Nat → Int64} {g : Nat → Nat → Int64} (hn : X.1 ≤ 8) (hM : M ≤ 8) : ∀ (rd v : Nat) (a : Nat → Nat) (us : Int64) (μ : HMem), 9 ≤ rd + v → v ≤ X.1 → CM X M w g μ → (∀ u, u < v → μ.1 102 u = nI (a u) ∧ a u < M) → (∀ p, p < 64 → (bL us p = true ↔ tk X a v 0 p)) → ∀ Q : Int64 → HMem → Prop, (∀ μ', Fr 102 103 μ μ' → (∀ u, u < v → μ'.1 102 u = μ.1 102 u) → Q (ws (FB X w g (ped X)) M (X.1 - v) a v) μ') → wp (f_MapSums_sumEdgeInjective rd (nI v) us μ) Q
  | 0, v, a, us, μ, h9, hv, _, _, _, _, _ => absurd h9 (by omega)
  | rd + 1, v, a, us, μ, h9, hv, hc, hi, hu, Q, hQ => by
    show wp (f_MapSums_sumEdgeInjective_0 (f_MapSums_sumEdgeInjective rd) (nI v) us μ) Q
    unfold f_MapSums_sumEdgeInjective_0
    rw [hc.1.1]
    rcases Nat.lt_or_ge v X.1 with h1 | h1
    · refine w_t (nI_lt h1 (by omega)) ?_
      refine w_chk (in_N (by rw [show h_len 100 = 8 from rfl]; omega) (by decide)) ?_
      rw [cl_8 (by omega)]
      have eb : ∀ u, bt (μ.1 100 v &&& (h_ishl 1 (nI v) ^^^ -1)) u = nbE X v u := fun u => by
        rw [b_not, hc.2 v h1 u, b_one (by omega)]
        unfold nbE
        rcases Nat.lt_trichotomy u v with h | h | h
        · rw [decide_eq_true (show u ≤ v by omega), decide_eq_false (show ¬ u = v by omega), decide_eq_true h]; simp
        · rw [decide_eq_true (show u = v from h), decide_eq_false (show ¬ u < v by omega)]; simp
        · rw [decide_eq_false (show ¬ u ≤ v by omega), decide_eq_false (show ¬ u < v by omega)]; simp
      have s8 : S8 (μ.1 100 v &&& (h_ishl 1 (nI v) ^^^ -1)) := fun u hu => by
        rw [eb u]
        unfold nbE
        rw [decide_eq_false (show ¬ u < v by omega), Bool.and_false]
      have ecn : cn (bt (μ.1 100 v &&& (h_ishl 1 (nI v) ^^^ -1))) 8 = cn (nbE X v) v := by
        rw [cn_ext (q := nbE X v) (fun u _ => eb u)]
        have := cn_add (p := nbE X v) v (8 - v) (fun u h2 _ => by
          unfold nbE
          rw [decide_eq_false (show ¬ u < v by omega), Bool.and_false])
        rw [show v + (8 - v) = 8 by omega] at this
        exact this
      rw [f_bitCount s8, ecn, bd_some]
      have hcn : cn (nbE X v) v ≤ 8 := Nat.le_trans (cn_le _ _) (by omega)
      have e0 : ∀ z, z = nI 0 → wp (f_MapSums_sumEdgeInjective_L33 (f_MapSums_sumEdgeInjective rd) h_fuel (nI v) us (nI (cn (nbE X v) v)) 0 z μ) Q := ?_
      · exact e0 0 rfl
      rintro z rfl
      refine w_for (fun f t (s : Int64 × HMem) => wp (f_MapSums_sumEdgeInjective_L33 (f_MapSums_sumEdgeInjective rd) f (nI v) us (nI (cn (nbE X v) v)) s.1 (nI t) s.2) Q) (fun t s => s.1 = zL (fun t => FB X w g (ped X) (ly a v t) v * ws (FB X w g (ped X)) M (X.1 - v - 1) (ly a v t) (v + 1)) t ∧ Fr 102 103 μ s.2 ∧ ∀ u, u < v → s.2.1 102 u = μ.1 102 u) M ?_ ?_ 0 (0, μ) (Nat.zero_le _) (by omega) ⟨rfl, Fr.refl _ _ _, fun _ _ => rfl⟩
      · intro f s ⟨g1, g2, g3⟩
        show wp (f_MapSums_sumEdgeInjective_L33_b _ _ _ _ _ _ _ _) Q
        unfold f_MapSums_sumEdgeInjective_L33_b
        rw [(hc.fr g2).1.2.1]
        refine w_t (nI_le (Nat.le_refl _) (by omega)) (w_ret ?_)
        have := hQ s.2 g2 g3
        rw [show X.1 - v = (X.1 - v - 1) + 1 by omega] at this
        rw [g1]
        exact this
      · intro f t s ht ⟨g1, g2, g3⟩ ih
        have c1 := hc.fr g2
        have hi1 : ∀ u, u < v → s.2.1 102 u = nI (a u) ∧ a u < M := fun u hu => by rw [g3 u hu]; exact hi u hu
        show wp (f_MapSums_sumEdgeInjective_L33_b _ _ _ _ _ _ _ _) Q
        unfold f_MapSums_sumEdgeInjective_L33_b
        rw [c1.1.2.1]
        refine w_f (nI_ge ht (by omega)) ?_
        refine w_bdk (s_fac hn hM c1 h1 ht hi1 ?_)
        have f2 : Fr 102 103 μ (h_wi s.2 102 v (nI t)) := g2.trans (Fr.wi (a := 102) (b := 103) (by omega) (by omega)) (by omega) (by omega) (by omega) (by omega)
        have i2 : ∀ u, u < v → (h_wi s.2 102 v (nI t)).1 102 u = μ.1 102 u := fun u hu => by rw [wi_n _ _ (by omega)]; exact g3 u hu
        have j2 : (h_wi s.2 102 v (nI t)).1 102 v = nI t := wi_s _ _ _ _
        generalize h_wi s.2 102 v (nI t) = m2 at f2 i2 j2
        have hb : ∀ u, u ≤ v → m2.1 102 u = nI (ly a v t u) ∧ ly a v t u < M := fun u hu => by
          by_cases e : u = v
          · rw [e, ly_eq]; exact ⟨j2, ht⟩
          · rw [ly_ne e, i2 u (by omega)]; exact hi u (by omega)
        refine w_bdk (s_edgeImages hn h1 ((hc.fr f2).2 v h1) (b := ly a v t) (fun u hu => ⟨(hb u hu).1, by have := (hb u hu).2; omega⟩) (fun e he1 he2 => ?_))
        have skip : FB X w g (ped X) (ly a v t) v = 0 → wp (f_MapSums_sumEdgeInjective_J103 (f_MapSums_sumEdgeInjective rd) (f_MapSums_sumEdgeInjective_L33 (f_MapSums_sumEdgeInjective rd) f) (nI v) us (nI (cn (nbE X v) v)) s.1 (nI t) m2) Q := by
          intro hz
          unfold f_MapSums_sumEdgeInjective_J103
          refine w_let ?_
          rw [nI_1]
          refine ih (s.1, m2) ⟨?_, f2, i2⟩
          show s.1 = zL _ t + FB X w g (ped X) (ly a v t) v * _
          rw [hz, Int64.zero_mul, Int64.add_zero]
          exact g1
        have tkb : ∀ p, tk X a v 0 p ↔ tk X (ly a v t) v 0 p := fun p => by
          have key : ∀ a b : Nat → Nat, (∀ j, j < v → a j = b j) → tk X a v 0 p → tk X b v 0 p := fun a b h h2 => by
            rcases h2 with ⟨u', v', h3, h4, h5, h6⟩ | ⟨v', h3, _⟩
            · exact Or.inl ⟨u', v', h3, h4, h5, by rw [← h u' h3, ← h v' (by omega)]; exact h6⟩
            · exact absurd h3 (Nat.not_lt_zero _)
          exact ⟨key _ _ (fun j hj => (ly_lt hj).symm), key _ _ (fun j hj => ly_lt hj)⟩
        have hped := ped_c (X := X) (b := ly a v t) h1 (fun u hu => by have := (hb u hu).2; omega)
        refine w_if (fun h3 => ?_) (fun h3 => ?_)
        · rw [cmp_z] at h3
          refine skip ?_
          unfold FB
          rw [h3]
          by_cases h : ped X (ly a v t) v = true
          · rw [if_pos h]
          · rw [if_neg h]
        · refine w_if (fun h4 => ?_) (fun h4 => ?_)
          · rw [cmp_z] at h4
            refine skip (if_neg (fun h => h4 (and_0.mpr (fun p hp h5 h6 => ?_))))
            obtain ⟨u, h7, h8, h9⟩ := (he1 p hp).mp h5
            have h10 := (tkb p).mp ((hu p hp).mp h6)
            exact (hped.mp h).1 u h7 h8 (by rw [h9]; exact h10)
          · have h4 := (cmp_z _).mp (Classical.not_not.mp h4)
            have hlbc : f_Long_bitCount e m2 = some (lbc e, m2) := rfl
            rw [hlbc, bd_some, he2]
            have hic : icN (nbE X v) (ly a v t) v ≤ 8 := cn_le _ _
            refine w_if (fun h5 => ?_) (fun h5 => ?_)
            · exact skip (if_neg (fun h => h5 (by rw [(hped.mp h).2])))
            · have h5 := (nI_eq (by omega) (by omega)).mp (Classical.not_not.mp h5)
              have hp : ped X (ly a v t) v = true := hped.mpr ⟨fun u hu' hx htk => (and_0.mp h4) (pr (ly a v t v) (ly a v t u)) (pr_lt (by have := (hb v (Nat.le_refl _)).2; omega) (by have := (hb u (by omega)).2; omega)) ((he1 _ (pr_lt (by have := (hb v (Nat.le_refl _)).2; omega) (by have := (hb u (by omega)).2; omega))).mpr ⟨u, hu', hx, rfl⟩) ((hu _ (pr_lt (by have := (hb v (Nat.le_refl _)).2; omega) (by have := (hb u (by omega)).2; omega))).mpr ((tkb _).mpr htk)), h5⟩
              have hF : FB X w g (ped X) (ly a v t) v = fac X.1 (nr X) w g (ly a v t) v := if_pos hp
              rw [nI_1]
              refine w_bdk (s_edgeInj hn hM rd (v + 1) (ly a v t) (us ||| e) m2 (by omega) (by omega) (hc.fr f2) (fun u hu => hb u (by omega)) (fun p hp => ?_) _ (fun m3 f3 i3 => ?_))
              · rw [bL_or, Bool.or_eq_true, hu p hp, he1 p hp, ← tk_next, tk_0 (v := v), tkb p]
              · unfold f_MapSums_sumEdgeInjective_J103
                refine w_let (w_let ?_)
                rw [nI_1]
                refine ih (_, m3) ⟨?_, f2.trans f3 (by omega) (by omega) (by omega) (by omega), fun u hu => by show m3.1 102 u = _; rw [i3 u (by omega)]; exact i2 u hu⟩
                show _ = zL _ t + FB X w g (ped X) (ly a v t) v * _
                rw [hF, ← g1, show X.1 - (v + 1) = X.1 - v - 1 by omega]
    · refine w_f (nI_nlt h1 (by omega)) (w_ret ?_)
      have := hQ μ (Fr.refl _ _ _) (fun _ _ => rfl)
      rw [show X.1 - v = 0 by omega] at this
      exact this
