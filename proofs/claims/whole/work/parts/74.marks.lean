/-! 74: bijections (the class): marks -/
theorem k7 : ∀ k, k < 7 → (nI k - 3).toInt = (k : Int) - 3 := by decide +kernel
theorem k5 : ∀ k, k < 5 → (nI k - 2).toInt = (k : Int) - 2 := by decide +kernel
theorem i7 {w : Int32} (h1 : -3 ≤ w) (h2 : w ≤ 3) : ∃ k, k < 7 ∧ w = nI k - 3 := by
  have e1 := Int32.le_iff_toInt_le.mp h1
  have e2 := Int32.le_iff_toInt_le.mp h2
  rw [show (-3 : Int32).toInt = -3 by decide] at e1
  rw [show (3 : Int32).toInt = 3 by decide] at e2
  have h : (w.toInt + 3).toNat < 7 := by omega
  refine ⟨(w.toInt + 3).toNat, h, Int32.toInt_inj.mp ?_⟩
  rw [k7 _ h]
  omega
theorem i5 {w : Int32} (h1 : -2 ≤ w) (h2 : w ≤ 2) : ∃ k, k < 5 ∧ w = nI k - 2 := by
  have e1 := Int32.le_iff_toInt_le.mp h1
  have e2 := Int32.le_iff_toInt_le.mp h2
  rw [show (-2 : Int32).toInt = -2 by decide] at e1
  rw [show (2 : Int32).toInt = 2 by decide] at e2
  have h : (w.toInt + 2).toNat < 5 := by omega
  refine ⟨(w.toInt + 2).toNat, h, Int32.toInt_inj.mp ?_⟩
  rw [k5 _ h]
  omega
def wN (X : HG) (v : Nat) : Nat := (X.2.1 v + 3).toNatClampNeg
def lN' (X : HG) (v : Nat) : Nat := (X.2.2 v v + 2).toNatClampNeg
theorem c7 : ∀ k, k < 7 → ((nI k - 3) + 3 : Int32).toNatClampNeg = k ∧ (nI k - 3 + 3 : Int32) = nI k := by decide +kernel
theorem c5 : ∀ k, k < 5 → ((nI k - 2) + 2 : Int32).toNatClampNeg = k := by decide +kernel
theorem wN_e {X : HG} (h : GV X) {v : Nat} (hv : v < X.1) : wN X v < 7 ∧ X.2.1 v = nI (wN X v) - 3 := by
  obtain ⟨k, hk, e⟩ := i7 (h.2.1 v hv).1 (h.2.1 v hv).2
  unfold wN
  rw [e, (c7 k hk).1]
  exact ⟨hk, rfl⟩
theorem lN_e {X : HG} (h : GV X) {v : Nat} (hv : v < X.1) : lN' X v < 5 ∧ X.2.2 v v = nI (lN' X v) - 2 := by
  obtain ⟨k, hk, e⟩ := i5 (h.2.2 v v hv hv).2.1 (h.2.2 v v hv hv).2.2
  unfold lN'
  rw [e, c5 k hk]
  exact ⟨hk, rfl⟩
def cE (X : HG) (v : Nat) (w : Int32) : Nat := cn (fun u => !decide (u = v) && decide (X.2.2 v u = w)) X.1
theorem cE_lt {X : HG} (hX : X.1 ≤ 8) {v : Nat} (hv : v < X.1) (w : Int32) : cE X v w < 8 := by
  have := cn_lt (p := fun u => !decide (u = v) && decide (X.2.2 v u = w)) (q := fun _ => true) (n := X.1) (fun _ _ _ => rfl) ⟨v, hv, by simp, rfl⟩
  rw [cn_true] at this
  unfold cE
  omega
def mkS (X : HG) (v : Nat) : Nat → Nat
  | 0 => 8 * wN X v + lN' X v
  | i + 1 => 8 * mkS X v i + cE X v (nI i - 2)
def mkN (X : HG) (v : Nat) : Nat := mkS X v 5
theorem mkS_lt {X : HG} (h : GV X) {v : Nat} (hv : v < X.1) : ∀ i, mkS X v i < 64 * 8 ^ i
  | 0 => by
    have h1 := (wN_e h hv).1
    have h2 := (lN_e h hv).1
    show 8 * wN X v + lN' X v < 64 * 1
    omega
  | i + 1 => by
    have h1 := mkS_lt h hv i
    have h2 := cE_lt h.1 hv (nI i - 2)
    show 8 * mkS X v i + cE X v (nI i - 2) < 64 * 8 ^ (i + 1)
    rw [Nat.pow_succ]
    omega
theorem mkS_inj {X Y : HG} (hX : GV X) (hY : GV Y) {v t : Nat} (hv : v < X.1) (ht : t < Y.1) : ∀ i, mkS X v i = mkS Y t i → wN X v = wN Y t ∧ lN' X v = lN' Y t
  | 0, h => by
    have h1 := (lN_e hX hv).1
    have h2 := (lN_e hY ht).1
    replace h : 8 * wN X v + lN' X v = 8 * wN Y t + lN' Y t := h
    omega
  | i + 1, h => by
    have h1 := cE_lt hX.1 hv (nI i - 2)
    have h2 := cE_lt hY.1 ht (nI i - 2)
    replace h : 8 * mkS X v i + cE X v (nI i - 2) = 8 * mkS Y t i + cE Y t (nI i - 2) := h
    exact mkS_inj hX hY hv ht i (by omega)
theorem mkN_inj {X Y : HG} (hX : GV X) (hY : GV Y) {v t : Nat} (hv : v < X.1) (ht : t < Y.1) (h : mkN X v = mkN Y t) : X.2.1 v = Y.2.1 t ∧ X.2.2 v v = Y.2.2 t t := by
  obtain ⟨h1, h2⟩ := mkS_inj hX hY hv ht 5 h
  rw [(wN_e hX hv).2, (wN_e hY ht).2, (lN_e hX hv).2, (lN_e hY ht).2, h1, h2]
  exact ⟨rfl, rfl⟩
theorem cn_inj : ∀ {n m : Nat} {a : Nat → Nat} {q : Nat → Bool}, (∀ u, u < n → a u < m) → (∀ u w, u < n → w < n → a u = a w → u = w) → cn (fun u => q (a u)) n ≤ cn q m
  | 0, _, _, _, _, _ => Nat.zero_le _
  | n + 1, m, a, q, h1, h2 => by
    rw [cn_s]
    cases hq : q (a n) with
    | false =>
      rw [if_neg (by decide)]
      exact cn_inj (fun u hu => h1 u (by omega)) (fun u w hu hw => h2 u w (by omega) (by omega))
    | true =>
      rw [if_pos rfl, cn_drop hq m (h1 n (by omega))]
      have e : cn (fun u => q (a u)) n = cn (fun u => (fun v => q v && !decide (v = a n)) (a u)) n := cn_ext (fun u hu => by
        show q (a u) = (q (a u) && !decide (a u = a n))
        rw [decide_eq_false (fun e => by have := h2 u n (by omega) (by omega) e; omega)]
        simp)
      have := cn_inj (n := n) (m := m) (a := a) (q := fun v => q v && !decide (v = a n)) (fun u hu => h1 u (by omega)) (fun u w hu hw => h2 u w (by omega) (by omega))
      rw [e]
      exact Nat.succ_le_succ this
theorem cn_not (p : Nat → Bool) : ∀ n, cn p n + cn (fun i => !p i) n = n
  | 0 => rfl
  | n + 1 => by
    have := cn_not p n
    rw [cn_s, cn_s]
    cases p n with
    | true => rw [if_pos rfl, if_neg (by decide)]; omega
    | false => rw [if_neg (by decide), if_pos (by decide)]; omega
theorem cn_bij {n : Nat} {a : Nat → Nat} {q : Nat → Bool} (h1 : ∀ u, u < n → a u < n) (h2 : ∀ u w, u < n → w < n → a u = a w → u = w) : cn (fun u => q (a u)) n = cn q n := by
  have e1 := cn_inj (q := q) h1 h2
  have e2 := cn_inj (q := fun i => !q i) h1 h2
  have e3 := cn_not q n
  have e4 := cn_not (fun u => q (a u)) n
  have e2' : cn (fun u => !q (a u)) n ≤ cn (fun i => !q i) n := e2
  omega
/-- what full answers are -/
theorem ful_lk {X Y : HG} {n : Nat} {a : Nat → Nat} (h : Ful (lkB X Y) n n a) : (∀ u, u < n → a u < n) ∧ (∀ u w, u < n → w < n → a u = a w → u = w) ∧ (∀ u, u < n → X.2.1 u = Y.2.1 (a u)) ∧ ∀ u w, u < n → w ≤ u → X.2.2 u w = Y.2.2 (a u) (a w) := by
  have hl : ∀ k, k < n → lk X Y a k := fun k hk => lkB_t.mp (h k hk).2
  refine ⟨fun u hu => (h u hu).1, fun u w hu hw e => ?_, fun u hu => (hl u hu).1, fun u w hu hw => ((hl u hu).2 w hw).2⟩
  rcases Nat.lt_trichotomy u w with h1 | h1 | h1
  · rcases ((hl w hw).2 u (by omega)).1 with h2 | h2
    · exact h2
    · exact absurd e h2
  · exact h1
  · rcases ((hl u hu).2 w (by omega)).1 with h2 | h2
    · exact h2.symm
    · exact absurd e.symm h2
theorem ful_sym {X Y : HG} (hX : GV X) (hY : GV Y) (e : X.1 = Y.1) {a : Nat → Nat} (h : Ful (lkB X Y) X.1 X.1 a) {u w : Nat} (hu : u < X.1) (hw : w < X.1) : X.2.2 u w = Y.2.2 (a u) (a w) := by
  obtain ⟨h1, h2, h3, h4⟩ := ful_lk h
  rcases Nat.le_total w u with h5 | h5
  · exact h4 u w hu h5
  · rw [(hX.2.2 u w hu hw).1, h4 w u hw h5, (hY.2.2 _ _ (by rw [← e]; exact h1 w hw) (by rw [← e]; exact h1 u hu)).1]
theorem ful_mk {X Y : HG} (hX : GV X) (hY : GV Y) (e : X.1 = Y.1) {a : Nat → Nat} (h : Ful (lkB X Y) X.1 X.1 a) {v : Nat} (hv : v < X.1) : mkN X v = mkN Y (a v) := by
  obtain ⟨h1, h2, h3, h4⟩ := ful_lk h
  have hc : ∀ w, cE X v w = cE Y (a v) w := fun w => by
    unfold cE
    rw [← e, ← cn_bij (q := fun u => !decide (u = a v) && decide (Y.2.2 (a v) u = w)) h1 h2]
    refine cn_ext (fun u hu => ?_)
    show (!decide (u = v) && decide (X.2.2 v u = w)) = (!decide (a u = a v) && decide (Y.2.2 (a v) (a u) = w))
    rw [ful_sym hX hY e h hv hu]
    have : decide (u = v) = decide (a u = a v) := decide_eq_decide.mpr ⟨fun h => by rw [h], fun h => h2 u v hu hv h⟩
    rw [this]
  have hw : wN X v = wN Y (a v) := by unfold wN; rw [h3 v hv]
  have hl : lN' X v = lN' Y (a v) := by unfold lN'; rw [ful_sym hX hY e h hv hv]
  have : ∀ i, mkS X v i = mkS Y (a v) i := by
    intro i
    induction i with
    | zero => show 8 * wN X v + lN' X v = _; rw [hw, hl]; rfl
    | succ i ih => show 8 * mkS X v i + cE X v (nI i - 2) = 8 * mkS Y (a v) i + cE Y (a v) (nI i - 2); rw [ih, hc]
  exact this 5
theorem s_edgesOf {μ : HMem} {g : Nat} {X : HG} (hg : IsG g) (hc : CG μ g X) (hX : X.1 ≤ 8) {v : Nat} (hv : v < X.1) (w : Int32) {Q : Int32 → HMem → Prop} (hQ : Q (nI (cE X v w)) μ) : wp (f_Bijections_edgesOfWeight g (nI v) w μ) Q := by
  unfold f_Bijections_edgesOfWeight
  refine w_for (fun f u (c : Int32) => wp (f_Bijections_edgesOfWeight_L5 f g (nI v) w c (nI u) μ) Q) (fun u c => c = nI (cn (fun u => !decide (u = v) && decide (X.2.2 v u = w)) u)) X.1 ?_ ?_ 0 0 (by omega) (by omega) rfl
  · rintro f c rfl
    show wp (f_Bijections_edgesOfWeight_L5_b (f_Bijections_edgesOfWeight_L5 f) g (nI v) w _ (nI X.1) μ) Q
    unfold f_Bijections_edgesOfWeight_L5_b
    rw [hc.1]
    exact w_t (nI_le (Nat.le_refl _) (by omega)) (w_ret hQ)
  · rintro f u c hu rfl ih
    show wp (f_Bijections_edgesOfWeight_L5_b (f_Bijections_edgesOfWeight_L5 f) g (nI v) w _ (nI u) μ) Q
    unfold f_Bijections_edgesOfWeight_L5_b f_Bijections_edgesOfWeight_J34
    rw [hc.1]
    refine w_f (nI_ge hu (by omega)) ?_
    refine w_if (fun h0 => ?_) (fun h0 => ?_)
    · rw [nI_eq (by omega) (by omega)] at h0
      refine w_let ?_
      rw [nI_1]
      refine ih _ ?_
      rw [cn_s, decide_eq_true h0]
      rfl
    · rw [nI_eq (by omega) (by omega)] at h0
      refine w_bde (e_between hg hc hX hv hu) ?_
      refine w_if (fun h1 => ?_) (fun h1 => ?_)
      · refine w_let ?_
        rw [nI_1]
        refine ih _ ?_
        rw [cn_s, decide_eq_false h0, decide_eq_false h1]
        rfl
      · have h1 := Classical.not_not.mp h1
        refine w_let ?_
        refine w_let ?_
        rw [nI_1, nI_1]
        refine ih _ ?_
        rw [cn_s, decide_eq_false h0, decide_eq_true h1]
        rfl
theorem m5a : ∀ i, i < 5 → ¬ (2 : Int32) < nI i - 2 := by decide +kernel
theorem m5b : ∀ i, i < 5 → nI i - 2 + 1 = nI (i + 1) - 2 := by decide +kernel
theorem m5c : ∀ W, W < 7 → ∀ L, L < 5 → ((8 : Int32) * (nI W - 3 + 3)) + (nI L - 2) + 2 = nI (8 * W + L) := by decide +kernel
theorem s_mark {μ : HMem} {g c : Nat} {X : HG} (hg : IsG g) (hc : CG μ g X) (hX : GV X) (hcl : c = 118 ∨ c = 119) {Q : Unit → HMem → Prop} (hQ : ∀ μ', (∀ v, v < X.1 → μ'.1 c v = nI (mkN X v)) → Fr c (c + 1) μ μ' → Q () μ') : wp (f_Bijections_mark g c μ) Q := by
  have nX := hX.1
  have hg84 := hg.2
  have hlc : h_len c = 8 := by rcases hcl with rfl | rfl <;> rfl
  unfold f_Bijections_mark
  refine w_for (fun f v (m : HMem) => wp (f_Bijections_mark_L2 f g c (nI v) m) Q) (fun v m => Fr c (c + 1) μ m ∧ ∀ u, u < v → m.1 c u = nI (mkN X u)) X.1 ?_ ?_ 0 μ (by omega) (by omega) ⟨Fr.refl _ _ _, fun u hu => absurd hu (Nat.not_lt_zero _)⟩
  · rintro f m ⟨h1, h2⟩
    show wp (f_Bijections_mark_L2_b (f_Bijections_mark_L2 f) g c (nI X.1) m) Q
    unfold f_Bijections_mark_L2_b
    rw [(hc.fr h1 (by omega)).1]
    exact w_t (nI_le (Nat.le_refl _) (by omega)) (w_ret (hQ m h2 h1))
  · rintro f v m hv ⟨h1, h2⟩ ih
    show wp (f_Bijections_mark_L2_b (f_Bijections_mark_L2 f) g c (nI v) m) Q
    unfold f_Bijections_mark_L2_b
    have cm := hc.fr h1 (by omega)
    rw [cm.1]
    refine w_f (nI_ge hv (by omega)) ?_
    refine w_chk (by rw [len_1 hg]; exact in_N (by omega) (by omega)) ?_
    refine w_bde (e_between hg cm nX hv hv) ?_
    refine w_let ?_
    obtain ⟨w1, w2⟩ := wN_e hX hv
    obtain ⟨l1, l2⟩ := lN_e hX hv
    have e0 : ((8 : Int32) * (m.1 (g + 1) (Int32.toNatClampNeg (nI v)) + 3)) + X.2.2 v v + 2 = nI (mkS X v 0) := by
      rw [cl_8 (by omega), cm.2.1 v hv, w2, l2]
      exact m5c _ w1 _ l1
    rw [e0, show (-2 : Int32) = nI 0 - 2 by decide]
    refine w_for (fun f2 i (x : Int32) => wp (f_Bijections_mark_L35 (f_Bijections_mark_J60 (f_Bijections_mark_L2 f)) f2 g c (nI v) x (nI i - 2) m) Q) (fun i x => x = nI (mkS X v i)) 5 ?_ ?_ 0 _ (by omega) (by omega) rfl
    · rintro f2 x rfl
      show wp (f_Bijections_mark_L35_b (f_Bijections_mark_J60 (f_Bijections_mark_L2 f)) (f_Bijections_mark_L35 (f_Bijections_mark_J60 (f_Bijections_mark_L2 f)) f2) g c (nI v) _ (nI 5 - 2) m) Q
      unfold f_Bijections_mark_L35_b f_Bijections_mark_J60
      refine w_t (by decide) ?_
      refine w_chk (by rw [hlc]; exact in_N (by omega) (by omega)) ?_
      refine w_let ?_
      refine w_let ?_
      rw [cl_8 (by omega), nI_1]
      refine ih _ ⟨h1.trans (Fr.wi (a := c) (b := c + 1) (by omega) (by omega)) (by omega) (by omega) (by omega) (by omega), fun u hu => ?_⟩
      rw [wi_e]
      by_cases e : u = v
      · rw [if_pos ⟨rfl, e⟩, e]
        rfl
      · rw [if_neg (by omega)]
        exact h2 u (by omega)
    · rintro f2 i x hi rfl ih2
      show wp (f_Bijections_mark_L35_b (f_Bijections_mark_J60 (f_Bijections_mark_L2 f)) (f_Bijections_mark_L35 (f_Bijections_mark_J60 (f_Bijections_mark_L2 f)) f2) g c (nI v) _ (nI i - 2) m) Q
      unfold f_Bijections_mark_L35_b
      refine w_f (m5a i hi) ?_
      refine w_bdk (s_edgesOf hg cm nX hv _ ?_)
      refine w_let ?_
      refine w_let ?_
      rw [m5b i hi]
      refine ih2 _ ?_
      rw [show (8 : Int32) = nI 8 from rfl, pk_mul, nI_add]
      rfl
