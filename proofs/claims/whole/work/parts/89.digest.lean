/-! 89: digest -/
def mx (h v : Int64) : Int64 := 31 * h + v
def wF (W : Nat → Int32) (h : Int64) : Nat → Int64
  | 0 => h
  | k + 1 => mx (wF W h k) (Int32.toInt64 (W k))
def oF (E : Nat → Nat → Int32) (n : Nat) (h : Int64) : Nat → Int64
  | 0 => h
  | u + 1 => wF (fun d => E u (u + d)) (oF E n h u) (n - u)
def hwF (G : HG) (h : Int64) : Int64 := oF G.2.2 G.1 (wF G.2.1 (mx h (Int32.toInt64 (nI G.1))) G.1) G.1
noncomputable def gF (G : HG) (h : Int64) : Int64 := mx (mx (mx (hwF G h) (Int32.toInt64 (nI (twN G.1 G.2.2) - 1))) (Int32.toInt64 (nI (tr (lkB G G) G.1 G.1 (fun _ => 0) 0)))) (Int32.toInt64 (nI (cn (coK G G.1) G.1)))
noncomputable def aF (σ : HS) : Nat → Int64
  | 0 => mx 2879 (Int32.toInt64 (nI σ.2.2.1))
  | i + 1 => gF (σ.1 i) (aF σ i)
noncomputable def hmB (X Y : HG) : Bool := @decide (hom X Y) (Classical.propDecidable _)
theorem hmB_t {X Y : HG} : hmB X Y = true ↔ hom X Y := ⟨fun h => @of_decide_eq_true _ (Classical.propDecidable _) h, fun h => @decide_eq_true _ (Classical.propDecidable _) h⟩
noncomputable def cmV (X Y : HG) : Int32 := (if hmB X Y then 1 else 0) + (if hmB Y X then 2 else 0)
noncomputable def kF (σ : HS) (h : Int64) : Nat → Int64
  | 0 => h
  | k + 1 => mx (kF σ h k) (Int32.toInt64 (cmV (σ.1 (k / 4)) (σ.1 (k % 4))))
noncomputable def dgF (σ : HS) : Int64 := mx (kF σ (aF σ 4) 16) (Int32.toInt64 (nI σ.2.1.1))
theorem s_hashW {μ : HMem} {g : Nat} {G : HG} (hg : IsG g) (hc : CG μ g G) (hn : G.1 ≤ 8) (h : Int64) {Q : Int64 → HMem → Prop} (hQ : Q (hwF G h) μ) : wp (f_Bench_hashOfWeights h g μ) Q := by
  unfold f_Bench_hashOfWeights
  refine w_let ?_
  rw [hc.1]
  refine w_for (fun f i (x : Int64) => wp (f_Bench_hashOfWeights_L15 f_Bench_hashOfWeights_J45 f g x (nI i) μ) Q) (fun i x => x = wF G.2.1 (mx h (Int32.toInt64 (nI G.1))) i) G.1 ?_ ?_ 0 _ (Nat.zero_le _) (by omega) rfl
  · intro k x hx
    show wp (f_Bench_hashOfWeights_L15_b _ _ _ _ _ _) Q
    unfold f_Bench_hashOfWeights_L15_b
    rw [hc.1]
    refine w_t (nI_le (Nat.le_refl _) (by omega)) ?_
    unfold f_Bench_hashOfWeights_J45
    refine w_for (fun f u (y : Int64) => wp (f_Bench_hashOfWeights_L48 f g y (nI u) μ) Q) (fun u y => y = oF G.2.2 G.1 x u) G.1 ?_ ?_ 0 _ (Nat.zero_le _) (by omega) rfl
    · intro k y hy
      show wp (f_Bench_hashOfWeights_L48_b _ _ _ _ _) Q
      unfold f_Bench_hashOfWeights_L48_b
      rw [hc.1]
      refine w_t (nI_le (Nat.le_refl _) (by omega)) (w_ret ?_)
      rw [hy, hx]
      exact hQ
    · intro k u y hu hy ih
      show wp (f_Bench_hashOfWeights_L48_b _ _ _ _ _) Q
      unfold f_Bench_hashOfWeights_L48_b
      rw [hc.1]
      refine w_f (nI_ge hu (by omega)) ?_
      refine w_for (fun f v (z : Int64) => wp (f_Bench_hashOfWeights_L61 (f_Bench_hashOfWeights_J92 (f_Bench_hashOfWeights_L48 k)) f g z (nI u) (nI v) μ) Q) (fun v z => u ≤ v ∧ z = wF (fun d => G.2.2 u (u + d)) y (v - u)) G.1 ?_ ?_ u _ (by omega) (by omega) ⟨Nat.le_refl _, by rw [Nat.sub_self]; rfl⟩
      · intro k2 z hz
        show wp (f_Bench_hashOfWeights_L61_b _ _ _ _ _ _ _) Q
        unfold f_Bench_hashOfWeights_L61_b
        rw [hc.1]
        refine w_t (nI_le (Nat.le_refl _) (by omega)) ?_
        unfold f_Bench_hashOfWeights_J92
        refine w_let ?_
        rw [nI_1]
        exact ih z (by rw [hz.2, hy]; rfl)
      · intro k2 v z hv hz ih2
        obtain ⟨hvu, hz⟩ := hz
        show wp (f_Bench_hashOfWeights_L61_b _ _ _ _ _ _ _) Q
        unfold f_Bench_hashOfWeights_L61_b
        rw [hc.1]
        refine w_f (nI_ge hv (by omega)) ?_
        rw [e_between hg hc hn hu hv, bd_some]
        refine w_let (w_let ?_)
        rw [nI_1]
        refine ih2 _ ⟨by omega, ?_⟩
        rw [show v + 1 - u = (v - u) + 1 by omega, hz]
        show _ = mx _ (Int32.toInt64 (G.2.2 u (u + (v - u))))
        rw [show u + (v - u) = v by omega]
        rfl
  · intro k i x hi hx ih
    show wp (f_Bench_hashOfWeights_L15_b _ _ _ _ _ _) Q
    unfold f_Bench_hashOfWeights_L15_b
    rw [hc.1]
    refine w_f (nI_ge hi (by omega)) ?_
    refine w_chk (in_8 (by omega) (len_1 hg)) ?_
    rw [cl_8 (by omega), hc.2.1 i hi]
    refine w_let (w_let ?_)
    rw [nI_1]
    exact ih _ (by rw [hx]; rfl)
theorem el85n {i : Nat} (hi : i < 4) : h_el 85 (Int32.toNatClampNeg (nI i)) = 4 * i := by rw [cl_8 (by omega), el85]
theorem in85 {i : Nat} (hi : i < 4) : vp_in (nI i) (h_len 85) := in_N (by rw [show h_len 85 = 4 from rfl]; omega) (by decide)
theorem cm_split (a b : Bool) (h : Int64) : ((31 * h) + (Int32.toInt64 (if a then 1 else 0))) + (Int32.toInt64 (if b then 2 else 0)) = mx h (Int32.toInt64 ((if a then 1 else 0) + (if b then 2 else 0))) := by
  have e : ∀ a b : Bool, Int32.toInt64 (if a then 1 else 0) + Int32.toInt64 (if b then 2 else 0) = Int32.toInt64 ((if a then 1 else 0) + (if b then 2 else 0)) := by decide
  unfold mx
  rw [Int64.add_assoc, e]
/-- the pairs that map, as bits -/
theorem s_comparisons {σ : HS} (ok : OKs σ) {μ : HMem} (hc : CS σ μ) (hr : RS σ μ) (h : Int64) {Q : Int64 → HMem → Prop} (hQ : ∀ μ', CS σ μ' → RS σ μ' → Q (kF σ h 16) μ') : wp (f_Bench_hashOfComparisons h μ) Q := by
  have hV : ∀ i, i < 4 → GV (σ.1 i) := ok.1
  unfold f_Bench_hashOfComparisons
  -- behind the search
  have post : ∀ (ma : Int32) (μ1 : HMem), (∀ x y, x < 4 → y < 4 → bt ma (4 * x + y) = hmB (σ.1 x) (σ.1 y)) → CS σ μ1 → RS σ μ1 → wp (f_Bench_hashOfComparisons_J68 h ma μ1) Q := by
    intro ma μ1 hma c1 r1
    unfold f_Bench_hashOfComparisons_J68
    refine w_for (fun f x (y : Int64) => wp (f_Bench_hashOfComparisons_L74 f ma y (nI x) μ1) Q) (fun x y => y = kF σ h (4 * x)) 4 ?_ ?_ 0 _ (Nat.zero_le _) (by omega) rfl
    · intro k y hy
      show wp (f_Bench_hashOfComparisons_L74_b _ _ _ _ _) Q
      unfold f_Bench_hashOfComparisons_L74_b
      refine w_t (by decide) (w_ret ?_)
      rw [hy]
      exact hQ _ c1 r1
    · intro k x y hx hy ih
      show wp (f_Bench_hashOfComparisons_L74_b _ _ _ _ _) Q
      unfold f_Bench_hashOfComparisons_L74_b
      refine w_f (nI_ge (b := 4) hx (by omega)) ?_
      refine w_for (fun f z (w : Int64) => wp (f_Bench_hashOfComparisons_L83 (f_Bench_hashOfComparisons_J153 (f_Bench_hashOfComparisons_L74 k)) f ma w (nI x) (nI z) μ1) Q) (fun z w => w = kF σ h (4 * x + z)) 4 ?_ ?_ 0 _ (Nat.zero_le _) (by omega) hy
      · intro k2 w hw
        show wp (f_Bench_hashOfComparisons_L83_b _ _ _ _ _ _ _) Q
        unfold f_Bench_hashOfComparisons_L83_b
        refine w_t (by decide) ?_
        unfold f_Bench_hashOfComparisons_J153
        refine w_let ?_
        rw [nI_1]
        exact ih w hw
      · intro k2 z w hz hw ih2
        show wp (f_Bench_hashOfComparisons_L83_b _ _ _ _ _ _ _) Q
        unfold f_Bench_hashOfComparisons_L83_b
        refine w_f (nI_ge (b := 4) hz (by omega)) ?_
        rw [x4, e_has ma (by omega), bd_some, hma x z hx hz]
        have last : ∀ s0 : Int32, s0 = (if hmB (σ.1 x) (σ.1 z) then 1 else 0) → wp (f_Bench_hashOfComparisons_J108 (f_Bench_hashOfComparisons_L83 (f_Bench_hashOfComparisons_J153 (f_Bench_hashOfComparisons_L74 k)) k2) ma w (nI x) (nI z) s0 μ1) Q := by
          rintro s0 rfl
          unfold f_Bench_hashOfComparisons_J108
          rw [x4, e_has ma (by omega), bd_some, hma z x hz hx]
          have last2 : ∀ s1 : Int32, s1 = (if hmB (σ.1 z) (σ.1 x) then 2 else 0) → wp (f_Bench_hashOfComparisons_J129 (f_Bench_hashOfComparisons_L83 (f_Bench_hashOfComparisons_J153 (f_Bench_hashOfComparisons_L74 k)) k2) ma w (nI x) (nI z) (if hmB (σ.1 x) (σ.1 z) then 1 else 0) s1 μ1) Q := by
            rintro s1 rfl
            unfold f_Bench_hashOfComparisons_J129
            refine w_let (w_let ?_)
            rw [nI_1, cm_split]
            refine ih2 _ ?_
            rw [hw]
            show _ = mx _ (Int32.toInt64 (cmV (σ.1 ((4 * x + z) / 4)) (σ.1 ((4 * x + z) % 4))))
            rw [show (4 * x + z) / 4 = x by omega, show (4 * x + z) % 4 = z by omega]
            rfl
          cases hb : hmB (σ.1 z) (σ.1 x) with
          | false => exact w_t rfl (last2 0 (by rw [hb]; rfl))
          | true => exact w_f (by decide) (last2 2 (by rw [hb]; rfl))
        cases hb : hmB (σ.1 x) (σ.1 z) with
        | false => exact w_t rfl (last 0 (by rw [hb]; rfl))
        | true => exact w_f (by decide) (last 1 (by rw [hb]; rfl))
  -- the search
  have e0 : ∀ z, z = nI 0 → wp (f_Bench_hashOfComparisons_L5 f_Bench_hashOfComparisons_J68 h_fuel h 0 z μ) Q := ?_
  · exact e0 0 rfl
  rintro z rfl
  refine w_for (fun f x (s : Int32 × HMem) => wp (f_Bench_hashOfComparisons_L5 f_Bench_hashOfComparisons_J68 f h s.1 (nI x) s.2) Q) (fun x s => (∀ k, bt s.1 k = true ↔ k < 4 * x ∧ hmB (σ.1 (k / 4)) (σ.1 (k % 4)) = true) ∧ CS σ s.2 ∧ RS σ s.2) 4 ?_ ?_ 0 (0, μ) (Nat.zero_le _) (by omega) ⟨fun k => ⟨fun h => (by rw [b_0] at h; cases h), fun h => absurd h.1 (by omega)⟩, hc, hr⟩
  · intro k s hs
    show wp (f_Bench_hashOfComparisons_L5_b _ _ _ _ _ _) Q
    unfold f_Bench_hashOfComparisons_L5_b
    refine w_t (by decide) (post s.1 s.2 (fun x y hx hy => ?_) hs.2.1 hs.2.2)
    have e := hs.1 (4 * x + y)
    rw [show (4 * x + y) / 4 = x by omega, show (4 * x + y) % 4 = y by omega] at e
    cases hb : hmB (σ.1 x) (σ.1 y) with
    | false =>
      rw [hb] at e
      cases hb2 : bt s.1 (4 * x + y) with
      | false => rfl
      | true => exact absurd (e.mp hb2).2 (by decide)
    | true => exact e.mpr ⟨by omega, hb⟩
  · intro k x s hx hs ih
    show wp (f_Bench_hashOfComparisons_L5_b _ _ _ _ _ _) Q
    unfold f_Bench_hashOfComparisons_L5_b
    refine w_f (nI_ge (b := 4) hx (by omega)) ?_
    refine w_for (fun f y (s : Int32 × HMem) => wp (f_Bench_hashOfComparisons_L14 (f_Bench_hashOfComparisons_J62 (f_Bench_hashOfComparisons_L5 f_Bench_hashOfComparisons_J68 k)) f h s.1 (nI x) (nI y) s.2) Q) (fun y s => (∀ k, bt s.1 k = true ↔ k < 4 * x + y ∧ hmB (σ.1 (k / 4)) (σ.1 (k % 4)) = true) ∧ CS σ s.2 ∧ RS σ s.2) 4 ?_ ?_ 0 s (Nat.zero_le _) (by omega) hs
    · intro k2 s2 hs2
      show wp (f_Bench_hashOfComparisons_L14_b _ _ _ _ _ _ _) Q
      unfold f_Bench_hashOfComparisons_L14_b
      refine w_t (by decide) ?_
      unfold f_Bench_hashOfComparisons_J62
      refine w_let ?_
      rw [nI_1]
      exact ih s2 hs2
    · intro k2 y s2 hy hs2 ih2
      show wp (f_Bench_hashOfComparisons_L14_b _ _ _ _ _ _ _) Q
      unfold f_Bench_hashOfComparisons_L14_b
      refine w_f (nI_ge (b := 4) hy (by omega)) (w_chk (in85 hx) (w_chk (in85 hy) ?_))
      rw [el85n hx, el85n hy]
      refine w_bdk (s_maps (isg_g hx) (isg_g hy) (hs2.2.1.1 x hx) (hs2.2.1.1 y hy) (hV x hx) (hV y hy) (fun b m1 hb f1 => ?_))
      have c1 := hs2.2.1.fr f1 (by omega)
      have r1 := hs2.2.2.fr f1 (by omega)
      have dm : (4 * x + y) / 4 = x := by omega
      have mm : (4 * x + y) % 4 = y := by omega
      unfold f_Bench_hashOfComparisons_J56
      cases b with
      | false =>
        refine w_t rfl (w_let ?_)
        rw [nI_1]
        refine ih2 (s2.1, m1) ⟨fun k => ?_, c1, r1⟩
        rw [hs2.1 k]
        constructor
        · exact fun h => ⟨by omega, h.2⟩
        · intro h
          rcases Nat.lt_or_ge k (4 * x + y) with h1 | h1
          · exact ⟨h1, h.2⟩
          · have : k = 4 * x + y := by omega
            subst this
            have h2 := h.2
            rw [dm, mm, hmB_t, ← hb] at h2
            cases h2
      | true =>
        refine w_f (by decide) (w_let (w_let ?_))
        rw [nI_1, x4]
        refine ih2 (_, m1) ⟨fun k => ?_, c1, r1⟩
        show bt (s2.1 ||| h_ishl 1 (nI (4 * x + y))) k = true ↔ _
        rw [b_or, b_one (by omega), Bool.or_eq_true, hs2.1 k, decide_eq_true_iff]
        constructor
        · rintro (h | rfl)
          · exact ⟨by omega, h.2⟩
          · rw [dm, mm, hmB_t]
            exact ⟨by omega, hb.mp rfl⟩
        · intro h
          rcases Nat.lt_or_ge k (4 * x + y) with h1 | h1
          · exact Or.inl ⟨h1, h.2⟩
          · exact Or.inr (by omega)
theorem core8 {X : HG} (hn : X.1 ≤ 8) {r : Int32} (hrr : ∀ w, bt r w = coK X X.1 w) (μ : HMem) : f_Integer_bitCount r μ = some (nI (cn (coK X X.1) X.1), μ) := by
  have s8 : S8 r := fun w hw => by
    rw [hrr w]
    cases hb : coK X X.1 w with
    | false => rfl
    | true => have := coK_lt hb; omega
  have e1 : cn (bt r) 8 = cn (coK X X.1) X.1 := by
    rw [cn_ext (q := coK X X.1) (fun w _ => hrr w)]
    have := cn_add (p := coK X X.1) X.1 (8 - X.1) (fun w h1 _ => by
      cases hb : coK X X.1 w with
      | false => rfl
      | true => have := coK_lt hb; omega)
    rw [show X.1 + (8 - X.1) = 8 by omega] at this
    exact this
  rw [f_bitCount s8, e1]
theorem s_cdigest {σ : HS} (ok : OKs σ) {μ : HMem} (hc : CS σ μ) (hr : RS σ μ) {Q : Int64 → HMem → Prop} (hQ : ∀ μ', CS σ μ' → RS σ μ' → Q (dgF σ) μ') : wp (f_Bench_digest μ) Q := by
  have ct := hc.2.2.1
  unfold f_Bench_digest
  refine w_let ?_
  rw [ct]
  refine w_for (fun f i (s : Int64 × HMem) => wp (f_Bench_digest_L15 f_Bench_digest_J103 f s.1 (nI i) s.2) Q) (fun i s => s.1 = aF σ i ∧ CS σ s.2 ∧ RS σ s.2) 4 ?_ ?_ 0 (_, μ) (Nat.zero_le _) (by omega) ⟨rfl, hc, hr⟩
  · intro k s hs
    show wp (f_Bench_digest_L15_b _ _ _ _ _) Q
    unfold f_Bench_digest_L15_b
    refine w_t (by decide) ?_
    unfold f_Bench_digest_J103
    refine w_bdk (s_comparisons ok hs.2.1 hs.2.2 s.1 (fun m1 c1 r1 => ?_))
    obtain ⟨o, _, _, h2, _⟩ := c1.2.1
    rw [h2]
    refine w_ret ?_
    have := hQ m1 c1 r1
    unfold dgF mx at this
    rw [hs.1]
    exact this
  · intro k i s hi hs ih
    have hV := ok.1 i hi
    show wp (f_Bench_digest_L15_b _ _ _ _ _) Q
    unfold f_Bench_digest_L15_b
    refine w_f (nI_ge (b := 4) hi (by omega)) (w_chk (in85 hi) ?_)
    rw [el85n hi]
    have c0 := hs.2.1
    refine w_bdk (s_hashW (isg_g hi) (c0.1 i hi) hV.1 s.1 ?_)
    refine w_chk (in85 hi) ?_
    refine w_bdk (s_smallestWidth (isg_g hi) (c0.1 i hi) hV.1 (fun m1 f1 => ?_))
    have c1 := c0.fr f1 (by omega)
    refine w_let (w_chk (in85 hi) ?_)
    refine w_bdk (s_countOnto (isg_g hi) (c1.1 i hi) hV (fun m2 f2 => ?_))
    have c2 := c1.fr f2 (by omega)
    refine w_let (w_chk (in85 hi) ?_)
    refine w_bdk (s_ccore (isg_g hi) (c2.1 i hi) hV (fun r m3 hrr f3 => ?_))
    rw [core8 hV.1 hrr, bd_some]
    refine w_let (w_let ?_)
    rw [nI_1]
    refine ih (_, m3) ⟨?_, c2.fr f3 (by omega), ((hs.2.2.fr f1 (by omega)).fr f2 (by omega)).fr f3 (by omega)⟩
    show _ = gF (σ.1 i) (aF σ i)
    rw [hs.1]
    rfl
/-- the reference, as it mixes -/
def MX (σ : HS) (x : Int64) (m : HMem) : Prop := CS σ m ∧ RS σ m ∧ m.2 125 25 = x
theorem MX.fr {σ : HS} {x : Int64} {m m' : HMem} {a b : Nat} (h : MX σ x m) (f : Fr a b m m') (ha : 129 ≤ a) : MX σ x m' := ⟨h.1.fr f (by omega), h.2.1.fr f (by omega), by rw [f.l (by omega)]; exact h.2.2⟩
theorem w_mix {σ : HS} {x : Int64} {m : HMem} (h : MX σ x m) (v : Int64) {R : Type} {K : Unit → HMem → Option (R × HMem)} {Q : R → HMem → Prop} (k : ∀ m', MX σ (mx x v) m' → wp (K () m') Q) : wp (h_bd (f_Model_mix v m) K) Q := by
  refine w_bdk ?_
  unfold f_Model_mix
  refine w_let (w_ret ?_)
  refine k _ ⟨h.1.wl _ _ _, h.2.1.wl _ _ _, ?_⟩
  rw [wl_s, h.2.2]
  rfl
theorem s_mixGraph {σ : HS} (ok : OKs σ) {i : Nat} (hi : i < 4) {x : Int64} {m : HMem} (h : MX σ x m) {Q : Unit → HMem → Prop} (hQ : ∀ m', MX σ (gF (σ.1 i) x) m' → Q () m') : wp (f_Model_mixGraph (nI i) m) Q := by
  have hV := ok.1 i hi
  have hn := hV.1
  have rg : ∀ {y : Int64} {m' : HMem}, MX σ y m' → RG (m'.1 126) (73 * i) (σ.1 i) := fun h' => h'.2.1.1 i hi
  unfold f_Model_mixGraph
  refine w_bde (e_msize (by omega) (rg h)) ?_
  refine w_mix h _ (fun m1 h1 => ?_)
  have e0 : ∀ z, z = nI 0 → wp (f_Model_mixGraph_L12 f_Model_mixGraph_J38 h_fuel (nI i) z m1) Q := ?_
  · exact e0 0 rfl
  rintro z rfl
  refine w_for (fun f v (s : HMem) => wp (f_Model_mixGraph_L12 f_Model_mixGraph_J38 f (nI i) (nI v) s) Q) (fun v s => MX σ (wF (σ.1 i).2.1 (mx x (Int32.toInt64 (nI (σ.1 i).1))) v) s) (σ.1 i).1 ?_ ?_ 0 m1 (Nat.zero_le _) (by omega) h1
  · intro k s hs
    show wp (f_Model_mixGraph_L12_b _ _ _ _ _) Q
    unfold f_Model_mixGraph_L12_b
    refine w_bde (e_msize (by omega) (rg hs)) ?_
    refine w_t (nI_le (Nat.le_refl _) (by omega)) ?_
    unfold f_Model_mixGraph_J38
    have e1 : ∀ z, z = nI 0 → wp (f_Model_mixGraph_L40 f_Model_mixGraph_J84 h_fuel (nI i) z s) Q := ?_
    · exact e1 0 rfl
    rintro z rfl
    refine w_for (fun f u (s : HMem) => wp (f_Model_mixGraph_L40 f_Model_mixGraph_J84 f (nI i) (nI u) s) Q) (fun u s => MX σ (oF (σ.1 i).2.2 (σ.1 i).1 (wF (σ.1 i).2.1 (mx x (Int32.toInt64 (nI (σ.1 i).1))) (σ.1 i).1) u) s) (σ.1 i).1 ?_ ?_ 0 s (Nat.zero_le _) (by omega) hs
    · intro k s hs
      show wp (f_Model_mixGraph_L40_b _ _ _ _ _) Q
      unfold f_Model_mixGraph_L40_b
      refine w_bde (e_msize (by omega) (rg hs)) ?_
      refine w_t (nI_le (Nat.le_refl _) (by omega)) ?_
      unfold f_Model_mixGraph_J84
      refine w_bdk (s_treewidthOf (by omega) hV (rg hs) (fun m3 f3 => ?_))
      refine w_mix (hs.fr f3 (by omega)) _ (fun m4 h4 => ?_)
      refine w_bdk (s_bijectionsOf (by omega) (by omega) hn hn (rg h4) (rg h4) (fun m5 f5 => ?_))
      rw [if_pos rfl]
      refine w_mix (h4.fr f5 (by omega)) _ (fun m6 h6 => ?_)
      refine w_bdk ?_
      unfold f_Model_coreOf
      refine w_bdk (s_copies (k' := 4) (by omega) (by omega) (by omega) (fun m7 e1 e2 => ?_))
      have hrg : RG (m7.1 126) 292 (σ.1 i) := (rg h6).shift hn (fun j hj => e1 j hj)
      refine w_bdk (s_shrinks hV hrg (fun m8 g1 g2 => ?_))
      have q := (Fq.fw e2 (by omega)).trans g2
      refine w_ret ?_
      refine w_mix (x := mx (mx (hwF (σ.1 i) x) (Int32.toInt64 (nI (twN (σ.1 i).1 (σ.1 i).2.2) - 1))) (Int32.toInt64 (nI (tr (lkB (σ.1 i) (σ.1 i)) (σ.1 i).1 (σ.1 i).1 (fun _ => 0) 0)))) ⟨h6.1.fq q, h6.2.1.fq ok q, by rw [q.1.l (by omega)]; exact h6.2.2⟩ _ (fun m9 h9 => ?_)
      exact w_ret (hQ m9 h9)
    · intro k u s hu hs ih
      show wp (f_Model_mixGraph_L40_b _ _ _ _ _) Q
      unfold f_Model_mixGraph_L40_b
      refine w_bde (e_msize (by omega) (rg hs)) ?_
      refine w_f (nI_ge hu (by omega)) ?_
      refine w_for (fun f v (s2 : HMem) => wp (f_Model_mixGraph_L51 (f_Model_mixGraph_J78 (f_Model_mixGraph_L40 f_Model_mixGraph_J84 k)) f (nI i) (nI u) (nI v) s2) Q) (fun v s2 => u ≤ v ∧ MX σ (wF (fun d => (σ.1 i).2.2 u (u + d)) (oF (σ.1 i).2.2 (σ.1 i).1 (wF (σ.1 i).2.1 (mx x (Int32.toInt64 (nI (σ.1 i).1))) (σ.1 i).1) u) (v - u)) s2) (σ.1 i).1 ?_ ?_ u s (by omega) (by omega) ⟨Nat.le_refl _, by rw [Nat.sub_self]; exact hs⟩
      · intro k2 s2 hs2
        show wp (f_Model_mixGraph_L51_b _ _ _ _ _ _) Q
        unfold f_Model_mixGraph_L51_b
        refine w_bde (e_msize (by omega) (rg hs2.2)) ?_
        refine w_t (nI_le (Nat.le_refl _) (by omega)) ?_
        unfold f_Model_mixGraph_J78
        refine w_let ?_
        rw [nI_1]
        exact ih s2 hs2.2
      · intro k2 v s2 hv hs2 ih2
        show wp (f_Model_mixGraph_L51_b _ _ _ _ _ _) Q
        unfold f_Model_mixGraph_L51_b
        refine w_bde (e_msize (by omega) (rg hs2.2)) ?_
        refine w_f (nI_ge hv (by omega)) ?_
        rw [e_mbetween (by omega) hn (rg hs2.2) hu hv, bd_some]
        refine w_mix hs2.2 _ (fun m3 h3 => ?_)
        refine w_let ?_
        rw [nI_1]
        refine ih2 m3 ⟨by omega, ?_⟩
        have e : v + 1 - u = (v - u) + 1 := by have := hs2.1; omega
        rw [e]
        show MX σ (mx _ (Int32.toInt64 ((σ.1 i).2.2 u (u + (v - u))))) m3
        rw [show u + (v - u) = v by have := hs2.1; omega]
        exact h3
  · intro k v s hv hs ih
    show wp (f_Model_mixGraph_L12_b _ _ _ _ _) Q
    unfold f_Model_mixGraph_L12_b
    refine w_bde (e_msize (by omega) (rg hs)) ?_
    refine w_f (nI_ge hv (by omega)) ?_
    rw [e_mweight (by omega) hn (rg hs) hv, bd_some]
    refine w_mix hs _ (fun m3 h3 => ?_)
    refine w_let ?_
    rw [nI_1]
    exact ih m3 h3
theorem w_compared {σ : HS} (ok : OKs σ) {i j : Nat} (hi : i < 4) (hj : j < 4) {x : Int64} {m : HMem} (h : MX σ x m) {R : Type} {K : Int32 → HMem → Option (R × HMem)} {Q : R → HMem → Prop} (k : ∀ m', MX σ x m' → wp (K (cmV (σ.1 i) (σ.1 j)) m') Q) : wp (h_bd (f_Model_compared (nI i) (nI j) m) K) Q := by
  have hX := ok.1 i hi
  have hY := ok.1 j hj
  refine w_bdk ?_
  unfold f_Model_compared
  refine w_bdk (s_isFree (by omega) (by omega) hX hY (h.2.1.1 i hi) (h.2.1.1 j hj) (fun b1 m3 hb1 f3 _ => ?_))
  rw [free_hom hY] at hb1
  have h3 := h.fr f3 (by omega)
  unfold f_Model_compared_J15 f_Model_compared_J30
  have e1 : hmB (σ.1 i) (σ.1 j) = b1 := by
    cases b1 with
    | true => exact hmB_t.mpr (hb1.mp rfl)
    | false =>
      cases hh : hmB (σ.1 i) (σ.1 j) with
      | false => rfl
      | true => exact absurd (hb1.mpr (hmB_t.mp hh)) (by decide)
  have go : ∀ s0 : Int32, s0 = (if b1 then 1 else 0) → wp (h_bd (f_Model_isFree (nI j) (nI i) (-1) m3) (fun r19 μ_19 => if r19 = 0 then some (s0 + 0, μ_19) else some (s0 + 2, μ_19))) (fun r μ => wp (K r μ) Q) := by
    rintro s0 rfl
    refine w_bdk (s_isFree (by omega) (by omega) hY hX (h3.2.1.1 j hj) (h3.2.1.1 i hi) (fun b2 m4 hb2 f4 _ => ?_))
    rw [free_hom hX] at hb2
    have h4 := h3.fr f4 (by omega)
    have e2 : hmB (σ.1 j) (σ.1 i) = b2 := by
      cases b2 with
      | true => exact hmB_t.mpr (hb2.mp rfl)
      | false =>
        cases hh : hmB (σ.1 j) (σ.1 i) with
        | false => rfl
        | true => exact absurd (hb2.mpr (hmB_t.mp hh)) (by decide)
    have kk := k m4 h4
    unfold cmV at kk
    rw [e1, e2] at kk
    cases b2 with
    | false => exact w_t rfl (w_ret kk)
    | true => exact w_f (by decide) (w_ret kk)
  cases b1 with
  | false => exact w_t rfl (go 0 rfl)
  | true => exact w_f (by decide) (go 1 rfl)
theorem s_mdigest {σ : HS} (ok : OKs σ) {μ : HMem} (hc : CS σ μ) (hr : RS σ μ) {Q : Int64 → HMem → Prop} (hQ : ∀ μ', CS σ μ' → RS σ μ' → Q (dgF σ) μ') : wp (f_Model_digest μ) Q := by
  unfold f_Model_digest
  refine w_let (w_let ?_)
  have h0 : MX σ 2879 (h_wl (h_wi μ 125 5 0) 125 25 2879) := ⟨(hc.w5 0).wl _ _ _, (hr.w5 0).wl _ _ _, wl_s _ _ _ _⟩
  generalize h_wl (h_wi μ 125 5 0) 125 25 2879 = m0 at h0
  rw [h0.2.1.2.2.1]
  refine w_mix h0 _ (fun m1 h1 => ?_)
  have e0 : ∀ z, z = nI 0 → wp (f_Model_digest_L23 f_Model_digest_J39 h_fuel z m1) Q := ?_
  · exact e0 0 rfl
  rintro z rfl
  refine w_for (fun f i (s : HMem) => wp (f_Model_digest_L23 f_Model_digest_J39 f (nI i) s) Q) (fun i s => MX σ (aF σ i) s) 4 ?_ ?_ 0 m1 (Nat.zero_le _) (by omega) h1
  · intro k s hs
    show wp (f_Model_digest_L23_b _ _ _ _) Q
    unfold f_Model_digest_L23_b
    refine w_t (by decide) ?_
    unfold f_Model_digest_J39
    have e1 : ∀ z, z = nI 0 → wp (f_Model_digest_L41 f_Model_digest_J68 h_fuel z s) Q := ?_
    · exact e1 0 rfl
    rintro z rfl
    refine w_for (fun f i (s : HMem) => wp (f_Model_digest_L41 f_Model_digest_J68 f (nI i) s) Q) (fun i s => MX σ (kF σ (aF σ 4) i) s) 16 ?_ ?_ 0 s (Nat.zero_le _) (by omega) hs
    · intro k s hs
      show wp (f_Model_digest_L41_b _ _ _ _) Q
      unfold f_Model_digest_L41_b
      refine w_t (by decide) ?_
      unfold f_Model_digest_J68
      rw [hs.2.1.2.1.1]
      refine w_mix hs _ (fun m2 h2 => ?_)
      rw [h2.2.2]
      exact w_ret (hQ m2 h2.1 h2.2.1)
    · intro k i s hi hs ih
      show wp (f_Model_digest_L41_b _ _ _ _) Q
      unfold f_Model_digest_L41_b
      refine w_f (nI_ge (b := 16) hi (by omega)) (w_f (by decide) (w_f (by decide) ?_))
      have e4 : nI i / 4 = nI (i / 4) ∧ h_irem (nI i) 4 = nI (i % 4) := (by decide +kernel : ∀ i, i < 16 → nI i / 4 = nI (i / 4) ∧ h_irem (nI i) 4 = nI (i % 4)) i hi
      rw [e4.1, e4.2]
      refine w_compared ok (by omega) (by omega) hs (fun m2 h2 => ?_)
      refine w_mix h2 _ (fun m3 h3 => ?_)
      refine w_let ?_
      rw [nI_1]
      exact ih m3 h3
  · intro k i s hi hs ih
    show wp (f_Model_digest_L23_b _ _ _ _) Q
    unfold f_Model_digest_L23_b
    refine w_f (nI_ge (b := 4) hi (by omega)) ?_
    refine w_bdk (s_mixGraph ok hi hs (fun m2 h2 => ?_))
    refine w_let ?_
    rw [nI_1]
    exact ih m2 h2
theorem LM_digest {μ : HMem} (h : SI μ) : wp (f_Bench_digest μ) (fun r μ1 => wp (f_Model_digest μ1) (fun b μ2 => SI μ2 ∧ r = b)) := by
  obtain ⟨σ, ok, hc, hr⟩ := h
  exact s_cdigest ok hc hr (fun m1 c1 r1 => s_mdigest ok c1 r1 (fun m2 c2 r2 => ⟨⟨σ, ok, c2, r2⟩, rfl⟩))
