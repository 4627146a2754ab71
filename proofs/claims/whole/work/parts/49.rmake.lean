/-! 49: the reference: graphs made in loops -/
theorem e_isOf {n fam u v : Nat} (hn : n ≤ 8) (hf : fam ≤ 4) (hu : u < n) (hv : v < n) (huv : u ≤ v) (μ : HMem) : f_Model_isOf (nI fam) (nI n) (nI u) (nI v) μ = some (bI (fmP fam n u v), μ) := by
  have e1 : (nI v = nI u + 1) ↔ v = u + 1 := by rw [nI_1]; exact eqI (by omega) (by omega)
  have e2 : (nI u = 0) ↔ u = 0 := eqI (b := 0) (by omega) (by omega)
  have e3 : (nI v ≤ 0) ↔ v = 0 := by
    have := nI_leI (a := v) (b := 0) (by omega) (by omega)
    rw [nI_0] at this
    rw [this]; omega
  have e4 : (nI u = nI v) ↔ u = v := eqI (by omega) (by omega)
  have e5 : (nI n ≤ (2 : Int32)) ↔ n ≤ 2 := nI_leI (b := 2) (by omega) (by omega)
  have e6 : (nI v = nI n - 1) ↔ v = n - 1 := by
    obtain ⟨q, rfl⟩ : ∃ q, n = q + 1 := ⟨n - 1, by omega⟩
    rw [nI_pred]
    exact eqI (by omega) (by omega)
  unfold f_Model_isOf f_Model_isOf_J44 f_Model_isOf_J68 f_Model_isOf_J72 f_Model_isOf_J73 f_Model_isOf_J84 f_Model_isOf_J97 f_Model_isOf_J98
  rcases (by omega : fam = 0 ∨ fam = 1 ∨ fam = 2 ∨ fam = 3 ∨ fam = 4) with rfl | rfl | rfl | rfl | rfl
  · rw [if_neg (by decide), if_pos (by decide)]
    unfold fmP
    by_cases c : v = u + 1
    · rw [if_neg (fun h => h (e1.mpr c))]; simp [c, bI]
    · rw [if_pos (fun h => c (e1.mp h))]; simp [c, bI]
  · rw [if_neg (by decide), if_neg (by decide), if_pos (by decide)]
    unfold fmP
    by_cases c : v = u + 1
    · rw [if_pos (e1.mpr c)]; simp [c, bI]
    · rw [if_neg (fun h => c (e1.mp h))]
      by_cases c2 : n ≤ 2
      · rw [if_pos (e5.mpr c2)]
        have : ¬ 3 ≤ n := by omega
        simp [c, this, bI]
      · rw [if_neg (fun h => c2 (e5.mp h))]
        have c2' : 3 ≤ n := by omega
        by_cases c3 : u = 0
        · rw [if_neg (fun h => h (e2.mpr c3))]
          by_cases c4 : v = n - 1
          · rw [if_neg (fun h => h (e6.mpr c4))]
            have : (v == n - 1) = true := by rw [c4]; simp
            simp [c2', c3, this, bI]
          · rw [if_pos (fun h => c4 (e6.mp h))]
            simp [c, c4, bI]
        · rw [if_pos (fun h => c3 (e2.mp h))]
          simp [c, c3, bI]
  · rw [if_neg (by decide), if_neg (by decide), if_neg (by decide), if_pos (by decide)]
    unfold fmP
    by_cases c : u = v
    · rw [if_pos (e4.mpr c)]; simp [c, bI]
    · rw [if_neg (fun h => c (e4.mp h))]; simp [c, bI]
  · rw [if_neg (by decide), if_neg (by decide), if_neg (by decide), if_neg (by decide), if_pos (by decide)]
    unfold fmP
    by_cases c : u = 0
    · rw [if_neg (fun h => h (e2.mpr c))]
      by_cases c2 : v = 0
      · rw [if_pos (e3.mpr c2)]; simp [c2, bI]
      · rw [if_neg (fun h => c2 (e3.mp h))]; simp [c, c2, bI]
    · rw [if_pos (fun h => c (e2.mp h))]; simp [c, bI]
  · rw [if_pos (by decide)]
    rfl
def alN (E : Nat → Nat → Int32) (n : Nat) : Nat := sm (fun u => cn (fun v => decide (u ≤ v) && !decide (E u v = 0)) n) n
theorem bI_z (b : Bool) : (decide (bI b = 0)) = !b := by cases b <;> decide
theorem s_makeL {μ : HMem} {n : Nat} (hn : n ≤ 8) (h : RG (μ.1 126) 292 (n, fun _ => 1, fun _ _ => 0)) {fam : Nat} (hf : fam ≤ 4) (v1 : Int32) (K : Int32 → Int32 → HMem → Option (Int32 × HMem)) {Q : Int32 → HMem → Prop} (hQ : ∀ μ', RG (μ'.1 126) 292 (fmG fam n) → Fw 292 365 μ μ' → wp (K v1 (nI (alN (fmT fam n) n)) μ') Q) : wp (f_Model_make_L50 K h_fuel v1 (nI fam) (nI n) 0 0 μ) Q := by
  refine w_for (fun f i (x : Nat × HMem) => wp (f_Model_make_L50 K f v1 (nI fam) (nI n) (nI x.1) (nI i) x.2) Q) (fun i x => x.1 = sm (fun u => cn (fun v => decide (u ≤ v) && !decide (fmT fam n u v = 0)) n) i ∧ Fw 292 365 μ x.2 ∧ RG (x.2.1 126) 292 (dG n (fun _ => 1) (fun a b => min a b < i) (fmT fam n) (fun _ _ => 0))) n ?_ ?_ 0 (0, μ) (by omega) (by omega) ⟨rfl, Fw.refl _ _ _, h.congr (dG_0 (fun a b _ _ => by omega))⟩
  · rintro f ⟨_, m⟩ ⟨rfl, g1, g2⟩
    show wp (f_Model_make_L50_b K (f_Model_make_L50 K f) v1 (nI fam) (nI n) _ (nI n) m) Q
    unfold f_Model_make_L50_b
    refine w_t (Int32.le_refl _) ?_
    exact hQ m (g2.congr (dG_1 (fun a b ha hb => by omega))) g1
  · rintro f i ⟨_, m⟩ hi ⟨rfl, g1, g2⟩ ih
    show wp (f_Model_make_L50_b K (f_Model_make_L50 K f) v1 (nI fam) (nI n) _ (nI i) m) Q
    unfold f_Model_make_L50_b
    refine w_f (nI_ge hi (by omega)) ?_
    generalize hA : sm (fun u => cn (fun v => decide (u ≤ v) && !decide (fmT fam n u v = 0)) n) i = A at ih ⊢
    refine w_for (fun f2 j (x : Nat × HMem) => wp (f_Model_make_L60 (f_Model_make_J97 (f_Model_make_L50 K f)) f2 v1 (nI fam) (nI n) (nI x.1) (nI i) (nI j) x.2) Q) (fun j x => i ≤ j ∧ x.1 = A + cn (fun v => decide (i ≤ v) && !decide (fmT fam n i v = 0)) j ∧ Fw 292 365 μ x.2 ∧ RG (x.2.1 126) 292 (dG n (fun _ => 1) (fun a b => min a b < i ∨ (min a b = i ∧ max a b < j)) (fmT fam n) (fun _ _ => 0))) n ?_ ?_ i (A, m) (by omega) (by omega) ⟨Nat.le_refl _, ?_, g1, g2.congr (dG_D (fun a b _ _ => by omega))⟩
    · rintro f2 ⟨_, m⟩ ⟨_, rfl, g1, g2⟩
      show wp (f_Model_make_L60_b (f_Model_make_J97 (f_Model_make_L50 K f)) (f_Model_make_L60 (f_Model_make_J97 (f_Model_make_L50 K f)) f2) v1 (nI fam) (nI n) (nI _) (nI i) (nI n) m) Q
      unfold f_Model_make_L60_b f_Model_make_J97
      refine w_t (Int32.le_refl _) ?_
      refine w_let ?_
      rw [nI_1]
      refine ih (_, m) ⟨?_, g1, g2.congr (dG_D (fun a b _ _ => by omega))⟩
      show _ = sm _ i + _
      rw [hA]
    · rintro f2 j ⟨_, m⟩ hj ⟨hij, rfl, g1, g2⟩ ih'
      show wp (f_Model_make_L60_b (f_Model_make_J97 (f_Model_make_L50 K f)) (f_Model_make_L60 (f_Model_make_J97 (f_Model_make_L50 K f)) f2) v1 (nI fam) (nI n) (nI _) (nI i) (nI j) m) Q
      unfold f_Model_make_L60_b f_Model_make_J91
      refine w_f (nI_ge hj (by omega)) ?_
      refine w_bde (e_isOf hn hf hi hj hij _) ?_
      have tv : fmT fam n i j = bI (fmP fam n i j) ∧ fmT fam n j i = bI (fmP fam n i j) := by
        unfold fmT
        rw [Nat.min_eq_left hij, Nat.max_eq_right hij, Nat.min_eq_right hij, Nat.max_eq_left hij]
        exact ⟨rfl, rfl⟩
      have hD : ∀ a b : Nat, a < n → b < n → ((min a b < i ∨ (min a b = i ∧ max a b < j + 1)) ↔ (min a b < i ∨ (min a b = i ∧ max a b < j)) ∨ (a = i ∧ b = j) ∨ (a = j ∧ b = i)) := by
        intro a b _ _
        omega
      refine w_if (fun hb => ?_) (fun hb => ?_)
      · rw [bI_0] at hb
        rw [hb] at tv
        refine w_let ?_
        rw [nI_1]
        refine ih' (_, m) ⟨by omega, ?_, g1, g2.congr (dG_s tv.1 tv.2 hD)⟩
        show _ = A + (cn _ j + _)
        simp [tv.1, bI]
      · rw [bI_n] at hb
        rw [hb] at tv
        refine w_bdk (s_puts (k := 4) (by omega) hn g2 hi hj 1 (fun m1 a1 a2 => ?_))
        refine w_let ?_
        refine w_let ?_
        rw [nI_1, nI_1]
        refine ih' (_, m1) ⟨by omega, ?_, g1.trans a2 (by omega) (by omega) (by omega) (by omega), a1.congr (dG_j tv.1 tv.2 hD)⟩
        show _ = A + (cn _ j + _)
        simp [tv.1, bI, hij]
        omega
    · show A = A + cn _ i
      rw [cn_zero (fun v hv => by have : ¬ i ≤ v := by omega
                                  simp [this])]
      rfl
def loN (E : Nat → Nat → Int32) (n : Nat) : Nat := sm (fun u => cn (fun v => !decide (E u v = 0)) u) n
theorem s_randomL {μ : HMem} {n : Nat} (hn : n ≤ 8) (h : RG (μ.1 126) 292 (n, fun _ => 1, fun _ _ => 0)) (s : Int64) (p v1 : Int32) (K : Int32 → Int32 → HMem → Option (Int32 × HMem)) {Q : Int32 → HMem → Prop} (hQ : ∀ μ', RG (μ'.1 126) 292 (rsG n s p) → Fw 292 365 μ μ' → wp (K v1 (nI (loN (rsT s p) n)) μ') Q) : wp (f_Model_random_L66 K h_fuel v1 (nI n) p s 0 0 μ) Q := by
  refine w_for (fun f i (x : Int64 × Nat × HMem) => wp (f_Model_random_L66 K f v1 (nI n) p x.1 (nI x.2.1) (nI i) x.2.2) Q) (fun i x => x.1 = rsN s (sm (fun i => i) i) ∧ x.2.1 = sm (fun u => cn (fun v => !decide (rsT s p u v = 0)) u) i ∧ Fw 292 365 μ x.2.2 ∧ RG (x.2.2.1 126) 292 (dG n (fun _ => 1) (fun a b => max a b < i) (rsT s p) (fun _ _ => 0))) n ?_ ?_ 0 (s, 0, μ) (by omega) (by omega) ⟨rfl, rfl, Fw.refl _ _ _, h.congr (dG_0 (fun a b _ _ => by omega))⟩
  · rintro f ⟨_, _, m⟩ ⟨rfl, rfl, g1, g2⟩
    show wp (f_Model_random_L66_b K (f_Model_random_L66 K f) v1 (nI n) p _ (nI _) (nI n) m) Q
    unfold f_Model_random_L66_b
    refine w_t (Int32.le_refl _) ?_
    exact hQ m (g2.congr (dG_1 (fun a b ha hb => by omega))) g1
  · rintro f i ⟨_, _, m⟩ hi ⟨rfl, rfl, g1, g2⟩ ih
    show wp (f_Model_random_L66_b K (f_Model_random_L66 K f) v1 (nI n) p _ (nI _) (nI i) m) Q
    unfold f_Model_random_L66_b
    refine w_f (nI_ge hi (by omega)) ?_
    generalize hA : sm (fun u => cn (fun v => !decide (rsT s p u v = 0)) u) i = A at ih ⊢
    refine w_for (fun f2 j (x : Int64 × Nat × HMem) => wp (f_Model_random_L75 (f_Model_random_J134 (f_Model_random_L66 K f)) f2 v1 (nI n) p x.1 (nI x.2.1) (nI i) (nI j) x.2.2) Q) (fun j x => x.1 = rsN s (sm (fun i => i) i + j) ∧ x.2.1 = A + cn (fun v => !decide (rsT s p i v = 0)) j ∧ Fw 292 365 μ x.2.2 ∧ RG (x.2.2.1 126) 292 (dG n (fun _ => 1) (fun a b => max a b < i ∨ (max a b = i ∧ min a b < j)) (rsT s p) (fun _ _ => 0))) i ?_ ?_ 0 (_, A, m) (by omega) (by omega) ⟨rfl, rfl, g1, g2.congr (dG_D (fun a b _ _ => by omega))⟩
    · rintro f2 ⟨_, _, m⟩ ⟨rfl, rfl, g1, g2⟩
      show wp (f_Model_random_L75_b (f_Model_random_J134 (f_Model_random_L66 K f)) (f_Model_random_L75 (f_Model_random_J134 (f_Model_random_L66 K f)) f2) v1 (nI n) p _ (nI _) (nI i) (nI i) m) Q
      unfold f_Model_random_L75_b f_Model_random_J134
      refine w_t (Int32.le_refl _) ?_
      refine w_let ?_
      rw [nI_1]
      refine ih (_, _, m) ⟨rfl, ?_, g1, g2.congr ?_⟩
      · show _ = sm _ i + _
        rw [hA]
      · refine dG_s (u := i) (v := i) ?_ ?_ (fun a b _ _ => by omega) <;>
        · unfold rsT
          split
          · rfl
          · rw [if_pos rfl]
    · rintro f2 j ⟨_, _, m⟩ hj ⟨rfl, rfl, g1, g2⟩ ih'
      show wp (f_Model_random_L75_b (f_Model_random_J134 (f_Model_random_L66 K f)) (f_Model_random_L75 (f_Model_random_J134 (f_Model_random_L66 K f)) f2) v1 (nI n) p _ (nI _) (nI i) (nI j) m) Q
      unfold f_Model_random_L75_b f_Model_random_J128
      refine w_f (nI_ge hj (by omega)) ?_
      refine w_f (by decide) ?_
      refine w_let ?_
      refine w_f (by decide) ?_
      refine w_f (by decide) ?_
      have hne : ¬ j = i := by omega
      have t1 : rsT s p j i = if 0 ≤ lg_cmp (h_lrem (rsN s (sm (fun i => i) i + j + 1) / 65536) 100) (Int32.toInt64 p) then 0 else 1 := by
        unfold rsT
        rw [Nat.max_eq_right (by omega), Nat.min_eq_left (by omega), if_neg hne]
      have t2 := (rsT_c s p i j).trans t1
      have hD : ∀ a b : Nat, a < n → b < n → ((max a b < i ∨ (max a b = i ∧ min a b < j + 1)) ↔ (max a b < i ∨ (max a b = i ∧ min a b < j)) ∨ (a = i ∧ b = j) ∨ (a = j ∧ b = i)) := by
        intro a b _ _
        omega
      refine w_if (fun hb => ?_) (fun hb => ?_)
      · replace t1 : rsT s p j i = 0 := t1.trans (if_pos hb)
        replace t2 : rsT s p i j = 0 := t2.trans (if_pos hb)
        refine w_let ?_
        rw [nI_1]
        refine ih' (rsS (rsN s (sm (fun i => i) i + j)), A + cn (fun v => !decide (rsT s p i v = 0)) j, m) ⟨rfl, ?_, g1, g2.congr (dG_s t2 t1 hD)⟩
        show _ = A + (cn _ j + _)
        simp [t2]
      · replace t1 : rsT s p j i = 1 := t1.trans (if_neg hb)
        replace t2 : rsT s p i j = 1 := t2.trans (if_neg hb)
        refine w_bdk (s_puts (k := 4) (by omega) hn g2 (by show i < n; omega) (by show j < n; omega) 1 (fun m1 a1 a2 => ?_))
        refine w_let ?_
        refine w_let ?_
        rw [nI_1, nI_1]
        refine ih' (rsS (rsN s (sm (fun i => i) i + j)), A + cn (fun v => !decide (rsT s p i v = 0)) j + 1, m1) ⟨rfl, ?_, g1.trans a2 (by omega) (by omega) (by omega) (by omega), a1.congr (dG_j t2 t1 hD)⟩
        show _ = A + (cn _ j + _)
        simp [t2]
        omega
/-- unions -/
def unT (X Y : HG) : Nat → Nat → Int32 := fun u v => if u < X.1 ∧ v < X.1 then X.2.2 u v else if X.1 ≤ u ∧ X.1 ≤ v then Y.2.2 (u - X.1) (v - X.1) else 0
def unW (X Y : HG) : Nat → Int32 := fun v => if v < X.1 then X.2.1 v else Y.2.1 (v - X.1)
def unG (X Y : HG) : HG := (X.1 + Y.1, unW X Y, unT X Y)
theorem unT_c {X Y : HG} (hX : GV X) (hY : GV Y) {u v : Nat} (hu : u < X.1 + Y.1) (hv : v < X.1 + Y.1) : unT X Y u v = unT X Y v u := by
  unfold unT
  by_cases a : u < X.1 ∧ v < X.1
  · rw [if_pos a, if_pos ⟨a.2, a.1⟩, (hX.2.2 u v a.1 a.2).1]
  · have a' : ¬ (v < X.1 ∧ u < X.1) := fun h => a ⟨h.2, h.1⟩
    rw [if_neg a, if_neg a']
    by_cases b : X.1 ≤ u ∧ X.1 ≤ v
    · rw [if_pos b, if_pos ⟨b.2, b.1⟩, (hY.2.2 _ _ (by omega) (by omega)).1]
    · have b' : ¬ (X.1 ≤ v ∧ X.1 ≤ u) := fun h => b ⟨h.2, h.1⟩
      rw [if_neg b, if_neg b']
theorem GV_un {X Y : HG} (hX : GV X) (hY : GV Y) (h : X.1 + Y.1 ≤ 8) : GV (unG X Y) := by
  refine ⟨h, fun v hv => ?_, fun u v hu hv => ⟨unT_c hX hY hu hv, ?_⟩⟩
  · have hv' : v < X.1 + Y.1 := hv
    show _ ≤ unW X Y v ∧ unW X Y v ≤ _
    unfold unW
    split
    · rename_i h1; exact hX.2.1 v h1
    · exact hY.2.1 _ (by omega)
  · have hu' : u < X.1 + Y.1 := hu
    have hv' : v < X.1 + Y.1 := hv
    show _ ≤ unT X Y u v ∧ unT X Y u v ≤ _
    unfold unT
    split
    · rename_i h1; exact (hX.2.2 u v h1.1 h1.2).2
    · split
      · rename_i h1; exact (hY.2.2 _ _ (by omega) (by omega)).2
      · exact ⟨by decide, by decide⟩
theorem m293 (i : Nat) : (293 : Int32) + nI i = nI (293 + i) := nI_add 293 i
theorem s_unites {μ : HMem} {x y : Nat} {X Y : HG} (hx : x < 4) (hy : y < 4) (hX : GV X) (hY : GV Y) (hcx : RG (μ.1 126) (73 * x) X) (hcy : RG (μ.1 126) (73 * y) Y) (hN : X.1 + Y.1 ≤ 8) {Q : Unit → HMem → Prop} (hQ : ∀ μ', RG (μ'.1 126) 292 (unG X Y) → Fw 292 365 μ μ' → Q () μ') : wp (f_Model_unites (nI x) (nI y) μ) Q := by
  have hX8 := hX.1
  have hY8 := hY.1
  unfold f_Model_unites
  refine w_bde (e_msize (by omega) hcx) ?_
  refine w_bde (e_msize (by omega) hcy) ?_
  rw [nI_add]
  refine w_bdk (s_begins (k := 4) (by omega) hN (fun m0 a1 a2 => ?_))
  refine w_for (fun f i (m : HMem) => wp (f_Model_unites_L21 f (nI x) (nI y) (nI X.1) (nI i) m) Q) (fun i m => Fw 292 365 μ m ∧ RG (m.1 126) 292 (dG (X.1 + Y.1) (fun v => if v < i then unW X Y v else 1) (fun a b => min a b < i) (unT X Y) (fun _ _ => 0))) (X.1 + Y.1) ?_ ?_ 0 m0 (by omega) (by omega) ⟨a2, a1.congr ⟨rfl, fun _ _ => rfl, fun i j _ _ => (dG_f (by omega)).symm⟩⟩
  · rintro f m ⟨g1, g2⟩
    show wp (f_Model_unites_L21_b (f_Model_unites_L21 f) (nI x) (nI y) (nI X.1) (nI (X.1 + Y.1)) m) Q
    unfold f_Model_unites_L21_b
    refine w_bde (e_msize (k := 4) (by omega) g2) ?_
    refine w_t (Int32.le_refl _) ?_
    refine w_ret (hQ m (g2.congr ⟨rfl, fun v hv => ?_, fun i j hi hj => ?_⟩) g1)
    · have hv' : v < X.1 + Y.1 := hv
      show (if v < X.1 + Y.1 then _ else _) = _
      rw [if_pos hv']
      rfl
    · have hi' : i < X.1 + Y.1 := hi
      have hj' : j < X.1 + Y.1 := hj
      rw [dG_t (by omega)]
      rfl
  · rintro f i m hi ⟨g1, g2⟩ ih
    show wp (f_Model_unites_L21_b (f_Model_unites_L21 f) (nI x) (nI y) (nI X.1) (nI i) m) Q
    unfold f_Model_unites_L21_b
    have hcxm := hcx.fw hX8 g1 (by omega)
    have hcym := hcy.fw hY8 g1 (by omega)
    refine w_bde (e_msize (k := 4) (by omega) g2) ?_
    refine w_f (nI_ge hi (by show X.1 + Y.1 < 2 ^ 31; omega)) ?_
    have go : ∀ w, unW X Y i = w → wp (f_Model_unites_J66 (f_Model_unites_L21 f) (nI x) (nI y) (nI X.1) (nI i) w (293 + nI i) m) Q := by
      intro w hw
      unfold f_Model_unites_J66
      rw [m293]
      refine w_chk (in_N (by rw [show h_len 126 = 438 from rfl]; omega) (by decide)) ?_
      refine w_let ?_
      rw [cl_8 (by omega)]
      have b1 : RG ((h_wi m 126 (293 + i) w).1 126) 292 (dG (X.1 + Y.1) (fun v => if v < i + 1 then unW X Y v else 1) (fun a b => min a b < i) (unT X Y) (fun _ _ => 0)) := by
        rw [wi_126]
        refine (g2.wt (v := i) hi hN w).congr (dG_w (fun v _ => ?_))
        show (if v < i + 1 then _ else _) = if v = i then _ else (if v < i then _ else _)
        by_cases e : v = i
        · rw [if_pos e, if_pos (by omega), e, hw]
        · rw [if_neg e]
          by_cases e2 : v < i
          · rw [if_pos e2, if_pos (by omega)]
          · rw [if_neg e2, if_neg (by omega)]
      have g3 : Fw 292 365 μ (h_wi m 126 (293 + i) w) := g1.trans (Fw.wi (by omega) (by omega)) (Nat.le_refl _) (Nat.le_refl _) (Nat.le_refl 292) (Nat.le_refl 365)
      refine w_for (fun f2 j (m : HMem) => wp (f_Model_unites_L71 (f_Model_unites_J137 (f_Model_unites_L21 f)) f2 (nI x) (nI y) (nI X.1) (nI i) (nI j) m) Q) (fun j m => i ≤ j ∧ Fw 292 365 μ m ∧ RG (m.1 126) 292 (dG (X.1 + Y.1) (fun v => if v < i + 1 then unW X Y v else 1) (fun a b => min a b < i ∨ (min a b = i ∧ max a b < j)) (unT X Y) (fun _ _ => 0))) (X.1 + Y.1) ?_ ?_ i _ (by omega) (by omega) ⟨Nat.le_refl _, g3, b1.congr (dG_D (fun a b _ _ => by omega))⟩
      · rintro f2 m ⟨_, g1, g2⟩
        show wp (f_Model_unites_L71_b (f_Model_unites_J137 (f_Model_unites_L21 f)) (f_Model_unites_L71 (f_Model_unites_J137 (f_Model_unites_L21 f)) f2) (nI x) (nI y) (nI X.1) (nI i) (nI (X.1 + Y.1)) m) Q
        unfold f_Model_unites_L71_b f_Model_unites_J137
        refine w_bde (e_msize (k := 4) (by omega) g2) ?_
        refine w_t (Int32.le_refl _) ?_
        refine w_let ?_
        rw [nI_1]
        exact ih m ⟨g1, g2.congr (dG_D (fun a b _ _ => by omega))⟩
      · rintro f2 j m hj ⟨hij, g1, g2⟩ ih'
        show wp (f_Model_unites_L71_b (f_Model_unites_J137 (f_Model_unites_L21 f)) (f_Model_unites_L71 (f_Model_unites_J137 (f_Model_unites_L21 f)) f2) (nI x) (nI y) (nI X.1) (nI i) (nI j) m) Q
        unfold f_Model_unites_L71_b
        have hcxm := hcx.fw hX8 g1 (by omega)
        have hcym := hcy.fw hY8 g1 (by omega)
        refine w_bde (e_msize (k := 4) (by omega) g2) ?_
        refine w_f (nI_ge hj (by show X.1 + Y.1 < 2 ^ 31; omega)) ?_
        have go2 : ∀ w, unT X Y i j = w → wp (f_Model_unites_J128 (f_Model_unites_L71 (f_Model_unites_J137 (f_Model_unites_L21 f)) f2) (nI x) (nI y) (nI X.1) (nI i) (nI j) w (nI j) (nI i) 4 m) Q := by
          intro w hw
          unfold f_Model_unites_J128
          refine w_bdk (s_puts (k := 4) (by omega) hN g2 hi hj w (fun m1 b1 b2 => ?_))
          refine w_let ?_
          rw [nI_1]
          exact ih' m1 ⟨by omega, g1.trans b2 (by omega) (by omega) (by omega) (by omega), b1.congr (dG_j hw ((unT_c hX hY hj hi).trans hw) (fun a b _ _ => by omega))⟩
        refine w_if (fun c1 => ?_) (fun c1 => ?_)
        · have c1 := (nI_leI (by omega) (by omega)).mp c1
          refine w_if (fun c2 => ?_) (fun c2 => ?_)
          · have c2 := (nI_leI (by omega) (by omega)).mp c2
            rw [pk_sub c1, pk_sub c2]
            refine w_bde (e_mbetween (by omega) hY8 hcym (by omega) (by omega)) ?_
            refine go2 _ ?_
            unfold unT
            rw [if_neg (by omega), if_pos ⟨c2, c1⟩]
          · have c2 : ¬ X.1 ≤ i := fun h => c2 (nI_le h (by omega))
            refine go2 _ ?_
            unfold unT
            rw [if_neg (by omega), if_neg (by omega)]
        · have c1 : ¬ X.1 ≤ j := fun h => c1 (nI_le h (by omega))
          refine w_bde (e_mbetween (by omega) hX8 hcxm (by omega) (by omega)) ?_
          refine go2 _ ?_
          unfold unT
          rw [if_pos (by omega)]
    refine w_if (fun c1 => ?_) (fun c1 => ?_)
    · have c1 := (nI_leI (by omega) (by omega)).mp c1
      rw [pk_sub c1]
      refine w_bde (e_mweight (by omega) hY8 hcym (by omega)) ?_
      refine go _ ?_
      unfold unW
      rw [if_neg (by omega)]
    · have c1 : ¬ X.1 ≤ i := fun h => c1 (nI_le h (by omega))
      refine w_bde (e_mweight (by omega) hX8 hcxm (by omega)) ?_
      refine go _ ?_
      unfold unW
      rw [if_pos (by omega)]
/-- products -/
theorem e_mlimited (v : Int32) {k : Int32} (h0 : -k ≤ k) (μ : HMem) : f_Model_limited v k μ = some (lim k v, μ) := by
  have key : lim k v = if v ≤ k then (if -k ≤ v then v else -k) else k := by
    unfold lim h_mmax h_mmin
    rw [Int32.le_iff_toInt_le] at h0
    by_cases c1 : v < k
    · have d1 : v ≤ k := by rw [Int32.lt_iff_toInt_lt] at c1; rw [Int32.le_iff_toInt_le]; omega
      rw [if_pos c1, if_pos d1]
      by_cases c2 : -k < v
      · have d2 : -k ≤ v := by rw [Int32.lt_iff_toInt_lt] at c2; rw [Int32.le_iff_toInt_le]; omega
        rw [if_pos c2, if_pos d2]
      · rw [if_neg c2]
        by_cases d2 : -k ≤ v
        · rw [if_pos d2, ← Int32.toInt_inj]
          rw [Int32.lt_iff_toInt_lt] at c2
          rw [Int32.le_iff_toInt_le] at d2
          omega
        · rw [if_neg d2]
    · rw [if_neg c1]
      by_cases d1 : v ≤ k
      · have e : v = k := by
          rw [← Int32.toInt_inj]
          rw [Int32.lt_iff_toInt_lt] at c1
          rw [Int32.le_iff_toInt_le] at d1
          omega
        subst e
        have d2 : -v ≤ v := by rw [Int32.le_iff_toInt_le]; exact h0
        rw [if_pos d1, if_pos d2]
        by_cases c2 : -v < v
        · rw [if_pos c2]
        · rw [if_neg c2, ← Int32.toInt_inj]
          rw [Int32.lt_iff_toInt_lt] at c2
          omega
      · rw [if_neg d1]
        by_cases c2 : -k < k
        · rw [if_pos c2]
        · rw [if_neg c2, ← Int32.toInt_inj]
          rw [Int32.lt_iff_toInt_lt] at c2
          omega
  unfold f_Model_limited f_Model_limited_J21
  rw [key]
  by_cases c1 : v ≤ k
  · rw [if_pos c1, if_pos c1]
    by_cases c2 : -k ≤ v
    · rw [if_pos c2, if_pos c2]
    · rw [if_neg c2, if_neg c2]
  · rw [if_neg c1, if_neg c1]
theorem e_factor {μ : HMem} {k : Nat} {G : HG} (hk : k < 6) (hn : G.1 ≤ 8) (h : RG (μ.1 126) (73 * k) G) {u v : Nat} (hu : u < G.1) (hv : v < G.1) (b : Bool) : f_Model_factor (nI k) (nI u) (nI v) (bI b) μ = some (prS G b u v, μ) := by
  unfold f_Model_factor f_Model_factor_J14 f_Model_factor_J21
  rw [e_mbetween hk hn h hu hv, bd_some]
  unfold prS
  cases b with
  | false => rw [if_pos (by decide), if_neg (fun h => by cases h.1)]
  | true =>
    rw [if_neg (by decide)]
    by_cases e : u = v
    · rw [if_neg (fun h => h (by rw [e])), if_pos ⟨rfl, e⟩]
    · rw [if_pos (fun h => e ((eqI (by omega) (by omega)).mp h)), if_neg (fun h => e h.2)]
theorem s_multiplies {μ : HMem} {x y : Nat} {X Y : HG} (hx : x < 4) (hy : y < 4) (hX : GV X) (hY : GV Y) (hcx : RG (μ.1 126) (73 * x) X) (hcy : RG (μ.1 126) (73 * y) Y) (hN : X.1 * Y.1 ≤ 8) (b : Bool) {Q : Unit → HMem → Prop} (hQ : ∀ μ', RG (μ'.1 126) 292 (prG X Y b) → Fw 292 365 μ μ' → Q () μ') : wp (f_Model_multiplies (nI x) (nI y) (bI b) μ) Q := by
  have hX8 := hX.1
  have hY8 := hY.1
  unfold f_Model_multiplies
  refine w_bde (e_msize (by omega) hcy) ?_
  refine w_bde (e_msize (by omega) hcx) ?_
  rw [pk_mul]
  refine w_bdk (s_begins (k := 4) (by omega) hN (fun m0 a1 a2 => ?_))
  generalize hM : X.1 * Y.1 = N at hN a1
  have hdm : ∀ i, i < N → i / Y.1 < X.1 ∧ i % Y.1 < Y.1 := fun i hi => dm_lt (by rw [hM]; exact hi)
  have hpc : ∀ i j, i < N → j < N → prT X Y b i j = prT X Y b j i := fun i j hi hj => prT_c hX hY b (by rw [hM]; exact hi) (by rw [hM]; exact hj)
  refine w_for (fun f i (m : HMem) => wp (f_Model_multiplies_L23 f (nI x) (nI y) (bI b) (nI Y.1) (nI i) m) Q) (fun i m => Fw 292 365 μ m ∧ RG (m.1 126) 292 (dG N (fun v => if v < i then prW X Y v else 1) (fun a b => min a b < i) (prT X Y b) (fun _ _ => 0))) N ?_ ?_ 0 m0 (by omega) (by omega) ⟨a2, a1.congr ⟨rfl, fun _ _ => rfl, fun i j _ _ => (dG_f (by omega)).symm⟩⟩
  · rintro f m ⟨g1, g2⟩
    show wp (f_Model_multiplies_L23_b (f_Model_multiplies_L23 f) (nI x) (nI y) (bI b) (nI Y.1) (nI N) m) Q
    unfold f_Model_multiplies_L23_b
    refine w_bde (e_msize (k := 4) (by omega) g2) ?_
    refine w_t (Int32.le_refl _) ?_
    refine w_ret (hQ m (g2.congr ⟨hM.symm, fun v hv => ?_, fun i j hi hj => ?_⟩) g1)
    · have hv' : v < N := hv
      show (if v < N then _ else _) = _
      rw [if_pos hv']
      rfl
    · have hi' : i < N := hi
      have hj' : j < N := hj
      rw [dG_t (by omega)]
      rfl
  · rintro f i m hi ⟨g1, g2⟩ ih
    show wp (f_Model_multiplies_L23_b (f_Model_multiplies_L23 f) (nI x) (nI y) (bI b) (nI Y.1) (nI i) m) Q
    unfold f_Model_multiplies_L23_b
    have hcxm := hcx.fw hX8 g1 (by omega)
    have hcym := hcy.fw hY8 g1 (by omega)
    obtain ⟨d1, d2⟩ := hdm i hi
    have hy0 : ¬ nI Y.1 = 0 := nI_ne0 (by omega) (by omega)
    refine w_bde (e_msize (k := 4) (by omega) g2) ?_
    refine w_f (nI_ge hi (by show N < 2 ^ 31; omega)) ?_
    refine w_f hy0 ?_
    rw [pk_div (by omega) (by omega) (by omega), irem_n (by omega) (by omega) (by omega)]
    refine w_bde (e_mweight (by omega) hX8 hcxm d1) ?_
    refine w_f hy0 ?_
    refine w_bde (e_mweight (by omega) hY8 hcym d2) ?_
    refine w_bde (e_mlimited _ (by decide) _) ?_
    rw [m293]
    refine w_chk (in_N (by rw [show h_len 126 = 438 from rfl]; omega) (by decide)) ?_
    refine w_let ?_
    rw [cl_8 (by omega)]
    generalize hw : lim 3 (X.2.1 (i / Y.1) * Y.2.1 (i % Y.1)) = w
    have b1 : RG ((h_wi m 126 (293 + i) w).1 126) 292 (dG N (fun v => if v < i + 1 then prW X Y v else 1) (fun a b => min a b < i) (prT X Y b) (fun _ _ => 0)) := by
      rw [wi_126]
      refine (g2.wt (v := i) hi hN w).congr (dG_w (fun v _ => ?_))
      show (if v < i + 1 then _ else _) = if v = i then _ else (if v < i then _ else _)
      by_cases e : v = i
      · rw [if_pos e, if_pos (by omega), e, ← hw]
        rfl
      · rw [if_neg e]
        by_cases e2 : v < i
        · rw [if_pos e2, if_pos (by omega)]
        · rw [if_neg e2, if_neg (by omega)]
    have g3 : Fw 292 365 μ (h_wi m 126 (293 + i) w) := g1.trans (Fw.wi (by omega) (by omega)) (Nat.le_refl _) (Nat.le_refl _) (Nat.le_refl 292) (Nat.le_refl 365)
    refine w_for (fun f2 j (m : HMem) => wp (f_Model_multiplies_L73 (f_Model_multiplies_J135 (f_Model_multiplies_L23 f)) f2 (nI x) (nI y) (bI b) (nI Y.1) (nI i) (nI j) m) Q) (fun j m => i ≤ j ∧ Fw 292 365 μ m ∧ RG (m.1 126) 292 (dG N (fun v => if v < i + 1 then prW X Y v else 1) (fun a b => min a b < i ∨ (min a b = i ∧ max a b < j)) (prT X Y b) (fun _ _ => 0))) N ?_ ?_ i _ (by omega) (by omega) ⟨Nat.le_refl _, g3, b1.congr (dG_D (fun a b _ _ => by omega))⟩
    · rintro f2 m ⟨_, g1, g2⟩
      show wp (f_Model_multiplies_L73_b (f_Model_multiplies_J135 (f_Model_multiplies_L23 f)) (f_Model_multiplies_L73 (f_Model_multiplies_J135 (f_Model_multiplies_L23 f)) f2) (nI x) (nI y) (bI b) (nI Y.1) (nI i) (nI N) m) Q
      unfold f_Model_multiplies_L73_b f_Model_multiplies_J135
      refine w_bde (e_msize (k := 4) (by omega) g2) ?_
      refine w_t (Int32.le_refl _) ?_
      refine w_let ?_
      rw [nI_1]
      exact ih m ⟨g1, g2.congr (dG_D (fun a b _ _ => by omega))⟩
    · rintro f2 j m hj ⟨hij, g1, g2⟩ ih'
      show wp (f_Model_multiplies_L73_b (f_Model_multiplies_J135 (f_Model_multiplies_L23 f)) (f_Model_multiplies_L73 (f_Model_multiplies_J135 (f_Model_multiplies_L23 f)) f2) (nI x) (nI y) (bI b) (nI Y.1) (nI i) (nI j) m) Q
      unfold f_Model_multiplies_L73_b
      have hcxm := hcx.fw hX8 g1 (by omega)
      have hcym := hcy.fw hY8 g1 (by omega)
      obtain ⟨d3, d4⟩ := hdm j hj
      refine w_bde (e_msize (k := 4) (by omega) g2) ?_
      refine w_f (nI_ge hj (by show N < 2 ^ 31; omega)) ?_
      refine w_f hy0 ?_
      refine w_f hy0 ?_
      rw [pk_div (a := i) (by omega) (by omega) (by omega), pk_div (a := j) (by omega) (by omega) (by omega), irem_n (a := i) (by omega) (by omega) (by omega), irem_n (a := j) (by omega) (by omega) (by omega)]
      refine w_bde (e_factor (by omega) hX8 hcxm d1 d3 b) ?_
      refine w_f hy0 ?_
      refine w_f hy0 ?_
      refine w_bde (e_factor (by omega) hY8 hcym d2 d4 b) ?_
      refine w_bde (e_mlimited _ (by decide) _) ?_
      have hw : prT X Y b i j = lim 2 (prS X b (i / Y.1) (j / Y.1) * prS Y b (i % Y.1) (j % Y.1)) := rfl
      refine w_bdk (s_puts (k := 4) (by omega) hN g2 hi hj _ (fun m1 b1 b2 => ?_))
      refine w_let ?_
      rw [nI_1]
      exact ih' m1 ⟨by omega, g1.trans b2 (by omega) (by omega) (by omega) (by omega), b1.congr (dG_j hw ((hpc j i hj hi).trans hw) (fun a b _ _ => by omega))⟩
