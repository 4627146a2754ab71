/-! 46: the class's graph: made in loops -/
noncomputable def dG (n : Nat) (W : Nat → Int32) (D : Nat → Nat → Prop) (T E : Nat → Nat → Int32) : HG := (n, W, fun a b => @ite _ (D a b) (Classical.propDecidable _) (T a b) (E a b))
theorem dG_t {n : Nat} {W : Nat → Int32} {D : Nat → Nat → Prop} {T E : Nat → Nat → Int32} {a b : Nat} (h : D a b) : (dG n W D T E).2.2 a b = T a b := by
  unfold dG
  exact if_pos h
theorem dG_f {n : Nat} {W : Nat → Int32} {D : Nat → Nat → Prop} {T E : Nat → Nat → Int32} {a b : Nat} (h : ¬ D a b) : (dG n W D T E).2.2 a b = E a b := by
  unfold dG
  exact if_neg h
theorem dG_0 {n : Nat} {W : Nat → Int32} {D : Nat → Nat → Prop} {T E : Nat → Nat → Int32} (h : ∀ a b, a < n → b < n → ¬ D a b) : GE (n, W, E) (dG n W D T E) := ⟨rfl, fun _ _ => rfl, fun u v hu hv => (dG_f (h u v hu hv)).symm⟩
theorem dG_1 {n : Nat} {W : Nat → Int32} {D : Nat → Nat → Prop} {T E : Nat → Nat → Int32} (h : ∀ a b, a < n → b < n → D a b) : GE (dG n W D T E) (n, W, T) := ⟨rfl, fun _ _ => rfl, fun u v hu hv => dG_t (h u v hu hv)⟩
theorem dG_D {n : Nat} {W : Nat → Int32} {D D' : Nat → Nat → Prop} {T E : Nat → Nat → Int32} (h : ∀ a b, a < n → b < n → (D' a b ↔ D a b)) : GE (dG n W D T E) (dG n W D' T E) := by
  refine ⟨rfl, fun _ _ => rfl, fun a b ha hb => ?_⟩
  by_cases d : D a b
  · rw [dG_t d, dG_t ((h a b ha hb).mpr d)]
  · rw [dG_f d, dG_f (fun h' => d ((h a b ha hb).mp h'))]
theorem dG_j {n : Nat} {W : Nat → Int32} {D D' : Nat → Nat → Prop} {T E : Nat → Nat → Int32} {u v : Nat} {w : Int32} (hw : T u v = w) (hw' : T v u = w) (h : ∀ a b, a < n → b < n → (D' a b ↔ D a b ∨ (a = u ∧ b = v) ∨ (a = v ∧ b = u))) : GE (jn (dG n W D T E) u v w) (dG n W D' T E) := by
  refine ⟨rfl, fun _ _ => rfl, fun a b ha hb => ?_⟩
  show (if (a = u ∧ b = v) ∨ (a = v ∧ b = u) then w else (dG n W D T E).2.2 a b) = _
  by_cases e : (a = u ∧ b = v) ∨ (a = v ∧ b = u)
  · rw [if_pos e, dG_t ((h a b ha hb).mpr (Or.inr e))]
    rcases e with ⟨rfl, rfl⟩ | ⟨rfl, rfl⟩
    · exact hw.symm
    · exact hw'.symm
  · rw [if_neg e]
    by_cases d : D a b
    · rw [dG_t d, dG_t ((h a b ha hb).mpr (Or.inl d))]
    · rw [dG_f d, dG_f (fun h' => ((h a b ha hb).mp h').elim d e)]
theorem dG_s {n : Nat} {W : Nat → Int32} {D D' : Nat → Nat → Prop} {T E : Nat → Nat → Int32} {u v : Nat} (hw : T u v = E u v) (hw' : T v u = E v u) (h : ∀ a b, a < n → b < n → (D' a b ↔ D a b ∨ (a = u ∧ b = v) ∨ (a = v ∧ b = u))) : GE (dG n W D T E) (dG n W D' T E) := by
  refine ⟨rfl, fun _ _ => rfl, fun a b ha hb => ?_⟩
  by_cases d : D a b
  · rw [dG_t d, dG_t ((h a b ha hb).mpr (Or.inl d))]
  · rw [dG_f d]
    by_cases e : (a = u ∧ b = v) ∨ (a = v ∧ b = u)
    · rw [dG_t ((h a b ha hb).mpr (Or.inr e))]
      rcases e with ⟨rfl, rfl⟩ | ⟨rfl, rfl⟩
      · exact hw.symm
      · exact hw'.symm
    · rw [dG_f (fun h' => ((h a b ha hb).mp h').elim d e)]
theorem GE.trans {G G' G'' : HG} (h : GE G G') (h' : GE G' G'') : GE G G'' := by
  obtain ⟨a, b, c⟩ := h
  obtain ⟨a', b', c'⟩ := h'
  exact ⟨a.trans a', fun v hv => (b v hv).trans (b' v (by rw [← a]; exact hv)), fun u v hu hv => (c u v hu hv).trans (c' u v (by rw [← a]; exact hu) (by rw [← a]; exact hv))⟩
theorem GE.symm {G G' : HG} (h : GE G G') : GE G' G := by
  obtain ⟨a, b, c⟩ := h
  exact ⟨a.symm, fun v hv => (b v (by rw [a]; exact hv)).symm, fun u v hu hv => (c u v (by rw [a]; exact hu) (by rw [a]; exact hv)).symm⟩
/-- families -/
def fmP (fam n u v : Nat) : Bool := match fam with
  | 0 => v == u + 1
  | 1 => v == u + 1 || (decide (3 ≤ n) && (u == 0 && v == n - 1))
  | 2 => !(u == v)
  | 3 => u == 0 && !(v == 0)
  | _ => true
def fmT (fam n : Nat) : Nat → Nat → Int32 := fun u v => bI (fmP fam n (min u v) (max u v))
def fmG (fam n : Nat) : HG := (n, fun _ => 1, fmT fam n)
theorem GV_fm {fam n : Nat} (hn : n ≤ 8) : GV (fmG fam n) := by
  refine ⟨hn, fun _ _ => show (-3 : Int32) ≤ 1 ∧ (1 : Int32) ≤ 3 from ⟨by decide, by decide⟩, fun u v _ _ => ?_⟩
  show fmT fam n u v = fmT fam n v u ∧ _ ≤ fmT fam n u v ∧ fmT fam n u v ≤ _
  unfold fmT
  rw [Nat.min_comm u v, Nat.max_comm u v]
  cases fmP fam n (min v u) (max v u) <;> decide
theorem eqI {a b : Nat} (ha : a < 2000) (hb : b < 2000) : nI a = nI b ↔ a = b := nI_eq (by omega) (by omega)
theorem e_inFamily {μ : HMem} {g n : Nat} (h : μ.1 g 0 = nI n) (hn : n ≤ 8) {fam u v : Nat} (hf : fam ≤ 4) (hu : u < n) (hv : v < n) : f_Graph_inFamily g (nI fam) (nI u) (nI v) μ = some (bI (fmP fam n u v), μ) := by
  have e1 : (nI v = nI u + 1) ↔ v = u + 1 := by rw [nI_1]; exact eqI (by omega) (by omega)
  have e2 : (nI u = 0) ↔ u = 0 := eqI (b := 0) (by omega) (by omega)
  have e3 : (nI v = 0) ↔ v = 0 := eqI (b := 0) (by omega) (by omega)
  have e4 : (nI u = nI v) ↔ u = v := eqI (by omega) (by omega)
  have e5 : (nI n < (3 : Int32)) ↔ n < 3 := nI_ltI (b := 3) (by omega) (by omega)
  have e6 : (nI v = nI n - 1) ↔ v = n - 1 := by
    obtain ⟨q, rfl⟩ : ∃ q, n = q + 1 := ⟨n - 1, by omega⟩
    rw [nI_pred]
    exact eqI (by omega) (by omega)
  unfold f_Graph_inFamily f_Graph_inFamily_J44 f_Graph_inFamily_J74 f_Graph_inFamily_J78 f_Graph_inFamily_J79 f_Graph_inFamily_J90 f_Graph_inFamily_J103 f_Graph_inFamily_J104
  rw [h]
  rcases (by omega : fam = 0 ∨ fam = 1 ∨ fam = 2 ∨ fam = 3 ∨ fam = 4) with rfl | rfl | rfl | rfl | rfl
  · rw [if_neg (by decide), if_pos (by decide)]
    unfold fmP
    by_cases c : v = u + 1
    · rw [if_neg (fun h => h (e1.mpr c))]; simp [c, bI]
    · rw [if_pos (fun h => c (e1.mp h))]; simp [c, bI]
  · rw [if_neg (by decide), if_neg (by decide), if_pos (by decide)]
    unfold fmP
    by_cases c : v = u + 1
    · rw [if_pos (e1.mpr c)]; simp [c, bI]
    · rw [if_neg (fun h => c (e1.mp h))]
      by_cases c2 : n < 3
      · rw [if_pos (e5.mpr c2)]
        have : ¬ 3 ≤ n := by omega
        simp [c, this, bI]
      · rw [if_neg (fun h => c2 (e5.mp h))]
        have c2' : 3 ≤ n := by omega
        by_cases c3 : u = 0
        · rw [if_neg (fun h => h (e2.mpr c3))]
          by_cases c4 : v = n - 1
          · rw [if_neg (fun h => h (e6.mpr c4))]
            have : (v == n - 1) = true := by rw [c4]; simp
            simp [c2', c3, this, bI]
          · rw [if_pos (fun h => c4 (e6.mp h))]
            simp [c, c4, bI]
        · rw [if_pos (fun h => c3 (e2.mp h))]
          simp [c, c3, bI]
  · rw [if_neg (by decide), if_neg (by decide), if_neg (by decide), if_pos (by decide)]
    unfold fmP
    by_cases c : u = v
    · rw [if_pos (e4.mpr c)]; simp [c, bI]
    · rw [if_neg (fun h => c (e4.mp h))]; simp [c, bI]
  · rw [if_neg (by decide), if_neg (by decide), if_neg (by decide), if_neg (by decide), if_pos (by decide)]
    unfold fmP
    by_cases c : u = 0
    · rw [if_neg (fun h => h (e2.mpr c))]
      by_cases c2 : v = 0
      · rw [if_pos (e3.mpr c2)]; simp [c2, bI]
      · rw [if_neg (fun h => c2 (e3.mp h))]; simp [c, c2, bI]
    · rw [if_pos (fun h => c (e2.mp h))]; simp [c, bI]
  · rw [if_pos (by decide)]
    rfl
theorem s_joinFamily {μ : HMem} {g n : Nat} (hg : IsG g) (hn : n ≤ 8) (h : CG μ g (n, fun _ => 1, fun _ _ => 0)) {fam : Nat} (hf : fam ≤ 4) {Q : Unit → HMem → Prop} (hQ : ∀ μ', CG μ' g (fmG fam n) → Fr g (g + 4) μ μ' → Q () μ') : wp (f_Graph_joinFamily g (nI fam) μ) Q := by
  unfold f_Graph_joinFamily
  refine w_for (fun f i (m : HMem) => wp (f_Graph_joinFamily_L2 f g (nI fam) (nI i) m) Q) (fun i m => Fr g (g + 4) μ m ∧ CG m g (dG n (fun _ => 1) (fun a b => min a b < i) (fmT fam n) (fun _ _ => 0))) n ?_ ?_ 0 μ (by omega) (by omega) ⟨Fr.refl _ _ _, h.congr (dG_0 (fun a b _ _ => by omega))⟩
  · rintro f m ⟨g1, g2⟩
    show wp (f_Graph_joinFamily_L2_b (f_Graph_joinFamily_L2 f) g (nI fam) (nI n) m) Q
    unfold f_Graph_joinFamily_L2_b
    refine w_t (by rw [g2.1]; exact Int32.le_refl _) ?_
    exact w_ret (hQ m (g2.congr (dG_1 (fun a b ha hb => by omega))) g1)
  · rintro f i m hi ⟨g1, g2⟩ ih
    show wp (f_Graph_joinFamily_L2_b (f_Graph_joinFamily_L2 f) g (nI fam) (nI i) m) Q
    unfold f_Graph_joinFamily_L2_b
    refine w_f (by rw [g2.1]; exact nI_ge hi (by show n < 2 ^ 31; omega)) ?_
    refine w_for (fun f2 j (m : HMem) => wp (f_Graph_joinFamily_L12 (f_Graph_joinFamily_J43 (f_Graph_joinFamily_L2 f)) f2 g (nI fam) (nI i) (nI j) m) Q) (fun j m => i ≤ j ∧ Fr g (g + 4) μ m ∧ CG m g (dG n (fun _ => 1) (fun a b => min a b < i ∨ (min a b = i ∧ max a b < j)) (fmT fam n) (fun _ _ => 0))) n ?_ ?_ i m (by omega) (by omega) ⟨Nat.le_refl _, g1, g2.congr (dG_D (fun a b _ _ => by omega))⟩
    · rintro f2 m ⟨_, g1, g2⟩
      show wp (f_Graph_joinFamily_L12_b (f_Graph_joinFamily_J43 (f_Graph_joinFamily_L2 f)) (f_Graph_joinFamily_L12 (f_Graph_joinFamily_J43 (f_Graph_joinFamily_L2 f)) f2) g (nI fam) (nI i) (nI n) m) Q
      unfold f_Graph_joinFamily_L12_b f_Graph_joinFamily_J43
      refine w_t (by rw [g2.1]; exact Int32.le_refl _) ?_
      refine w_let ?_
      rw [nI_1]
      exact ih m ⟨g1, g2.congr (dG_D (fun a b _ _ => by omega))⟩
    · rintro f2 j m hj ⟨hij, g1, g2⟩ ih'
      show wp (f_Graph_joinFamily_L12_b (f_Graph_joinFamily_J43 (f_Graph_joinFamily_L2 f)) (f_Graph_joinFamily_L12 (f_Graph_joinFamily_J43 (f_Graph_joinFamily_L2 f)) f2) g (nI fam) (nI i) (nI j) m) Q
      unfold f_Graph_joinFamily_L12_b f_Graph_joinFamily_J37
      refine w_f (by rw [g2.1]; exact nI_ge hj (by show n < 2 ^ 31; omega)) ?_
      refine w_bde (e_inFamily (n := n) g2.1 hn hf hi hj) ?_
      have tv : fmT fam n i j = bI (fmP fam n i j) ∧ fmT fam n j i = bI (fmP fam n i j) := by
        unfold fmT
        rw [Nat.min_eq_left hij, Nat.max_eq_right hij, Nat.min_eq_right hij, Nat.max_eq_left hij]
        exact ⟨rfl, rfl⟩
      have hD : ∀ a b : Nat, a < n → b < n → ((min a b < i ∨ (min a b = i ∧ max a b < j + 1)) ↔ (min a b < i ∨ (min a b = i ∧ max a b < j)) ∨ (a = i ∧ b = j) ∨ (a = j ∧ b = i)) := by
        intro a b _ _
        omega
      refine w_if (fun hb => ?_) (fun hb => ?_)
      · rw [bI_0] at hb
        rw [hb] at tv
        refine w_let ?_
        rw [nI_1]
        exact ih' m ⟨by omega, g1, g2.congr (dG_s tv.1 tv.2 hD)⟩
      · rw [bI_n] at hb
        rw [hb] at tv
        refine w_bdk (s_join hg g2 hn hi hj 1 (fun m1 a1 a2 => ?_))
        refine w_let ?_
        rw [nI_1]
        exact ih' m1 ⟨by omega, g1.trans a2 (by omega) (by omega) (by omega) (by omega), a1.congr (dG_j tv.1 tv.2 hD)⟩
/-- random graphs -/
def rsS (s : Int64) : Int64 := h_lrem ((1103515245 * s) + 12345) 2147483648
def rsN (s : Int64) : Nat → Int64
  | 0 => s
  | k + 1 => rsS (rsN s k)
def rsT (s : Int64) (p : Int32) (u v : Nat) : Int32 := if 0 ≤ lg_cmp (h_lrem (rsN s (sm (fun i => i) (max u v) + min u v + 1) / 65536) 100) (Int32.toInt64 p) then 0 else if u = v then 0 else 1
def rsG (n : Nat) (s : Int64) (p : Int32) : HG := (n, fun _ => 1, rsT s p)
theorem rsT_c (s : Int64) (p : Int32) (u v : Nat) : rsT s p u v = rsT s p v u := by
  unfold rsT
  rw [Nat.min_comm u v, Nat.max_comm u v]
  by_cases e : u = v
  · rw [e]
  · have e' : ¬ v = u := fun h => e h.symm
    rw [if_neg e, if_neg e']
theorem GV_rs {n : Nat} (hn : n ≤ 8) (s : Int64) (p : Int32) : GV (rsG n s p) := by
  refine ⟨hn, fun _ _ => show (-3 : Int32) ≤ 1 ∧ (1 : Int32) ≤ 3 from ⟨by decide, by decide⟩, fun u v _ _ => ⟨rsT_c s p u v, ?_⟩⟩
  show _ ≤ rsT s p u v ∧ rsT s p u v ≤ _
  unfold rsT
  split
  · exact ⟨by decide, by decide⟩
  · split <;> exact ⟨by decide, by decide⟩
theorem s_joinRandomly {μ : HMem} {g n : Nat} (hg : IsG g) (hn : n ≤ 8) (h : CG μ g (n, fun _ => 1, fun _ _ => 0)) (seed p : Int32) {Q : Unit → HMem → Prop} (hQ : ∀ μ', CG μ' g (rsG n seed.toInt64 p) → Fr g (g + 4) μ μ' → Q () μ') : wp (f_Graph_joinRandomly g seed p μ) Q := by
  unfold f_Graph_joinRandomly
  refine w_let ?_
  generalize seed.toInt64 = s at hQ ⊢
  refine w_for (fun f i (x : Int64 × HMem) => wp (f_Graph_joinRandomly_L6 f g p x.1 (nI i) x.2) Q) (fun i x => x.1 = rsN s (sm (fun i => i) i) ∧ Fr g (g + 4) μ x.2 ∧ CG x.2 g (dG n (fun _ => 1) (fun a b => max a b < i) (rsT s p) (fun _ _ => 0))) n ?_ ?_ 0 (s, μ) (by omega) (by omega) ⟨rfl, Fr.refl _ _ _, h.congr (dG_0 (fun a b _ _ => by omega))⟩
  · rintro f ⟨_, m⟩ ⟨rfl, g1, g2⟩
    show wp (f_Graph_joinRandomly_L6_b (f_Graph_joinRandomly_L6 f) g p _ (nI n) m) Q
    unfold f_Graph_joinRandomly_L6_b
    refine w_t (by rw [g2.1]; exact Int32.le_refl _) ?_
    exact w_ret (hQ m (g2.congr (dG_1 (fun a b ha hb => by omega))) g1)
  · rintro f i ⟨_, m⟩ hi ⟨rfl, g1, g2⟩ ih
    show wp (f_Graph_joinRandomly_L6_b (f_Graph_joinRandomly_L6 f) g p _ (nI i) m) Q
    unfold f_Graph_joinRandomly_L6_b
    refine w_f (by rw [g2.1]; exact nI_ge hi (by show n < 2 ^ 31; omega)) ?_
    refine w_for (fun f2 j (x : Int64 × HMem) => wp (f_Graph_joinRandomly_L18 (f_Graph_joinRandomly_J69 (f_Graph_joinRandomly_L6 f)) f2 g p x.1 (nI i) (nI j) x.2) Q) (fun j x => x.1 = rsN s (sm (fun i => i) i + j) ∧ Fr g (g + 4) μ x.2 ∧ CG x.2 g (dG n (fun _ => 1) (fun a b => max a b < i ∨ (max a b = i ∧ min a b < j)) (rsT s p) (fun _ _ => 0))) i ?_ ?_ 0 (_, m) (by omega) (by omega) ⟨rfl, g1, g2.congr (dG_D (fun a b _ _ => by omega))⟩
    · rintro f2 ⟨_, m⟩ ⟨rfl, g1, g2⟩
      show wp (f_Graph_joinRandomly_L18_b (f_Graph_joinRandomly_J69 (f_Graph_joinRandomly_L6 f)) (f_Graph_joinRandomly_L18 (f_Graph_joinRandomly_J69 (f_Graph_joinRandomly_L6 f)) f2) g p _ (nI i) (nI i) m) Q
      unfold f_Graph_joinRandomly_L18_b f_Graph_joinRandomly_J69
      refine w_t (Int32.le_refl _) ?_
      refine w_let ?_
      rw [nI_1]
      refine ih (_, m) ⟨rfl, g1, g2.congr ?_⟩
      refine dG_s (u := i) (v := i) ?_ ?_ (fun a b _ _ => by omega) <;>
      · unfold rsT
        split
        · rfl
        · rw [if_pos rfl]
    · rintro f2 j ⟨_, m⟩ hj ⟨rfl, g1, g2⟩ ih'
      show wp (f_Graph_joinRandomly_L18_b (f_Graph_joinRandomly_J69 (f_Graph_joinRandomly_L6 f)) (f_Graph_joinRandomly_L18 (f_Graph_joinRandomly_J69 (f_Graph_joinRandomly_L6 f)) f2) g p _ (nI i) (nI j) m) Q
      unfold f_Graph_joinRandomly_L18_b f_Graph_joinRandomly_J63
      refine w_f (nI_ge hj (by omega)) ?_
      refine w_f (by decide) ?_
      refine w_let ?_
      refine w_f (by decide) ?_
      refine w_f (by decide) ?_
      have hne : ¬ j = i := by omega
      have t1 : rsT s p j i = if 0 ≤ lg_cmp (h_lrem (rsN s (sm (fun i => i) i + j + 1) / 65536) 100) (Int32.toInt64 p) then 0 else 1 := by
        unfold rsT
        rw [Nat.max_eq_right (by omega), Nat.min_eq_left (by omega), if_neg hne]
      have t2 := (rsT_c s p i j).trans t1
      have hD : ∀ a b : Nat, a < n → b < n → ((max a b < i ∨ (max a b = i ∧ min a b < j + 1)) ↔ (max a b < i ∨ (max a b = i ∧ min a b < j)) ∨ (a = i ∧ b = j) ∨ (a = j ∧ b = i)) := by
        intro a b _ _
        omega
      refine w_if (fun hb => ?_) (fun hb => ?_)
      · replace t1 : rsT s p j i = 0 := t1.trans (if_pos hb)
        replace t2 : rsT s p i j = 0 := t2.trans (if_pos hb)
        refine w_let ?_
        rw [nI_1]
        exact ih' (_, m) ⟨rfl, g1, g2.congr (dG_s t2 t1 hD)⟩
      · replace t1 : rsT s p j i = 1 := t1.trans (if_neg hb)
        replace t2 : rsT s p i j = 1 := t2.trans (if_neg hb)
        refine w_bdk (s_join hg g2 hn (by show i < n; omega) (by show j < n; omega) 1 (fun m1 a1 a2 => ?_))
        refine w_let ?_
        rw [nI_1]
        exact ih' (_, m1) ⟨rfl, g1.trans a2 (by omega) (by omega) (by omega) (by omega), a1.congr (dG_j t2 t1 hD)⟩
