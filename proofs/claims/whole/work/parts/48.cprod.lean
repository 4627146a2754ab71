/-! 48: products; counts of edges; parts -/
def lim (k v : Int32) : Int32 := h_mmax (-k) (h_mmin k v)
theorem lim_b (k v : Int32) (h : -k ≤ k) : -k ≤ lim k v ∧ lim k v ≤ k := by
  unfold lim h_mmax h_mmin
  rw [Int32.le_iff_toInt_le] at h
  simp only [Int32.lt_iff_toInt_lt, Int32.le_iff_toInt_le]
  split <;> split <;> omega
theorem e_limited (v k : Int32) (μ : HMem) : f_Bench_limited v k μ = some (lim k v, μ) := rfl
def prS (X : HG) (b : Bool) (u v : Nat) : Int32 := if b = true ∧ u = v then 1 else X.2.2 u v
def prT (X Y : HG) (b : Bool) : Nat → Nat → Int32 := fun i j => lim 2 (prS X b (i / Y.1) (j / Y.1) * prS Y b (i % Y.1) (j % Y.1))
def prW (X Y : HG) : Nat → Int32 := fun i => lim 3 (X.2.1 (i / Y.1) * Y.2.1 (i % Y.1))
def prG (X Y : HG) (b : Bool) : HG := (X.1 * Y.1, prW X Y, prT X Y b)
theorem prS_c {X : HG} (h : GV X) (b : Bool) {u v : Nat} (hu : u < X.1) (hv : v < X.1) : prS X b u v = prS X b v u := by
  unfold prS
  by_cases e : b = true ∧ u = v
  · rw [if_pos e, if_pos ⟨e.1, e.2.symm⟩]
  · have e' : ¬ (b = true ∧ v = u) := fun h => e ⟨h.1, h.2.symm⟩
    rw [if_neg e, if_neg e', (h.2.2 u v hu hv).1]
theorem dm_lt {i n m : Nat} (h : i < n * m) : i / m < n ∧ i % m < m := by
  have hm : 0 < m := Nat.pos_of_ne_zero (fun e => by subst e; simp at h)
  exact ⟨(Nat.div_lt_iff_lt_mul hm).mpr h, Nat.mod_lt _ hm⟩
theorem prT_c {X Y : HG} (hX : GV X) (hY : GV Y) (b : Bool) {i j : Nat} (hi : i < X.1 * Y.1) (hj : j < X.1 * Y.1) : prT X Y b i j = prT X Y b j i := by
  unfold prT
  obtain ⟨a1, a2⟩ := dm_lt hi
  obtain ⟨b1, b2⟩ := dm_lt hj
  rw [prS_c hX b a1 b1, prS_c hY b a2 b2]
theorem GV_pr {X Y : HG} (hX : GV X) (hY : GV Y) (b : Bool) (h : X.1 * Y.1 ≤ 8) : GV (prG X Y b) := by
  refine ⟨h, fun v _ => lim_b 3 _ (by decide), fun u v hu hv => ⟨prT_c hX hY b hu hv, lim_b 2 _ (by decide)⟩⟩
theorem mab {m a b : Nat} (hb : b < m) : (m * a + b) / m = a ∧ (m * a + b) % m = b := by
  have hm : 0 < m := by omega
  refine ⟨?_, ?_⟩
  · rw [Nat.mul_add_div hm, Nat.div_eq_of_lt hb, Nat.add_zero]
  · rw [Nat.mul_add_mod, Nat.mod_eq_of_lt hb]
theorem mab_lt {n m a b : Nat} (ha : a < n) (hb : b < m) : m * a + b < n * m := by
  have h1 : m * (a + 1) ≤ m * n := Nat.mul_le_mul_left m ha
  rw [Nat.mul_succ] at h1
  rw [Nat.mul_comm n m]
  omega
theorem e_step {μ : HMem} {g : Nat} {G : HG} (hg : IsG g) (h : CG μ g G) (hn : G.1 ≤ 8) {u v : Nat} (hu : u < G.1) (hv : v < G.1) (b : Bool) : f_Graph_step g (nI u) (nI v) (bI b) μ = some (prS G b u v, μ) := by
  unfold f_Graph_step f_Graph_step_J13 f_Graph_step_J19
  rw [e_between hg h hn hu hv, bd_some]
  unfold prS
  cases b with
  | false => rw [if_pos (by decide), if_neg (fun h => by cases h.1)]
  | true =>
    rw [if_neg (by decide)]
    by_cases e : u = v
    · rw [if_neg (fun h => h (by rw [e])), if_pos ⟨rfl, e⟩]
    · rw [if_pos (fun h => e ((eqI (by omega) (by omega)).mp h)), if_neg (fun h => e h.2)]
theorem mnab {m a b : Nat} : (nI m * nI a) + nI b = nI (m * a + b) := by rw [pk_mul, nI_add]
def prD (s t : Nat) : Nat → Nat → Prop := fun i j => min i j < s ∨ (i = s ∧ j < t) ∨ (j = s ∧ i < t)
theorem s_joinPair {μ : HMem} {g x y : Nat} {X Y : HG} {W : Nat → Int32} {E : Nat → Nat → Int32} (hg : IsG g) (hx : IsG x) (hy : IsG y) (hdx : g + 4 ≤ x ∨ x + 4 ≤ g) (hdy : g + 4 ≤ y ∨ y + 4 ≤ g) (hX : GV X) (hY : GV Y) (hcx : CG μ x X) (hcy : CG μ y Y) (hN : X.1 * Y.1 ≤ 8) (b : Bool) {a c : Nat} (ha : a < X.1) (hc : c < Y.1) (h : CG μ g (dG (X.1 * Y.1) W (prD (Y.1 * a + c) 0) (prT X Y b) E)) {Q : Unit → HMem → Prop} (hQ : ∀ μ', CG μ' g (dG (X.1 * Y.1) W (prD (Y.1 * a + c + 1) 0) (prT X Y b) E) → Fr g (g + 4) μ μ' → Q () μ') : wp (f_Graph_joinPair g x y (nI a) (nI c) (bI b) μ) Q := by
  have hX8 := hX.1
  have hY8 := hY.1
  have hs : Y.1 * a + c < X.1 * Y.1 := mab_lt ha hc
  have hsm := mab (a := a) hc
  generalize hS : Y.1 * a + c = s at h hQ hs hsm
  unfold f_Graph_joinPair
  refine w_for (fun f i (m : HMem) => wp (f_Graph_joinPair_L3 f g x y (nI a) (nI c) (bI b) (nI i) m) Q) (fun i m => Fr g (g + 4) μ m ∧ CG m g (dG (X.1 * Y.1) W (prD s (Y.1 * i)) (prT X Y b) E)) X.1 ?_ ?_ 0 μ (by omega) (by omega) ⟨Fr.refl _ _ _, h⟩
  · rintro f m ⟨g1, g2⟩
    show wp (f_Graph_joinPair_L3_b (f_Graph_joinPair_L3 f) g x y (nI a) (nI c) (bI b) (nI X.1) m) Q
    unfold f_Graph_joinPair_L3_b
    refine w_t (by rw [(hcx.fr g1 (by omega)).1]; exact Int32.le_refl _) ?_
    refine w_ret (hQ m (g2.congr (dG_D (fun i j hi hj => ?_))) g1)
    unfold prD
    rw [Nat.mul_comm Y.1 X.1]
    omega
  · rintro f i m hi ⟨g1, g2⟩ ih
    show wp (f_Graph_joinPair_L3_b (f_Graph_joinPair_L3 f) g x y (nI a) (nI c) (bI b) (nI i) m) Q
    unfold f_Graph_joinPair_L3_b
    refine w_f (by rw [(hcx.fr g1 (by omega)).1]; exact nI_ge hi (by omega)) ?_
    refine w_for (fun f2 j (m : HMem) => wp (f_Graph_joinPair_L15 (f_Graph_joinPair_J81 (f_Graph_joinPair_L3 f)) f2 g x y (nI a) (nI c) (bI b) (nI i) (nI j) m) Q) (fun j m => Fr g (g + 4) μ m ∧ CG m g (dG (X.1 * Y.1) W (prD s (Y.1 * i + j)) (prT X Y b) E)) Y.1 ?_ ?_ 0 m (by omega) (by omega) ⟨g1, g2⟩
    · rintro f2 m ⟨g1, g2⟩
      show wp (f_Graph_joinPair_L15_b (f_Graph_joinPair_J81 (f_Graph_joinPair_L3 f)) (f_Graph_joinPair_L15 (f_Graph_joinPair_J81 (f_Graph_joinPair_L3 f)) f2) g x y (nI a) (nI c) (bI b) (nI i) (nI Y.1) m) Q
      unfold f_Graph_joinPair_L15_b f_Graph_joinPair_J81
      refine w_t (by rw [(hcy.fr g1 (by omega)).1]; exact Int32.le_refl _) ?_
      refine w_let ?_
      rw [nI_1]
      exact ih m ⟨g1, g2⟩
    · rintro f2 j m hj ⟨g1, g2⟩ ih'
      show wp (f_Graph_joinPair_L15_b (f_Graph_joinPair_J81 (f_Graph_joinPair_L3 f)) (f_Graph_joinPair_L15 (f_Graph_joinPair_J81 (f_Graph_joinPair_L3 f)) f2) g x y (nI a) (nI c) (bI b) (nI i) (nI j) m) Q
      unfold f_Graph_joinPair_L15_b
      have hcxm := hcx.fr g1 (by omega)
      have hcym := hcy.fr g1 (by omega)
      refine w_f (by rw [hcym.1]; exact nI_ge hj (by omega)) ?_
      refine w_bde (e_step hx hcxm hX8 ha hi b) ?_
      refine w_bde (e_step hy hcym hY8 hc hj b) ?_
      refine w_let ?_
      refine w_bde (e_limited _ _ _) ?_
      rw [hcym.1, mnab, mnab, hS]
      have ht : Y.1 * i + j < X.1 * Y.1 := mab_lt hi hj
      have htm := mab (a := i) hj
      generalize hT : Y.1 * i + j = t at g2 ih' ht htm
      have t1 : prT X Y b s t = lim 2 (prS X b a i * prS Y b c j) := by
        unfold prT
        rw [hsm.1, hsm.2, htm.1, htm.2]
      have t2 := (prT_c hX hY b ht hs).trans t1
      refine w_bdk (s_join hg g2 hN hs ht _ (fun m1 b1 b2 => ?_))
      refine w_let ?_
      rw [nI_1]
      refine ih' m1 ⟨g1.trans b2 (by omega) (by omega) (by omega) (by omega), b1.congr (dG_j t1 t2 (fun p q _ _ => ?_))⟩
      rw [show Y.1 * i + (j + 1) = t + 1 by omega]
      unfold prD
      omega
theorem s_multiply {μ : HMem} {g x y : Nat} {X Y : HG} (hg : IsG g) (hx : IsG x) (hy : IsG y) (hdx : g + 4 ≤ x ∨ x + 4 ≤ g) (hdy : g + 4 ≤ y ∨ y + 4 ≤ g) (hX : GV X) (hY : GV Y) (hcx : CG μ x X) (hcy : CG μ y Y) (hN : X.1 * Y.1 ≤ 8) (b : Bool) (h : CG μ g (X.1 * Y.1, fun _ => 1, fun _ _ => 0)) {Q : Unit → HMem → Prop} (hQ : ∀ μ', CG μ' g (prG X Y b) → Fr g (g + 4) μ μ' → Q () μ') : wp (f_Graph_multiply g x y (bI b) μ) Q := by
  have hX8 := hX.1
  have hY8 := hY.1
  unfold f_Graph_multiply
  have hN8 : X.1 * Y.1 ≤ 8 := hN
  refine w_for (fun f i (m : HMem) => wp (f_Graph_multiply_L3 f g x y (bI b) (nI i) m) Q) (fun i m => Fr g (g + 4) μ m ∧ CG m g (dG (X.1 * Y.1) (fun v => if v < Y.1 * i then prW X Y v else 1) (prD (Y.1 * i) 0) (prT X Y b) (fun _ _ => 0))) X.1 ?_ ?_ 0 μ (by omega) (by omega) ⟨Fr.refl _ _ _, h.congr ⟨rfl, fun v _ => ?_, fun i j _ _ => ?_⟩⟩
  · rintro f m ⟨g1, g2⟩
    show wp (f_Graph_multiply_L3_b (f_Graph_multiply_L3 f) g x y (bI b) (nI X.1) m) Q
    unfold f_Graph_multiply_L3_b
    refine w_t (by rw [(hcx.fr g1 (by omega)).1]; exact Int32.le_refl _) ?_
    rw [Nat.mul_comm Y.1 X.1] at g2
    refine w_ret (hQ m (g2.congr ⟨rfl, fun v hv => ?_, fun i j hi hj => ?_⟩) g1)
    · have hv' : v < X.1 * Y.1 := hv
      show (if v < X.1 * Y.1 then _ else _) = _
      rw [if_pos hv']
      rfl
    · have hi' : i < X.1 * Y.1 := hi
      have hj' : j < X.1 * Y.1 := hj
      rw [dG_t]
      · rfl
      · unfold prD; omega
  · rintro f i m hi ⟨g1, g2⟩ ih
    show wp (f_Graph_multiply_L3_b (f_Graph_multiply_L3 f) g x y (bI b) (nI i) m) Q
    unfold f_Graph_multiply_L3_b
    refine w_f (by rw [(hcx.fr g1 (by omega)).1]; exact nI_ge hi (by omega)) ?_
    refine w_for (fun f2 j (m : HMem) => wp (f_Graph_multiply_L15 (f_Graph_multiply_J75 (f_Graph_multiply_L3 f)) f2 g x y (bI b) (nI i) (nI j) m) Q) (fun j m => Fr g (g + 4) μ m ∧ CG m g (dG (X.1 * Y.1) (fun v => if v < Y.1 * i + j then prW X Y v else 1) (prD (Y.1 * i + j) 0) (prT X Y b) (fun _ _ => 0))) Y.1 ?_ ?_ 0 m (by omega) (by omega) ⟨g1, g2⟩
    · rintro f2 m ⟨g1, g2⟩
      show wp (f_Graph_multiply_L15_b (f_Graph_multiply_J75 (f_Graph_multiply_L3 f)) (f_Graph_multiply_L15 (f_Graph_multiply_J75 (f_Graph_multiply_L3 f)) f2) g x y (bI b) (nI i) (nI Y.1) m) Q
      unfold f_Graph_multiply_L15_b f_Graph_multiply_J75
      refine w_t (by rw [(hcy.fr g1 (by omega)).1]; exact Int32.le_refl _) ?_
      refine w_let ?_
      rw [nI_1]
      exact ih m ⟨g1, g2⟩
    · rintro f2 j m hj ⟨g1, g2⟩ ih'
      show wp (f_Graph_multiply_L15_b (f_Graph_multiply_J75 (f_Graph_multiply_L3 f)) (f_Graph_multiply_L15 (f_Graph_multiply_J75 (f_Graph_multiply_L3 f)) f2) g x y (bI b) (nI i) (nI j) m) Q
      unfold f_Graph_multiply_L15_b
      have hcxm := hcx.fr g1 (by omega)
      have hcym := hcy.fr g1 (by omega)
      have ht : Y.1 * i + j < X.1 * Y.1 := mab_lt hi hj
      have htm := mab (a := i) hj
      refine w_f (by rw [hcym.1]; exact nI_ge hj (by omega)) ?_
      refine w_chk (by rw [len_1 hx]; exact in_N (by omega) (by omega)) ?_
      refine w_chk (by rw [len_1 hy]; exact in_N (by omega) (by omega)) ?_
      refine w_bde (e_limited _ _ _) ?_
      rw [hcym.1, mnab, cl_8 (u := i) (by omega), cl_8 (u := j) (by omega), hcxm.2.1 i hi, hcym.2.1 j hj]
      refine w_chk (by rw [len_1 hg]; exact in_N (by omega) (by omega)) ?_
      refine w_let ?_
      rw [cl_8 (by omega)]
      have wv : prW X Y (Y.1 * i + j) = lim 3 (X.2.1 i * Y.2.1 j) := by
        unfold prW
        rw [htm.1, htm.2]
      have a1 := (g2.wt (Y.1 * i + j) (lim 3 (X.2.1 i * Y.2.1 j))).congr (dG_w (W' := fun v => if v < Y.1 * i + j + 1 then prW X Y v else 1) (fun v _ => ?_))
      · have f1 : Fr g (g + 4) m (h_wi m (g + 1) (Y.1 * i + j) (lim 3 (X.2.1 i * Y.2.1 j))) := Fr.wi (by omega) (by omega)
        have g3 := g1.trans f1 (Nat.le_refl g) (Nat.le_refl (g + 4)) (Nat.le_refl g) (Nat.le_refl (g + 4))
        refine w_bdk (s_joinPair hg hx hy hdx hdy hX hY (hcx.fr g3 (by omega)) (hcy.fr g3 (by omega)) hN8 b hi hj a1 (fun m1 b1 b2 => ?_))
        refine w_let ?_
        rw [nI_1]
        exact ih' m1 ⟨g3.trans b2 (by omega) (by omega) (by omega) (by omega), b1⟩
      · show (if v < Y.1 * i + j + 1 then _ else _) = if v = Y.1 * i + j then _ else (if v < Y.1 * i + j then _ else _)
        by_cases e : v = Y.1 * i + j
        · rw [if_pos e, if_pos (by omega), e, wv]
        · rw [if_neg e]
          by_cases e2 : v < Y.1 * i + j
          · rw [if_pos e2, if_pos (by omega)]
          · rw [if_neg e2, if_neg (by omega)]
  · show (1 : Int32) = if v < Y.1 * 0 then prW X Y v else 1
    rw [if_neg (by omega)]
  · rw [dG_f]
    unfold prD
    omega
/-- edges are seen from both ends -/
theorem nS8 {x y : Int32} (h : S8 x) : S8 (x &&& y) := fun i hi => by rw [b_and, h i hi]; rfl
def eeN (E : Nat → Nat → Int32) (n : Nat) : Nat := sm (fun u => cn (fun v => !decide (E u v = 0) && !decide (u = v)) n) n
theorem eeN_2 {G : HG} (h : GV G) : eeN G.2.2 G.1 = 2 * edN G.2.2 false G.1 := by
  unfold eeN edN
  have e1 : ∀ u, cn (fun v => !decide (G.2.2 u v = 0) && !decide (u = v)) G.1 = cn (fun v => decide (u ≤ v) && edP G.2.2 false u v) G.1 + cn (fun v => decide (v ≤ u) && edP G.2.2 false u v) G.1 := by
    intro u
    rw [cn_sm, cn_sm, cn_sm, ← sm_add]
    refine sm_ext (fun v _ => ?_)
    unfold edP
    by_cases e : u = v
    · simp [e]
    · have e' : decide (u = v) = false := decide_eq_false e
      rw [e']
      rcases Nat.lt_or_ge u v with h1 | h1
      · have h2 : u ≤ v := by omega
        have h3 : ¬ v ≤ u := by omega
        simp [h2, h3]
      · have h2 : v ≤ u := by omega
        have h3 : ¬ u ≤ v := by omega
        simp [h2, h3]
  rw [sm_ext (fun u _ => e1 u), sm_add]
  have e2 : sm (fun u => cn (fun v => decide (v ≤ u) && edP G.2.2 false u v) G.1) G.1 = sm (fun u => cn (fun v => decide (u ≤ v) && edP G.2.2 false u v) G.1) G.1 := by
    rw [sm_ext (fun u _ => cn_sm (fun v => decide (v ≤ u) && edP G.2.2 false u v) G.1), sm_comm]
    refine sm_ext (fun v hv => ?_)
    rw [cn_sm]
    refine sm_ext (fun u hu => ?_)
    have : edP G.2.2 false u v = edP G.2.2 false v u := by
      unfold edP
      rw [(h.2.2 u v hu hv).1]
      by_cases e : u = v
      · rw [e]
      · have e' : ¬ v = u := fun h => e h.symm
        rw [decide_eq_false e, decide_eq_false e']
    rw [this]
  rw [e2]
  omega
theorem s_edgeCount {μ : HMem} {g : Nat} {G : HG} (hg : IsG g) (h : CG μ g G) (hV : GV G) : f_Graph_edgeCount g μ = some (nI (edN G.2.2 false G.1), μ) := by
  have hn := hV.1
  have key : wp (f_Graph_edgeCount g μ) (fun r μ' => r = nI (edN G.2.2 false G.1) ∧ μ' = μ) := by
    unfold f_Graph_edgeCount
    refine w_for (fun f i (x : Nat) => wp (f_Graph_edgeCount_L4 f g (nI x) (nI i) μ) _) (fun i x => x = sm (fun u => cn (fun v => !decide (G.2.2 u v = 0) && !decide (u = v)) G.1) i) G.1 ?_ ?_ 0 0 (by omega) (by omega) rfl
    · rintro f x rfl
      show wp (f_Graph_edgeCount_L4_b (f_Graph_edgeCount_L4 f) g _ (nI G.1) μ) _
      unfold f_Graph_edgeCount_L4_b
      refine w_t (by rw [h.1]; exact Int32.le_refl _) ?_
      refine w_f (by decide) ?_
      refine w_ret ⟨?_, rfl⟩
      have hb : eeN G.2.2 G.1 ≤ G.1 * 8 := sm_le (fun i _ => Nat.le_trans (cn_le _ _) hn)
      have := eeN_2 hV
      show nI (eeN G.2.2 G.1) / 2 = _
      show nI (eeN G.2.2 G.1) / nI 2 = _
      rw [pk_div (by omega) (by omega) (by omega), this, Nat.mul_div_cancel_left _ (by omega)]
    · rintro f i x hi rfl ih
      show wp (f_Graph_edgeCount_L4_b (f_Graph_edgeCount_L4 f) g _ (nI i) μ) _
      unfold f_Graph_edgeCount_L4_b
      refine w_f (by rw [h.1]; exact nI_ge hi (by omega)) ?_
      refine w_chk (by rw [len_3 hg]; exact in_N (by omega) (by omega)) ?_
      rw [cl_8 (by omega)]
      refine w_bde (f_bitCount (nS8 (near_S8 h hn (by omega))) μ) ?_
      refine w_let ?_
      refine w_let ?_
      rw [nI_1, nI_add]
      refine ih _ ?_
      show _ = sm _ i + _
      congr 1
      have : ∀ v, bt (μ.1 (g + 3) i &&& (h_ishl 1 (nI i) ^^^ -1)) v = (decide (v < G.1) && (!decide (G.2.2 i v = 0) && !decide (i = v))) := by
        intro v
        rw [b_not, b_one (by omega)]
        have h4 := h.2.2.2 i v (by omega)
        by_cases c : v < G.1
        · by_cases c2 : G.2.2 i v = 0
          · have : bt (μ.1 (g + 3) i) v = false := by
              cases hb : bt (μ.1 (g + 3) i) v with
              | false => rfl
              | true => exact absurd c2 (h4.mp hb).2.2
            simp [this, c2]
          · rw [h4.mpr ⟨hi, c, c2⟩]
            simp [c, c2]
            by_cases e : v = i
            · simp [e]
            · have e' : ¬ i = v := fun h => e h.symm
              simp [e, e']
        · have : bt (μ.1 (g + 3) i) v = false := by
            cases hb : bt (μ.1 (g + 3) i) v with
            | false => rfl
            | true => exact absurd (h4.mp hb).2.1 c
          simp [this, c]
      rw [cn_ext (fun v _ => this v)]
      have := cn_add (p := fun v => decide (v < G.1) && (!decide (G.2.2 i v = 0) && !decide (i = v))) G.1 (8 - G.1) (fun v h1 _ => by
        have : ¬ v < G.1 := by omega
        simp [this])
      rw [show G.1 + (8 - G.1) = 8 by omega] at this
      rw [this]
      refine cn_ext (fun v hv => ?_)
      simp [hv]
  obtain ⟨r, μ', e, rfl, rfl⟩ := key
  exact e
