/-! 47: the class's graph: made from others -/
theorem cn_mn (p : Nat → Bool) {a b : Nat} (h : a ≤ b) : cn p a ≤ cn p b := by
  induction b with
  | zero => have : a = 0 := by omega
            subst this; exact Nat.le_refl _
  | succ b ih =>
    rcases Nat.lt_or_ge b a with h1 | h1
    · have : a = b + 1 := by omega
      subst this; exact Nat.le_refl _
    · have := ih h1
      show _ ≤ cn p b + _
      omega
theorem cn_s (p : Nat → Bool) (a : Nat) : cn p (a + 1) = cn p a + (if p a then 1 else 0) := rfl
theorem cn_st {p : Nat → Bool} {a b : Nat} (hp : p a = true) (h : a < b) : cn p a < cn p b := by
  have h1 := cn_mn p (show a + 1 ≤ b from h)
  rw [cn_s, hp] at h1
  simp at h1
  omega
def sel (p : Nat → Bool) : Nat → Nat → Nat
  | 0, _ => 0
  | a + 1, i => if p a = true ∧ cn p a = i then a else sel p a i
theorem sel_rk {p : Nat → Bool} : ∀ {n a : Nat}, a < n → p a = true → sel p n (cn p a) = a
  | 0, _, h, _ => absurd h (Nat.not_lt_zero _)
  | n + 1, a, h, hp => by
    unfold sel
    rcases Nat.lt_or_ge a n with h1 | h1
    · have := cn_st hp h1
      rw [if_neg (fun hh => by omega)]
      exact sel_rk h1 hp
    · have : a = n := by omega
      subst this
      rw [if_pos ⟨hp, rfl⟩]
theorem sel_sp {p : Nat → Bool} : ∀ {n i : Nat}, i < cn p n → sel p n i < n ∧ p (sel p n i) = true ∧ cn p (sel p n i) = i
  | 0, _, h => absurd h (Nat.not_lt_zero _)
  | n + 1, i, h => by
    unfold sel
    by_cases c : p n = true ∧ cn p n = i
    · rw [if_pos c]; exact ⟨by omega, c.1, c.2⟩
    · rw [if_neg c]
      rw [cn_s] at h
      have h2 : i < cn p n := by
        cases hp : p n with
        | false => rw [hp] at h; simpa using h
        | true =>
          rw [hp] at h
          have : ¬ cn p n = i := fun e => c ⟨hp, e⟩
          simp at h
          omega
      obtain ⟨a, b, d⟩ := sel_sp h2
      exact ⟨by omega, b, d⟩
def inG (X : HG) (p : Nat → Bool) : HG := (cn p X.1, fun i => X.2.1 (sel p X.1 i), fun i j => X.2.2 (sel p X.1 i) (sel p X.1 j))
theorem GV_in {X : HG} (h : GV X) (p : Nat → Bool) : GV (inG X p) := by
  refine ⟨Nat.le_trans (cn_le p X.1) h.1, fun v hv => h.2.1 _ (sel_sp hv).1, fun u v hu hv => h.2.2 _ _ (sel_sp hu).1 (sel_sp hv).1⟩
/-- a part of X put into a graph from a vertex on -/
def plG (G0 X : HG) (p : Nat → Bool) (s : Nat) : HG := (G0.1, fun i => if s ≤ i ∧ i < s + cn p X.1 then X.2.1 (sel p X.1 (i - s)) else G0.2.1 i, fun i j => if (s ≤ i ∧ i < s + cn p X.1) ∧ (s ≤ j ∧ j < s + cn p X.1) then X.2.2 (sel p X.1 (i - s)) (sel p X.1 (j - s)) else G0.2.2 i j)
theorem dG_w {n : Nat} {W W' : Nat → Int32} {D : Nat → Nat → Prop} {T E : Nat → Nat → Int32} {u : Nat} {w : Int32} (h : ∀ i, i < n → W' i = if i = u then w else W i) : GE (sw (dG n W D T E) u w) (dG n W' D T E) := ⟨rfl, fun v hv => (h v hv).symm, fun _ _ _ _ => rfl⟩
def plD (s c x y : Nat) : Nat → Nat → Prop := fun i j => ((s ≤ i ∧ i < s + c) ∧ (s ≤ j ∧ j < s + c)) ∧ (min i j < x ∨ (min i j = x ∧ max i j < y))
def plT (X : HG) (p : Nat → Bool) (s : Nat) : Nat → Nat → Int32 := fun i j => X.2.2 (sel p X.1 (i - s)) (sel p X.1 (j - s))
theorem s_joinPlaced {μ : HMem} {g x N : Nat} {X : HG} {W : Nat → Int32} {E : Nat → Nat → Int32} (hg : IsG g) (hx : IsG x) (hd : g + 4 ≤ x ∨ x + 4 ≤ g) (part : Int32) (hX : GV X) (hc : CG μ x X) {s : Nat} (hs : s + cn (bt part) X.1 ≤ N) (hN : N ≤ 8) {a : Nat} (ha : a < X.1) (hp : bt part a = true) (h : CG μ g (dG N W (plD s (cn (bt part) X.1) (s + cn (bt part) a) 0) (plT X (bt part) s) E)) {Q : Unit → HMem → Prop} (hQ : ∀ μ', CG μ' g (dG N W (plD s (cn (bt part) X.1) (s + cn (bt part) a + 1) 0) (plT X (bt part) s) E) → Fr g (g + 4) μ μ' → Q () μ') : wp (f_Graph_joinPlaced g x part (nI a) (nI (s + cn (bt part) a)) μ) Q := by
  have hX8 := hX.1
  have hlt : ∀ b, b < X.1 → bt part b = true → cn (bt part) b < cn (bt part) X.1 := fun b hb hp => cn_st hp hb
  unfold f_Graph_joinPlaced
  refine w_for (fun f b (y : Nat × HMem) => wp (f_Graph_joinPlaced_L7 f g x part (nI a) (nI (s + cn (bt part) a)) (nI y.1) (nI b) y.2) Q) (fun b y => a ≤ b ∧ y.1 = s + cn (bt part) b ∧ Fr g (g + 4) μ y.2 ∧ CG y.2 g (dG N W (plD s (cn (bt part) X.1) (s + cn (bt part) a) y.1) (plT X (bt part) s) E)) X.1 ?_ ?_ a (s + cn (bt part) a, μ) (by omega) (by omega) ⟨Nat.le_refl _, rfl, Fr.refl _ _ _, h.congr (dG_D (fun i j _ _ => by unfold plD; omega))⟩
  · rintro f ⟨_, m⟩ ⟨_, rfl, g1, g2⟩
    show wp (f_Graph_joinPlaced_L7_b (f_Graph_joinPlaced_L7 f) g x part (nI a) _ (nI (s + cn (bt part) X.1)) (nI X.1) m) Q
    unfold f_Graph_joinPlaced_L7_b
    have hcm := hc.fr g1 (by omega)
    refine w_t (by rw [hcm.1]; exact Int32.le_refl _) ?_
    refine w_ret (hQ m (g2.congr (dG_D (fun i j _ _ => ?_))) g1)
    unfold plD
    show _ ↔ _ ∧ (_ ∨ (_ ∧ max i j < s + cn (bt part) X.1))
    omega
  · rintro f b ⟨_, m⟩ hb ⟨hab, rfl, g1, g2⟩ ih
    show wp (f_Graph_joinPlaced_L7_b (f_Graph_joinPlaced_L7 f) g x part (nI a) _ (nI (s + cn (bt part) b)) (nI b) m) Q
    unfold f_Graph_joinPlaced_L7_b f_Graph_joinPlaced_J43
    have hcm := hc.fr g1 (by omega)
    refine w_f (by rw [hcm.1]; exact nI_ge hb (by omega)) ?_
    refine w_bde (e_has _ (by omega) _) ?_
    refine w_if (fun hbt => ?_) (fun hbt => ?_)
    · rw [bI_0] at hbt
      refine w_let ?_
      rw [nI_1]
      refine ih (s + cn (bt part) b, m) ⟨by omega, ?_, g1, g2⟩
      show s + cn (bt part) b = s + cn (bt part) (b + 1)
      rw [cn_s, hbt]
      simp
    · rw [bI_n] at hbt
      refine w_bde (e_between hx hcm hX8 ha hb) ?_
      have l1 := hlt a ha hp
      have l2 := hlt b hb hbt
      have t1 : plT X (bt part) s (s + cn (bt part) a) (s + cn (bt part) b) = X.2.2 a b := by
        unfold plT
        rw [Nat.add_sub_cancel_left, Nat.add_sub_cancel_left, sel_rk ha hp, sel_rk hb hbt]
      have t2 : plT X (bt part) s (s + cn (bt part) b) (s + cn (bt part) a) = X.2.2 a b := by
        unfold plT
        rw [Nat.add_sub_cancel_left, Nat.add_sub_cancel_left, sel_rk ha hp, sel_rk hb hbt]
        exact (hX.2.2 a b ha hb).1.symm
      have l3 := cn_mn (bt part) hab
      refine w_bdk (s_join hg g2 hN (by show _ < N; omega) (by show _ < N; omega) _ (fun m1 a1 a2 => ?_))
      refine w_let ?_
      refine w_let ?_
      rw [nI_1, nI_1]
      refine ih (s + cn (bt part) b + 1, m1) ⟨by omega, ?_, g1.trans a2 (by omega) (by omega) (by omega) (by omega), a1.congr (dG_j t1 t2 (fun i j _ _ => ?_))⟩
      · show s + cn (bt part) b + 1 = s + cn (bt part) (b + 1)
        rw [cn_s, hbt]
        rfl
      · unfold plD
        show _ ∧ (_ ∨ (_ ∧ max i j < s + cn (bt part) b + 1)) ↔ (_ ∧ (_ ∨ (_ ∧ max i j < s + cn (bt part) b))) ∨ _
        omega
theorem s_place {μ : HMem} {g x : Nat} {G0 X : HG} (hg : IsG g) (hx : IsG x) (hd : g + 4 ≤ x ∨ x + 4 ≤ g) (part : Int32) (hX : GV X) (hc : CG μ x X) {s : Nat} (hs : s + cn (bt part) X.1 ≤ G0.1) (hN : G0.1 ≤ 8) (h : CG μ g G0) {Q : Unit → HMem → Prop} (hQ : ∀ μ', CG μ' g (plG G0 X (bt part) s) → Fr g (g + 4) μ μ' → Q () μ') : wp (f_Graph_place g x part (nI s) μ) Q := by
  obtain ⟨N, W, E⟩ := G0
  have hX8 := hX.1
  have hN' : N ≤ 8 := hN
  have hs' : s + cn (bt part) X.1 ≤ N := hs
  unfold f_Graph_place
  refine w_for (fun f a (y : Nat × HMem) => wp (f_Graph_place_L6 f g x part (nI y.1) (nI a) y.2) Q) (fun a y => y.1 = s + cn (bt part) a ∧ Fr g (g + 4) μ y.2 ∧ CG y.2 g (dG N (fun i => if s ≤ i ∧ i < y.1 then X.2.1 (sel (bt part) X.1 (i - s)) else W i) (plD s (cn (bt part) X.1) y.1 0) (plT X (bt part) s) E)) X.1 ?_ ?_ 0 (s, μ) (by omega) (by omega) ⟨rfl, Fr.refl _ _ _, ?_⟩
  · rintro f ⟨_, m⟩ ⟨rfl, g1, g2⟩
    show wp (f_Graph_place_L6_b (f_Graph_place_L6 f) g x part (nI (s + cn (bt part) X.1)) (nI X.1) m) Q
    unfold f_Graph_place_L6_b
    have hcm := hc.fr g1 (by omega)
    refine w_t (by rw [hcm.1]; exact Int32.le_refl _) ?_
    refine w_ret (hQ m (g2.congr ⟨rfl, fun v hv => rfl, fun i j hi hj => ?_⟩) g1)
    show (dG _ _ _ _ _).2.2 i j = if (s ≤ i ∧ i < s + cn (bt part) X.1) ∧ (s ≤ j ∧ j < s + cn (bt part) X.1) then _ else _
    by_cases c : (s ≤ i ∧ i < s + cn (bt part) X.1) ∧ (s ≤ j ∧ j < s + cn (bt part) X.1)
    · rw [if_pos c, dG_t]
      · rfl
      · unfold plD
        show _ ∧ (min i j < s + cn (bt part) X.1 ∨ _)
        omega
    · rw [if_neg c, dG_f]
      exact fun hh => c hh.1
  · rintro f a ⟨_, m⟩ ha ⟨rfl, g1, g2⟩ ih
    show wp (f_Graph_place_L6_b (f_Graph_place_L6 f) g x part (nI (s + cn (bt part) a)) (nI a) m) Q
    unfold f_Graph_place_L6_b f_Graph_place_J51
    have hcm := hc.fr g1 (by omega)
    refine w_f (by rw [hcm.1]; exact nI_ge ha (by omega)) ?_
    refine w_bde (e_has _ (by omega) _) ?_
    refine w_if (fun hbt => ?_) (fun hbt => ?_)
    · rw [bI_0] at hbt
      refine w_let ?_
      rw [nI_1]
      refine ih (s + cn (bt part) a, m) ⟨?_, g1, g2⟩
      show s + cn (bt part) a = s + cn (bt part) (a + 1)
      rw [cn_s, hbt]
      simp
    · rw [bI_n] at hbt
      have l1 : cn (bt part) a < cn (bt part) X.1 := cn_st hbt ha
      refine w_chk (by rw [len_1 hx]; exact in_N (by omega) (by omega)) ?_
      refine w_chk (by rw [len_1 hg]; exact in_N (by omega) (by omega)) ?_
      refine w_let ?_
      rw [cl_8 (by omega), cl_8 (by omega), hcm.2.1 a ha]
      have a1 := (g2.wt (s + cn (bt part) a) (X.2.1 a)).congr (dG_w (W' := fun i => if s ≤ i ∧ i < s + cn (bt part) a + 1 then X.2.1 (sel (bt part) X.1 (i - s)) else W i) (fun i _ => ?_))
      · have f1 : Fr g (g + 4) m (h_wi m (g + 1) (s + cn (bt part) a) (X.2.1 a)) := Fr.wi (by omega) (by omega)
        have g3 : Fr g (g + 4) μ (h_wi m (g + 1) (s + cn (bt part) a) (X.2.1 a)) := g1.trans f1 (by omega) (by omega) (by omega) (by omega)
        refine w_bdk (s_joinPlaced hg hx hd part hX (hc.fr g3 (by omega)) hs' hN' ha hbt a1 (fun m1 b1 b2 => ?_))
        refine w_let ?_
        refine w_let ?_
        rw [nI_1, nI_1]
        refine ih (s + cn (bt part) a + 1, m1) ⟨?_, g3.trans b2 (by omega) (by omega) (by omega) (by omega), b1⟩
        show s + cn (bt part) a + 1 = s + cn (bt part) (a + 1)
        rw [cn_s, hbt]
        rfl
      · show (if s ≤ i ∧ i < s + cn (bt part) a + 1 then _ else _) = if i = s + cn (bt part) a then _ else (if s ≤ i ∧ i < s + cn (bt part) a then _ else _)
        by_cases e : i = s + cn (bt part) a
        · rw [if_pos e, if_pos (by omega), e, Nat.add_sub_cancel_left, sel_rk ha hbt]
        · rw [if_neg e]
          by_cases e2 : s ≤ i ∧ i < s + cn (bt part) a
          · rw [if_pos e2, if_pos (by omega)]
          · rw [if_neg e2, if_neg (by omega)]
  · refine h.congr ⟨rfl, fun v _ => ?_, fun i j _ _ => ?_⟩
    · show W v = if s ≤ v ∧ v < s then _ else _
      rw [if_neg (by omega)]
    · rw [dG_f]
      unfold plD
      show ¬ (_ ∧ (min i j < s ∨ _))
      omega
theorem s_induce {μ : HMem} {g x : Nat} {X : HG} (hg : IsG g) (hx : IsG x) (hd : g + 4 ≤ x ∨ x + 4 ≤ g) (part : Int32) (hX : GV X) (hc : CG μ x X) (hp : ∀ v, bt part v = true → v < X.1) {Q : Unit → HMem → Prop} (hQ : ∀ μ', CG μ' g (inG X (bt part)) → Fr g (g + 4) μ μ' → Q () μ') : wp (f_Graph_induce g x part μ) Q := by
  have hX8 := hX.1
  have h8 : S8 part := fun i hi => by
    cases hb : bt part i with
    | false => rfl
    | true => have := hp i hb; omega
  have e8 : cn (bt part) 8 = cn (bt part) X.1 := by
    have := cn_add (p := bt part) X.1 (8 - X.1) (fun i h1 _ => by
      cases hb : bt part i with
      | false => rfl
      | true => have := hp i hb; omega)
    rw [show X.1 + (8 - X.1) = 8 by omega] at this
    exact this
  have hle := cn_le (bt part) X.1
  unfold f_Graph_induce
  refine w_bde (f_bitCount h8 μ) ?_
  rw [e8]
  refine w_bdk (s_reset hg (by omega) (fun m1 a1 a2 => ?_))
  refine w_bdk (s_place (G0 := (cn (bt part) X.1, fun _ => 1, fun _ _ => 0)) (s := 0) hg hx hd part hX (hc.fr a2 (by omega)) (by show 0 + _ ≤ _; omega) (by show _ ≤ 8; omega) a1 (fun m2 b1 b2 => ?_))
  refine w_ret (hQ m2 (b1.congr ⟨rfl, fun v hv => ?_, fun u v hu hv => ?_⟩) (a2.trans b2 (by omega) (by omega) (by omega) (by omega)))
  · have hv' : v < cn (bt part) X.1 := hv
    show (if 0 ≤ v ∧ v < 0 + cn (bt part) X.1 then _ else _) = _
    rw [if_pos (by omega)]
    rfl
  · have hu' : u < cn (bt part) X.1 := hu
    have hv' : v < cn (bt part) X.1 := hv
    show (if (0 ≤ u ∧ u < 0 + cn (bt part) X.1) ∧ (0 ≤ v ∧ v < 0 + cn (bt part) X.1) then _ else _) = _
    rw [if_pos (by omega)]
    rfl
/-- the complement -/
def coT (X : HG) : Nat → Nat → Int32 := fun u v => if u = v then 0 else if X.2.2 u v = 0 then 1 else 0
def coG (X : HG) : HG := (X.1, X.2.1, coT X)
theorem coT_c {X : HG} (h : GV X) {u v : Nat} (hu : u < X.1) (hv : v < X.1) : coT X u v = coT X v u := by
  unfold coT
  by_cases e : u = v
  · rw [if_pos e, if_pos e.symm]
  · have e' : ¬ v = u := fun h => e h.symm
    rw [if_neg e, if_neg e', (h.2.2 u v hu hv).1]
theorem GV_co {X : HG} (h : GV X) : GV (coG X) := by
  refine ⟨h.1, h.2.1, fun u v hu hv => ⟨coT_c h hu hv, ?_⟩⟩
  show _ ≤ coT X u v ∧ coT X u v ≤ _
  unfold coT
  split
  · exact ⟨by decide, by decide⟩
  · split <;> exact ⟨by decide, by decide⟩
theorem s_complement {μ : HMem} {g x : Nat} {X : HG} (hg : IsG g) (hx : IsG x) (hd : g + 4 ≤ x ∨ x + 4 ≤ g) (hX : GV X) (hc : CG μ x X) {Q : Unit → HMem → Prop} (hQ : ∀ μ', CG μ' g (coG X) → Fr g (g + 4) μ μ' → Q () μ') : wp (f_Graph_complement g x μ) Q := by
  have hX8 := hX.1
  unfold f_Graph_complement
  rw [hc.1]
  refine w_bdk (s_reset hg hX8 (fun m0 c1 c2 => ?_))
  refine w_for (fun f a (m : HMem) => wp (f_Graph_complement_L10 f g x (nI a) m) Q) (fun a m => Fr g (g + 4) μ m ∧ CG m g (dG X.1 (fun i => if i < a then X.2.1 i else 1) (fun i j => max i j < a) (coT X) (fun _ _ => 0))) X.1 ?_ ?_ 0 m0 (by omega) (by omega) ⟨c2, c1.congr ⟨rfl, fun _ _ => rfl, fun i j _ _ => (dG_f (by omega)).symm⟩⟩
  · rintro f m ⟨g1, g2⟩
    show wp (f_Graph_complement_L10_b (f_Graph_complement_L10 f) g x (nI X.1) m) Q
    unfold f_Graph_complement_L10_b
    refine w_t (by rw [g2.1]; exact Int32.le_refl _) ?_
    refine w_ret (hQ m (g2.congr ⟨rfl, fun v hv => ?_, fun i j hi hj => ?_⟩) g1)
    · have hv' : v < X.1 := hv
      show (if v < X.1 then _ else _) = _
      rw [if_pos hv']
      rfl
    · have hi' : i < X.1 := hi
      have hj' : j < X.1 := hj
      rw [dG_t (by omega)]
      rfl
  · rintro f a m ha ⟨g1, g2⟩ ih
    show wp (f_Graph_complement_L10_b (f_Graph_complement_L10 f) g x (nI a) m) Q
    unfold f_Graph_complement_L10_b
    have hcm := hc.fr g1 (by omega)
    refine w_f (by rw [g2.1]; exact nI_ge ha (by show X.1 < 2 ^ 31; omega)) ?_
    refine w_chk (by rw [len_1 hx]; exact in_N (by omega) (by omega)) ?_
    refine w_chk (by rw [len_1 hg]; exact in_N (by omega) (by omega)) ?_
    refine w_let ?_
    rw [cl_8 (by omega), hcm.2.1 a ha]
    have a1 := (g2.wt a (X.2.1 a)).congr (dG_w (W' := fun i => if i < a + 1 then X.2.1 i else 1) (fun i _ => ?_))
    · have f1 : Fr g (g + 4) m (h_wi m (g + 1) a (X.2.1 a)) := Fr.wi (by omega) (by omega)
      have g3 : Fr g (g + 4) μ (h_wi m (g + 1) a (X.2.1 a)) := g1.trans f1 (by omega) (by omega) (by omega) (by omega)
      refine w_for (fun f2 b (m : HMem) => wp (f_Graph_complement_L32 (f_Graph_complement_J63 (f_Graph_complement_L10 f)) f2 g x (nI a) (nI b) m) Q) (fun b m => Fr g (g + 4) μ m ∧ CG m g (dG X.1 (fun i => if i < a + 1 then X.2.1 i else 1) (fun i j => max i j < a ∨ (max i j = a ∧ min i j < b)) (coT X) (fun _ _ => 0))) a ?_ ?_ 0 _ (by omega) (by omega) ⟨g3, a1.congr (dG_D (fun i j _ _ => by omega))⟩
      · rintro f2 m ⟨g1, g2⟩
        show wp (f_Graph_complement_L32_b (f_Graph_complement_J63 (f_Graph_complement_L10 f)) (f_Graph_complement_L32 (f_Graph_complement_J63 (f_Graph_complement_L10 f)) f2) g x (nI a) (nI a) m) Q
        unfold f_Graph_complement_L32_b f_Graph_complement_J63
        refine w_t (Int32.le_refl _) ?_
        refine w_let ?_
        rw [nI_1]
        refine ih m ⟨g1, g2.congr (dG_s (u := a) (v := a) ?_ ?_ (fun i j _ _ => by omega))⟩ <;>
        · unfold coT
          rw [if_pos rfl]
      · rintro f2 b m hb ⟨g1, g2⟩ ih'
        show wp (f_Graph_complement_L32_b (f_Graph_complement_J63 (f_Graph_complement_L10 f)) (f_Graph_complement_L32 (f_Graph_complement_J63 (f_Graph_complement_L10 f)) f2) g x (nI a) (nI b) m) Q
        unfold f_Graph_complement_L32_b
        have hcm := hc.fr g1 (by omega)
        refine w_f (nI_ge hb (by omega)) ?_
        refine w_bde (e_between hx hcm hX8 ha (by omega)) ?_
        have t1 : coT X a b = if X.2.2 a b = 0 then 1 else 0 := by
          unfold coT
          rw [if_neg (by omega)]
        have t2 := (coT_c hX (u := b) (v := a) (by omega) ha).trans t1
        have go : ∀ w, coT X a b = w → coT X b a = w → wp (f_Graph_complement_J54 (f_Graph_complement_L32 (f_Graph_complement_J63 (f_Graph_complement_L10 f)) f2) g x (nI a) (nI b) w (nI b) (nI a) g m) Q := by
          intro w w1 w2
          unfold f_Graph_complement_J54
          refine w_bdk (s_join hg g2 hX8 (by show a < X.1; omega) (by show b < X.1; omega) w (fun m1 b1 b2 => ?_))
          refine w_let ?_
          rw [nI_1]
          exact ih' m1 ⟨g1.trans b2 (by omega) (by omega) (by omega) (by omega), b1.congr (dG_j w1 w2 (fun i j _ _ => by omega))⟩
        refine w_if (fun hh => ?_) (fun hh => ?_)
        · rw [if_neg hh] at t1 t2
          exact go 0 t1 t2
        · have hh := Classical.byContradiction hh
          rw [if_pos hh] at t1 t2
          exact go 1 t1 t2
    · show (if i < a + 1 then _ else _) = if i = a then _ else (if i < a then _ else _)
      by_cases e : i = a
      · rw [if_pos e, if_pos (by omega), e]
      · rw [if_neg e]
        by_cases e2 : i < a
        · rw [if_pos e2, if_pos (by omega)]
        · rw [if_neg e2, if_neg (by omega)]
