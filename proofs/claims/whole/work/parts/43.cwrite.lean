/-! 43: the class's graph: writing -/
/-- the same graph, as far as it goes -/
def GE (G G' : HG) : Prop := G.1 = G'.1 ∧ (∀ v, v < G.1 → G.2.1 v = G'.2.1 v) ∧ (∀ u v, u < G.1 → v < G.1 → G.2.2 u v = G'.2.2 u v)
theorem GE.refl (G : HG) : GE G G := ⟨rfl, fun _ _ => rfl, fun _ _ _ _ => rfl⟩
theorem CG.congr {μ : HMem} {g : Nat} {G G' : HG} (h : CG μ g G) (e : GE G G') : CG μ g G' := by
  obtain ⟨e1, e2, e3⟩ := e
  obtain ⟨h1, h2, h3, h4⟩ := h
  refine ⟨by rw [← e1]; exact h1, fun v hv => ?_, fun u v hu hv => ?_, fun u v hu => ?_⟩
  · rw [← e1] at hv; rw [h2 v hv, e2 v hv]
  · rw [← e1] at hu hv; rw [h3 u v hu hv, e3 u v hu hv]
  · rw [h4 u v hu, ← e1]
    constructor
    · rintro ⟨a, b, c⟩; exact ⟨a, b, by rw [← e3 u v a b]; exact c⟩
    · rintro ⟨a, b, c⟩; exact ⟨a, b, by rw [e3 u v a b]; exact c⟩
theorem RG.congr {f : Nat → Int32} {b : Nat} {G G' : HG} (h : RG f b G) (e : GE G G') : RG f b G' := by
  obtain ⟨e1, e2, e3⟩ := e
  obtain ⟨h1, h2, h3⟩ := h
  refine ⟨by rw [← e1]; exact h1, fun v hv => ?_, fun u v hu hv => ?_⟩
  · rw [← e1] at hv; rw [h2 v hv, e2 v hv]
  · rw [← e1] at hu hv; rw [h3 u v hu hv, e3 u v hu hv]
theorem GV.congr {G G' : HG} (h : GV G) (e : GE G G') : GV G' := by
  obtain ⟨e1, e2, e3⟩ := e
  obtain ⟨h1, h2, h3⟩ := h
  refine ⟨by rw [← e1]; exact h1, fun v hv => ?_, fun u v hu hv => ?_⟩
  · rw [← e1] at hv; rw [← e2 v hv]; exact h2 v hv
  · rw [← e1] at hu hv; rw [← e3 u v hu hv, ← e3 v u hv hu]; exact h3 u v hu hv
def jn (G : HG) (u v : Nat) (w : Int32) : HG := (G.1, G.2.1, fun a b => if (a = u ∧ b = v) ∨ (a = v ∧ b = u) then w else G.2.2 a b)
def sw (G : HG) (v : Nat) (w : Int32) : HG := (G.1, fun a => if a = v then w else G.2.1 a, G.2.2)
theorem CG.wt {μ : HMem} {g : Nat} {G : HG} (h : CG μ g G) (v : Nat) (w : Int32) : CG (h_wi μ (g + 1) v w) g (sw G v w) := by
  obtain ⟨h1, h2, h3, h4⟩ := h
  refine ⟨?_, fun a ha => ?_, fun a b ha hb => ?_, fun a b ha => ?_⟩
  · rw [wi_o _ _ (by omega)]; exact h1
  · rw [wi_e]
    by_cases e : a = v
    · rw [if_pos ⟨rfl, e⟩]; show w = if a = v then w else _; rw [if_pos e]
    · rw [if_neg (fun h => e h.2)]; show _ = if a = v then w else _; rw [if_neg e]; exact h2 a ha
  · rw [wi_o _ _ (by omega)]; exact h3 a b ha hb
  · rw [wi_o _ _ (by omega)]; exact h4 a b ha
theorem RG.wt {f : Nat → Int32} {b : Nat} {G : HG} (h : RG f b G) {v : Nat} (hv : v < G.1) (hn : G.1 ≤ 8) (w : Int32) : RG (upd f (b + 1 + v) w) b (sw G v w) := by
  obtain ⟨h1, h2, h3⟩ := h
  refine ⟨?_, fun a ha => ?_, fun a c ha hc => ?_⟩
  · rw [pk_un (by omega)]; exact h1
  · by_cases e : a = v
    · subst e; rw [pk_us]; show w = if a = a then w else _; rw [if_pos rfl]
    · rw [pk_un (by omega)]; show _ = if a = v then w else _; rw [if_neg e]; exact h2 a ha
  · have : a < G.1 := ha
    have : c < G.1 := hc
    rw [pk_un (by omega)]; exact h3 a c ha hc
theorem GV.wt {G : HG} (h : GV G) (v : Nat) {w : Int32} (h1 : -3 ≤ w) (h2 : w ≤ 3) : GV (sw G v w) := by
  refine ⟨h.1, fun a ha => ?_, h.2.2⟩
  show -3 ≤ (if a = v then w else _) ∧ (if a = v then w else _) ≤ 3
  by_cases e : a = v
  · rw [if_pos e]; exact ⟨h1, h2⟩
  · rw [if_neg e]; exact h.2.1 a ha
theorem GV.jn {G : HG} (h : GV G) (u v : Nat) {w : Int32} (h1 : -2 ≤ w) (h2 : w ≤ 2) : GV (jn G u v w) := by
  refine ⟨h.1, h.2.1, fun a b ha hb => ?_⟩
  show (if (a = u ∧ b = v) ∨ (a = v ∧ b = u) then w else _) = (if (b = u ∧ a = v) ∨ (b = v ∧ a = u) then w else _) ∧ -2 ≤ (if (a = u ∧ b = v) ∨ (a = v ∧ b = u) then w else _) ∧ (if (a = u ∧ b = v) ∨ (a = v ∧ b = u) then w else _) ≤ 2
  by_cases e : (a = u ∧ b = v) ∨ (a = v ∧ b = u)
  · have e' : (b = u ∧ a = v) ∨ (b = v ∧ a = u) := by omega
    rw [if_pos e, if_pos e']
    exact ⟨rfl, h1, h2⟩
  · have e' : ¬ ((b = u ∧ a = v) ∨ (b = v ∧ a = u)) := by omega
    rw [if_neg e, if_neg e']
    exact h.2.2 a b ha hb
/-- two writes of an edge weight -/
theorem RG.jn {f : Nat → Int32} {b : Nat} {G : HG} (h : RG f b G) {u v : Nat} (hu : u < G.1) (hv : v < G.1) (hn : G.1 ≤ 8) (w : Int32) : RG (upd (upd f (b + 9 + 8 * u + v) w) (b + 9 + 8 * v + u) w) b (jn G u v w) := by
  obtain ⟨h1, h2, h3⟩ := h
  refine ⟨?_, fun a ha => ?_, fun a c ha hc => ?_⟩
  · rw [pk_un (by omega), pk_un (by omega)]; exact h1
  · have : a < G.1 := ha
    rw [pk_un (by omega), pk_un (by omega)]; exact h2 a ha
  · have : a < G.1 := ha
    have : c < G.1 := hc
    show _ = if (a = u ∧ c = v) ∨ (a = v ∧ c = u) then w else _
    by_cases e1 : a = v ∧ c = u
    · obtain ⟨rfl, rfl⟩ := e1
      rw [pk_us, if_pos (Or.inr ⟨rfl, rfl⟩)]
    · rw [pk_un (by omega)]
      by_cases e2 : a = u ∧ c = v
      · obtain ⟨rfl, rfl⟩ := e2
        rw [pk_us, if_pos (Or.inl ⟨rfl, rfl⟩)]
      · rw [pk_un (by omega), if_neg (by omega)]
        exact h3 a c ha hc
theorem s_join {μ : HMem} {g : Nat} {G : HG} (hg : IsG g) (h : CG μ g G) (hn : G.1 ≤ 8) {u v : Nat} (hu : u < G.1) (hv : v < G.1) (w : Int32) {Q : Unit → HMem → Prop} (hQ : ∀ μ', CG μ' g (jn G u v w) → Fr g (g + 4) μ μ' → Q () μ') : wp (f_Graph_join g (nI u) (nI v) w μ) Q := by
  obtain ⟨h1, h2, h3, h4⟩ := h
  unfold f_Graph_join f_Graph_join_J83
  rw [ix8, ix8, cl_8 (by omega), cl_8 (by omega), cl_8 (by omega), cl_8 (by omega)]
  refine w_chk (by rw [len_2 hg]; exact in_N (by omega) (by omega)) ?_
  refine w_let ?_
  refine w_chk (by rw [len_2 hg]; exact in_N (by omega) (by omega)) ?_
  refine w_let ?_
  have fin : ∀ (x y : Int32), (∀ i, bt x i = if i = v then !decide (w = 0) else bt (μ.1 (g + 3) u) i) → (∀ i, bt y i = if i = u then !decide (w = 0) else bt (if u = v then x else μ.1 (g + 3) v) i) →
      wp (some ((), h_wi (h_wi (h_wi (h_wi μ (g + 2) (8 * u + v) w) (g + 2) (8 * v + u) w) (g + 3) u x) (g + 3) v y)) Q := by
    intro x y hx hy
    refine w_ret (hQ _ ⟨?_, fun a ha => ?_, fun a b ha hb => ?_, fun a b ha => ?_⟩ ?_)
    · rw [wi_o _ _ (by omega), wi_o _ _ (by omega), wi_o _ _ (by omega), wi_o _ _ (by omega)]; exact h1
    · rw [wi_o _ _ (by omega), wi_o _ _ (by omega), wi_o _ _ (by omega), wi_o _ _ (by omega)]; exact h2 a ha
    · have : a < G.1 := ha
      have : b < G.1 := hb
      rw [wi_o _ _ (by omega), wi_o _ _ (by omega), wi_e, wi_e]
      show _ = if (a = u ∧ b = v) ∨ (a = v ∧ b = u) then w else _
      by_cases e1 : a = v ∧ b = u
      · rw [if_pos (by omega), if_pos (Or.inr e1)]
      · rw [if_neg (by omega)]
        by_cases e2 : a = u ∧ b = v
        · rw [if_pos (by omega), if_pos (Or.inl e2)]
        · rw [if_neg (by omega), if_neg (by omega)]; exact h3 a b ha hb
    · show _ ↔ a < G.1 ∧ b < G.1 ∧ ¬ (if (a = u ∧ b = v) ∨ (a = v ∧ b = u) then w else _) = 0
      rw [wi_e, wi_e]
      by_cases ev : a = v
      · rw [if_pos ⟨rfl, ev⟩, hy b]
        by_cases eb : b = u
        · rw [if_pos eb, if_pos (Or.inr ⟨ev, eb⟩)]
          exact ⟨fun h => ⟨by omega, by omega, by simpa using h⟩, fun h => by simpa using h.2.2⟩
        · rw [if_neg eb]
          by_cases euv : u = v
          · rw [if_pos euv, hx b, if_neg (by omega), if_neg (by omega), show u = a by omega]
            exact h4 a b ha
          · rw [if_neg euv, if_neg (by omega), ← ev]
            exact h4 a b ha
      · rw [if_neg (by omega)]
        by_cases eu : a = u
        · rw [if_pos ⟨rfl, eu⟩, hx b]
          by_cases eb : b = v
          · rw [if_pos eb, if_pos (Or.inl ⟨eu, eb⟩)]
            exact ⟨fun h => ⟨by omega, by omega, by simpa using h⟩, fun h => by simpa using h.2.2⟩
          · rw [if_neg eb, if_neg (by omega), ← eu]
            exact h4 a b ha
        · rw [if_neg (by omega), if_neg (by omega), wi_o _ _ (by omega), wi_o _ _ (by omega)]
          exact h4 a b ha
    · exact (((Fr.wi (by omega) (by omega)).trans (Fr.wi (by omega) (by omega)) (Nat.le_refl g) (Nat.le_refl (g + 4)) (Nat.le_refl g) (Nat.le_refl (g + 4))).trans (Fr.wi (by omega) (by omega)) (Nat.le_refl g) (Nat.le_refl (g + 4)) (Nat.le_refl g) (Nat.le_refl (g + 4))).trans (Fr.wi (by omega) (by omega)) (Nat.le_refl g) (Nat.le_refl (g + 4)) (Nat.le_refl g) (Nat.le_refl (g + 4))
  have rd : ∀ i, (h_wi (h_wi μ (g + 2) (8 * u + v) w) (g + 2) (8 * v + u) w).1 (g + 3) i = μ.1 (g + 3) i := by
    intro i
    rw [wi_o _ _ (by omega), wi_o _ _ (by omega)]
  refine w_if (fun hw => ?_) (fun hw => ?_)
  · refine w_chk (by rw [len_3 hg]; exact in_N (by omega) (by omega)) ?_
    refine w_chk (by rw [len_3 hg]; exact in_N (by omega) (by omega)) ?_
    refine w_let ?_
    refine w_chk (by rw [len_3 hg]; exact in_N (by omega) (by omega)) ?_
    refine w_chk (by rw [len_3 hg]; exact in_N (by omega) (by omega)) ?_
    refine w_let ?_
    rw [rd u, wi_e _ (g + 3) u (g + 3) v, rd v]
    refine fin _ _ (fun i => ?_) (fun i => ?_)
    · rw [b_or, b_one (by omega)]
      by_cases e : i = v
      · rw [if_pos e]; simp [e, hw]
      · rw [if_neg e]; simp [e]
    · rw [b_or, b_one (by omega)]
      by_cases e : i = u
      · rw [if_pos e]; simp [e, hw]
      · rw [if_neg e]
        by_cases euv : u = v
        · rw [if_pos ⟨rfl, euv.symm⟩, if_pos euv]; simp [e]
        · rw [if_neg (by omega), if_neg euv]; simp [e]
  · have hw0 : w = 0 := Classical.byContradiction hw
    refine w_chk (by rw [len_3 hg]; exact in_N (by omega) (by omega)) ?_
    refine w_chk (by rw [len_3 hg]; exact in_N (by omega) (by omega)) ?_
    refine w_let ?_
    refine w_chk (by rw [len_3 hg]; exact in_N (by omega) (by omega)) ?_
    refine w_chk (by rw [len_3 hg]; exact in_N (by omega) (by omega)) ?_
    refine w_let ?_
    rw [rd u, wi_e _ (g + 3) u (g + 3) v, rd v]
    refine fin _ _ (fun i => ?_) (fun i => ?_)
    · rw [b_not, b_one (by omega)]
      by_cases e : i = v
      · rw [if_pos e]; simp [e, hw0]
      · rw [if_neg e]; simp [e]
    · rw [b_not, b_one (by omega)]
      by_cases e : i = u
      · rw [if_pos e]; simp [e, hw0]
      · rw [if_neg e]
        by_cases euv : u = v
        · rw [if_pos ⟨rfl, euv.symm⟩, if_pos euv]; simp [e]
        · rw [if_neg (by omega), if_neg euv]; simp [e]
theorem s_fill1 {μ : HMem} {a : Nat} (ha : h_len a ≤ 1000) (x : Int32) {Q : Unit → HMem → Prop} (hQ : ∀ μ', (∀ i, i < h_len a → μ'.1 a i = x) → Fr a (a + 1) μ μ' → Q () μ') : wp (f_Arrays_fill1 a x μ) Q := by
  unfold f_Arrays_fill1
  refine w_let ?_
  refine w_for (fun f i (m : HMem) => wp (f_Arrays_fill1_L5 f a x (nI i) (nI (h_len a)) m) Q) (fun i m => (∀ j, j < i → m.1 a j = x) ∧ Fr a (a + 1) μ m) (h_len a) ?_ ?_ 0 μ (by omega) (by omega) ?_
  · rintro f m ⟨h1, h2⟩
    show wp (f_Arrays_fill1_L5_b (f_Arrays_fill1_L5 f) a x (nI (h_len a)) (nI (h_len a)) m) Q
    unfold f_Arrays_fill1_L5_b
    refine w_t (Int32.le_refl _) ?_
    exact w_ret (hQ m h1 h2)
  · rintro f i m hi ⟨h1, h2⟩ ih
    show wp (f_Arrays_fill1_L5_b (f_Arrays_fill1_L5 f) a x (nI i) (nI (h_len a)) m) Q
    unfold f_Arrays_fill1_L5_b
    refine w_f (nI_ge hi (by omega)) ?_
    refine w_chk (in_N hi (by omega)) ?_
    refine w_let ?_
    refine w_let ?_
    rw [nI_1, cl_8 (by omega)]
    refine ih _ ⟨fun j hj => ?_, h2.trans (Fr.wi (by omega) (by omega)) (Nat.le_refl _) (Nat.le_refl _) (Nat.le_refl a) (Nat.le_refl (a + 1))⟩
    rw [wi_e]
    by_cases e : j = i
    · rw [if_pos ⟨rfl, e⟩]
    · rw [if_neg (by omega)]; exact h1 j (by omega)
  · exact ⟨fun j hj => absurd hj (Nat.not_lt_zero _), Fr.refl _ _ _⟩
theorem s_reset {μ : HMem} {g : Nat} (hg : IsG g) {n : Nat} (hn : n ≤ 8) {Q : Unit → HMem → Prop} (hQ : ∀ μ', CG μ' g (n, fun _ => 1, fun _ _ => 0) → Fr g (g + 4) μ μ' → Q () μ') : wp (f_Graph_reset g (nI n) μ) Q := by
  unfold f_Graph_reset
  refine w_let ?_
  refine w_bdk (s_fill1 (by rw [len_1 hg]; omega) _ (fun μ1 a1 b1 => ?_))
  refine w_bdk (s_fill1 (by rw [len_2 hg]; omega) _ (fun μ2 a2 b2 => ?_))
  refine w_bdk (s_fill1 (by rw [len_3 hg]; omega) _ (fun μ3 a3 b3 => ?_))
  rw [len_1 hg] at a1
  rw [len_2 hg] at a2
  rw [len_3 hg] at a3
  refine w_ret (hQ _ ⟨?_, fun v hv => ?_, fun u v hu hv => ?_, fun u v hu => ?_⟩ ?_)
  · rw [b3.i (by omega), b2.i (by omega), b1.i (by omega), wi_s]
  · have : v < n := hv
    rw [b3.i (by omega), b2.i (by omega), a1 v (by omega)]
  · have : u < n := hu
    have : v < n := hv
    rw [b3.i (by omega), a2 _ (by omega)]
  · rw [a3 u hu, b_0]
    simp
  · exact (((Fr.wi (by omega) (by omega)).trans b1 (Nat.le_refl g) (Nat.le_refl (g + 4)) (by omega) (by omega)).trans b2 (Nat.le_refl g) (Nat.le_refl (g + 4)) (by omega) (by omega)).trans b3 (Nat.le_refl g) (Nat.le_refl (g + 4)) (by omega) (by omega)
theorem s_copyFrom {μ : HMem} {g a : Nat} {G : HG} (hg : IsG g) (ha : IsG a) (hne : g ≠ a) (h : CG μ a G) (hn : G.1 ≤ 8) {Q : Unit → HMem → Prop} (hQ : ∀ μ', CG μ' g G → Fr g (g + 4) μ μ' → Q () μ') : wp (f_Graph_copyFrom g a μ) Q := by
  obtain ⟨h1, h2, h3, h4⟩ := h
  have hd : g + 4 ≤ a ∨ a + 4 ≤ g := by unfold IsG at hg ha; omega
  have c8 : (8 : Int32).toNatClampNeg = 8 := by decide
  have c64 : (64 : Int32).toNatClampNeg = 64 := by decide
  have c0 : (0 : Int32).toNatClampNeg = 0 := by decide
  unfold f_Graph_copyFrom
  refine w_let ?_
  refine w_chk2 (by rw [len_1 hg, len_1 ha]; decide) ?_
  refine w_let ?_
  refine w_chk2 (by rw [len_2 hg, len_2 ha]; decide) ?_
  refine w_let ?_
  refine w_chk2 (by rw [len_3 hg, len_3 ha]; decide) ?_
  refine w_let ?_
  rw [c8, c64, c0]
  refine w_ret (hQ _ ⟨?_, fun v hv => ?_, fun u v hu hv => ?_, fun u v hu => ?_⟩ ?_)
  · simp [h_cpi, h_wi, upd, h1]
  · have e1 : ¬ g + 1 = g + 3 := by omega
    have e2 : ¬ g + 1 = g + 2 := by omega
    have e3 : ¬ a + 1 = g := by omega
    simp only [h_cpi, e1, e2, if_false, if_true]
    rw [pk_cpy_in (by omega) (by omega), wi_o _ _ e3, show 0 + (v - 0) = v by omega]
    exact h2 v hv
  · have e1 : ¬ g + 2 = g + 3 := by omega
    have e2 : ¬ a + 2 = g + 1 := by omega
    have e3 : ¬ a + 2 = g := by omega
    simp only [h_cpi, e1, e2, if_false, if_true]
    rw [pk_cpy_in (by omega) (by omega), wi_o _ _ e3, show 0 + (8 * u + v - 0) = 8 * u + v by omega]
    exact h3 u v hu hv
  · have e1 : ¬ a + 3 = g + 2 := by omega
    have e2 : ¬ a + 3 = g + 1 := by omega
    have e3 : ¬ a + 3 = g := by omega
    simp only [h_cpi, e1, e2, if_false, if_true]
    rw [pk_cpy_in (by omega) (by omega), wi_o _ _ e3, show 0 + (u - 0) = u by omega]
    exact h4 u v hu
  · intro c hc
    have e1 : ¬ c = g + 3 := by omega
    have e2 : ¬ c = g + 2 := by omega
    have e3 : ¬ c = g + 1 := by omega
    have e4 : ¬ c = g := by omega
    simp [h_cpi, e1, e2, e3, h_wi, e4]
