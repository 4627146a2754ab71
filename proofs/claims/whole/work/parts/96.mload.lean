/-! 96: count, the class: what is loaded, the factor -/
def wK (vl : Bool) (Y : HG) (t : Nat) : Int64 := if vl = true then Int32.toInt64 (Y.2.1 t) else 1
def gK (vl : Bool) (Y : HG) (s t : Nat) : Int64 := if s < Y.1 ∧ t < Y.1 then (if vl = true then Int32.toInt64 (Y.2.2 s t) else if Y.2.2 s t = 0 then 0 else 1) else 0
theorem gK_sym {vl : Bool} {Y : HG} (hY : GV Y) (s t : Nat) : gK vl Y s t = gK vl Y t s := by
  unfold gK
  by_cases h : s < Y.1 ∧ t < Y.1
  · rw [if_pos h, if_pos (show t < Y.1 ∧ s < Y.1 from ⟨h.2, h.1⟩), (hY.2.2 s t h.1 h.2).1]
  · rw [if_neg h, if_neg (fun h2 => h ⟨h2.2, h2.1⟩)]
theorem cmp_z (x : Int64) : lg_cmp x 0 = 0 ↔ x = 0 := by
  unfold lg_cmp
  constructor
  · intro h
    by_cases h1 : x > 0
    · rw [if_pos h1] at h; exact absurd h (by decide)
    · rw [if_neg h1] at h
      by_cases h2 : x = 0
      · exact h2
      · rw [if_neg h2] at h; exact absurd h (by decide)
  · rintro rfl
    decide
def ML (n M : Nat) (w : Nat → Int64) (g : Nat → Nat → Int64) (μ : HMem) : Prop := μ.1 97 0 = nI n ∧ μ.1 97 1 = nI M ∧ (∀ t, t < M → Int32.toInt64 (μ.1 98 t) = w t) ∧ ∀ s t, s < M → t < M → Int32.toInt64 (μ.1 99 (8 * s + t)) = g s t
theorem ML.fr {n M : Nat} {w : Nat → Int64} {g : Nat → Nat → Int64} {μ μ' : HMem} {a b : Nat} (h : ML n M w g μ) (f : Fr a b μ μ') (hd : 100 ≤ a ∨ b ≤ 97) : ML n M w g μ' := by
  unfold ML
  rw [f.i (c := 97) (by omega), f.i (c := 98) (by omega), f.i (c := 99) (by omega)]
  exact h
theorem s_mload {μ : HMem} {gx gy : Nat} {X Y : HG} (hgx : IsG gx) (hgy : IsG gy) (cx : CG μ gx X) (cy : CG μ gy Y) (nX : X.1 ≤ 8) (nY : Y.1 ≤ 8) (vl : Bool) {Q : Unit → HMem → Prop} (hQ : ∀ μ', ML X.1 Y.1 (wK vl Y) (gK vl Y) μ' → (∀ v, v < X.1 → ∀ u, bt (μ'.1 100 v) u = (nr X v u && decide (u ≤ v))) → Fr 97 101 μ μ' → Q () μ') : wp (f_MapSums_load gx gy (bI vl) μ) Q := by
  have gx84 := hgx.2
  have gy84 := hgy.2
  unfold f_MapSums_load
  refine w_let (w_let ?_)
  rw [cx.1, wi_o (d := gy) _ _ (by omega), cy.1]
  have f0 : Fr 97 101 μ (h_wi (h_wi μ 97 0 (nI X.1)) 97 1 (nI Y.1)) := (Fr.wi (a := 97) (b := 101) (by omega) (by omega)).trans (Fr.wi (by omega) (by omega)) (Nat.le_refl 97) (Nat.le_refl 101) (Nat.le_refl 97) (Nat.le_refl 101)
  have a0 : (h_wi (h_wi μ 97 0 (nI X.1)) 97 1 (nI Y.1)).1 97 0 = nI X.1 := by rw [wi_n _ _ (by omega), wi_s]
  have a1 : (h_wi (h_wi μ 97 0 (nI X.1)) 97 1 (nI Y.1)).1 97 1 = nI Y.1 := wi_s _ _ _ _
  generalize h_wi (h_wi μ 97 0 (nI X.1)) 97 1 (nI Y.1) = m0 at f0 a0 a1
  have e0 : ∀ z, z = nI 0 → wp (f_MapSums_load_L19 f_MapSums_load_J112 h_fuel gx gy (bI vl) z m0) Q := ?_
  · exact e0 0 rfl
  rintro z rfl
  refine w_for (fun f s (m : HMem) => wp (f_MapSums_load_L19 f_MapSums_load_J112 f gx gy (bI vl) (nI s) m) Q) (fun s m => Fr 97 101 μ m ∧ m.1 97 0 = nI X.1 ∧ m.1 97 1 = nI Y.1 ∧ (∀ t, t < s → Int32.toInt64 (m.1 98 t) = wK vl Y t) ∧ ∀ s' t, s' < s → t < Y.1 → Int32.toInt64 (m.1 99 (8 * s' + t)) = gK vl Y s' t) Y.1 ?_ ?_ 0 m0 (Nat.zero_le _) (by omega) ⟨f0, a0, a1, fun t h => absurd h (Nat.not_lt_zero _), fun s' t h => absurd h (Nat.not_lt_zero _)⟩
  · intro f m ⟨g1, g2, g3, g4, g5⟩
    show wp (f_MapSums_load_L19_b _ _ _ _ _ _ _) Q
    unfold f_MapSums_load_L19_b f_MapSums_load_J112
    rw [g3]
    refine w_t (nI_le (Nat.le_refl _) (by omega)) ?_
    have hml : ML X.1 Y.1 (wK vl Y) (gK vl Y) m := ⟨g2, g3, g4, g5⟩
    have e1 : ∀ z, z = nI 0 → wp (f_MapSums_load_L115 h_fuel gx z m) Q := ?_
    · exact e1 0 rfl
    rintro z rfl
    refine w_for (fun f v (m : HMem) => wp (f_MapSums_load_L115 f gx (nI v) m) Q) (fun v m => ML X.1 Y.1 (wK vl Y) (gK vl Y) m ∧ (∀ v', v' < v → ∀ u, bt (m.1 100 v') u = (nr X v' u && decide (u ≤ v'))) ∧ Fr 97 101 μ m) X.1 ?_ ?_ 0 m (Nat.zero_le _) (by omega) ⟨hml, fun v' h => absurd h (Nat.not_lt_zero _), g1⟩
    · intro f m ⟨k1, k2, k3⟩
      show wp (f_MapSums_load_L115_b _ _ _ _) Q
      unfold f_MapSums_load_L115_b
      rw [k1.1]
      exact w_t (nI_le (Nat.le_refl _) (by omega)) (w_ret (hQ m k1 k2 k3))
    · intro f v m hv ⟨k1, k2, k3⟩ ih
      show wp (f_MapSums_load_L115_b _ _ _ _) Q
      unfold f_MapSums_load_L115_b
      rw [k1.1]
      refine w_f (nI_ge hv (by omega)) ?_
      refine w_chk (in_8 (by omega) (len_3 hgx)) ?_
      refine w_chk (in_N (by rw [show h_len 100 = 8 from rfl]; omega) (by decide)) ?_
      refine w_let (w_let ?_)
      rw [nI_1, cl_8 (by omega), all_k (v + 1) (by omega)]
      refine ih _ ⟨k1.fr (Fr.wi (a := 100) (b := 101) (by omega) (by omega)) (by omega), fun v' hv' u => ?_, k3.trans (Fr.wi (a := 100) (b := 101) (by omega) (by omega)) (by omega) (by omega) (by omega) (by omega)⟩
      rw [wi_e]
      by_cases e : v' = v
      · rw [if_pos ⟨rfl, e⟩, e, b_and, b_full (by omega), k3.i (c := gx + 3) (by omega), nr_b cx (by omega), show decide (u < v + 1) = decide (u ≤ v) from decide_eq_decide.mpr (by omega)]
      · rw [if_neg (fun h => e h.2)]
        exact k2 v' (by omega) u
  · intro f s m hs ⟨g1, g2, g3, g4, g5⟩ ih
    have cy' : CG m gy Y := cy.fr g1 (by omega)
    show wp (f_MapSums_load_L19_b _ _ _ _ _ _ _) Q
    unfold f_MapSums_load_L19_b
    rw [g3]
    refine w_f (nI_ge hs (by omega)) ?_
    have go : ∀ x, Int32.toInt64 x = wK vl Y s → wp (f_MapSums_load_J49 (f_MapSums_load_L19 f_MapSums_load_J112 f) gx gy (bI vl) (nI s) x (nI s) m) Q := by
      intro x hx
      unfold f_MapSums_load_J49
      refine w_chk (in_N (by rw [show h_len 98 = 8 from rfl]; omega) (by decide)) (w_let ?_)
      rw [cl_8 (by omega)]
      have f1 : Fr 98 99 m (h_wi m 98 s x) := Fr.wi (by omega) (by omega)
      have w1 : ∀ t, t < s + 1 → Int32.toInt64 ((h_wi m 98 s x).1 98 t) = wK vl Y t := fun t ht => by
        rw [wi_e]
        by_cases e : t = s
        · rw [if_pos ⟨rfl, e⟩, e]; exact hx
        · rw [if_neg (fun h => e h.2)]; exact g4 t (by omega)
      generalize h_wi m 98 s x = m1 at f1 w1
      have e1 : ∀ z, z = nI 0 → wp (f_MapSums_load_L53 (f_MapSums_load_J106 (f_MapSums_load_L19 f_MapSums_load_J112 f)) h_fuel gx gy (bI vl) (nI s) z m1) Q := ?_
      · exact e1 0 rfl
      rintro z rfl
      refine w_for (fun f2 t (m : HMem) => wp (f_MapSums_load_L53 (f_MapSums_load_J106 (f_MapSums_load_L19 f_MapSums_load_J112 f)) f2 gx gy (bI vl) (nI s) (nI t) m) Q) (fun t m => Fr 97 101 μ m ∧ m.1 97 0 = nI X.1 ∧ m.1 97 1 = nI Y.1 ∧ (∀ t, t < s + 1 → Int32.toInt64 (m.1 98 t) = wK vl Y t) ∧ (∀ s' t, s' < s → t < Y.1 → Int32.toInt64 (m.1 99 (8 * s' + t)) = gK vl Y s' t) ∧ ∀ t', t' < t → Int32.toInt64 (m.1 99 (8 * s + t')) = gK vl Y s t') Y.1 ?_ ?_ 0 m1 (Nat.zero_le _) (by omega) ⟨g1.trans f1 (by omega) (by omega) (by omega) (by omega), by rw [f1.i (by omega)]; exact g2, by rw [f1.i (by omega)]; exact g3, w1, fun s' t h1 h2 => by rw [f1.i (by omega)]; exact g5 s' t h1 h2, fun t' h => absurd h (Nat.not_lt_zero _)⟩
      · intro f2 m ⟨k1, k2, k3, k4, k5, k6⟩
        show wp (f_MapSums_load_L53_b _ _ _ _ _ _ _ _) Q
        unfold f_MapSums_load_L53_b f_MapSums_load_J106
        rw [k3]
        refine w_t (nI_le (Nat.le_refl _) (by omega)) (w_let ?_)
        rw [nI_1]
        refine ih m ⟨k1, k2, k3, k4, fun s' t h1 h2 => ?_⟩
        rcases Nat.lt_or_ge s' s with h | h
        · exact k5 s' t h h2
        · have : s' = s := by omega
          rw [this]; exact k6 t h2
      · intro f2 t m ht ⟨k1, k2, k3, k4, k5, k6⟩ ih2
        have cy2 : CG m gy Y := cy.fr k1 (by omega)
        show wp (f_MapSums_load_L53_b _ _ _ _ _ _ _ _) Q
        unfold f_MapSums_load_L53_b
        rw [k3]
        refine w_f (nI_ge ht (by omega)) ?_
        rw [e_between hgy cy2 nY hs ht, bd_some]
        have put : ∀ y, Int32.toInt64 y = gK vl Y s t → wp (f_MapSums_load_J99 (f_MapSums_load_L53 (f_MapSums_load_J106 (f_MapSums_load_L19 f_MapSums_load_J112 f)) f2) gx gy (bI vl) (nI s) (nI t) y ((8 * nI s) + nI t) m) Q := by
          intro y hy
          unfold f_MapSums_load_J99
          rw [ix8]
          refine w_chk (in_N (by rw [show h_len 99 = 64 from rfl]; omega) (by decide)) (w_let (w_let ?_))
          rw [nI_1, cl_8 (by omega)]
          refine ih2 _ ⟨k1.trans (Fr.wi (a := 99) (b := 100) (by omega) (by omega)) (by omega) (by omega) (by omega) (by omega), by rw [wi_o _ _ (by omega)]; exact k2, by rw [wi_o _ _ (by omega)]; exact k3, fun t h => by rw [wi_o _ _ (by omega)]; exact k4 t h, fun s' t' h1 h2 => ?_, fun t' h => ?_⟩
          · rw [wi_n _ _ (by omega)]
            exact k5 s' t' h1 h2
          · rw [wi_e]
            by_cases e : t' = t
            · rw [if_pos ⟨rfl, by omega⟩, e]; exact hy
            · rw [if_neg (by omega)]; exact k6 t' (by omega)
        unfold f_MapSums_load_J93
        have eg : gK vl Y s t = (if vl = true then Int32.toInt64 (Y.2.2 s t) else if Y.2.2 s t = 0 then 0 else 1) := if_pos ⟨hs, ht⟩
        refine w_if (fun h3 => ?_) (fun h3 => ?_)
        · rw [bI_n] at h3
          exact put _ (by rw [eg, if_pos h3])
        · have h3 := (bI_0 _).mp (Classical.not_not.mp h3)
          refine w_if (fun h4 => ?_) (fun h4 => ?_)
          · exact put 1 (by rw [eg, h3, if_neg (by decide), if_neg h4]; rfl)
          · have h4 := Classical.not_not.mp h4
            exact put _ (by rw [eg, h3, if_neg (by decide), if_pos h4, h4]; rfl)
    refine w_if (fun h3 => ?_) (fun h3 => ?_)
    · rw [bI_0] at h3
      refine go 1 ?_
      unfold wK
      rw [h3, if_neg (by decide)]
      rfl
    · rw [bI_n] at h3
      refine w_chk (in_8 (by omega) (len_1 hgy)) ?_
      rw [cl_8 (by omega), cy'.2.1 s hs]
      refine go _ ?_
      unfold wK
      rw [if_pos h3]
theorem s_factor {μ : HMem} {n M : Nat} {w : Nat → Int64} {g : Nat → Nat → Int64} (hn : n ≤ 8) (hM : M ≤ 8) (hl : ML n M w g μ) {v t : Nat} (hv : v < n) (ht : t < M) {e : Nat → Bool} (he : ∀ u, u < n → bt (μ.1 100 v) u = e u) {a : Nat → Nat} (ha : ∀ u, u < n → e u = true → ¬ u = v → μ.1 102 u = nI (a u) ∧ a u < M) {Q : Int64 → HMem → Prop} (hQ : Q (w t * pL (fun u => if e u = true then g t (ly a v t u) else 1) n) (h_wi μ 102 v (nI t))) : wp (f_MapSums_factor (nI v) (nI t) μ) Q := by
  unfold f_MapSums_factor
  refine w_chk (in_N (by rw [show h_len 102 = 8 from rfl]; omega) (by decide)) (w_let ?_)
  refine w_chk (in_N (by rw [show h_len 98 = 8 from rfl]; omega) (by decide)) (w_let ?_)
  rw [cl_8 (u := v) (by omega), cl_8 (u := t) (by omega)]
  have hl2 : ML n M w g (h_wi μ 102 v (nI t)) := hl.fr (Fr.wi (a := 102) (b := 103) (by omega) (by omega)) (by omega)
  have he2 : ∀ u, u < n → bt ((h_wi μ 102 v (nI t)).1 100 v) u = e u := fun u hu => by rw [wi_o _ _ (by omega)]; exact he u hu
  have ha2 : ∀ u, u < n → e u = true → (h_wi μ 102 v (nI t)).1 102 u = nI (ly a v t u) ∧ ly a v t u < M := fun u hu h => by
    by_cases e2 : u = v
    · rw [e2, wi_s, ly_eq]; exact ⟨rfl, ht⟩
    · rw [wi_n _ _ (Or.inr e2), ly_ne e2]; exact ha u hu h e2
  generalize h_wi μ 102 v (nI t) = m at hQ hl2 he2 ha2
  rw [hl2.2.2.1 t ht]
  have e0 : ∀ z, z = nI 0 → wp (f_MapSums_factor_L18 f_MapSums_factor_J74 h_fuel (nI v) (nI t) (w t) z m) Q := ?_
  · exact e0 0 rfl
  rintro z rfl
  refine w_for (fun f i (x : Int64) => wp (f_MapSums_factor_L18 f_MapSums_factor_J74 f (nI v) (nI t) x (nI i) m) Q) (fun i x => x = w t * pL (fun u => if e u = true then g t (ly a v t u) else 1) i) n ?_ ?_ 0 _ (Nat.zero_le _) (by omega) (Int64.mul_one _).symm
  · intro f x hx
    show wp (f_MapSums_factor_L18_b _ _ _ _ _ _ _) Q
    unfold f_MapSums_factor_L18_b f_MapSums_factor_J74
    rw [hl2.1]
    refine w_t (nI_le (Nat.le_refl _) (by omega)) (w_ret ?_)
    rw [hx]
    exact hQ
  · intro f i x hi hx ih
    show wp (f_MapSums_factor_L18_b _ _ _ _ _ _ _) Q
    unfold f_MapSums_factor_L18_b f_MapSums_factor_J68 f_MapSums_factor_J74
    rw [hl2.1]
    refine w_f (nI_ge hi (by omega)) (w_if (fun h0 => ?_) (fun h0 => ?_))
    · have h0 := (cmp_z x).mp h0
      have := pL_up' (n := n) (by omega) (hx.symm.trans h0)
      rw [this] at hQ
      rw [h0]
      exact w_ret hQ
    · refine w_chk (in_N (by rw [show h_len 100 = 8 from rfl]; omega) (by decide)) ?_
      rw [cl_8 (u := v) (by omega), e_has _ (by omega), bd_some, he2 i hi]
      have step : pL (fun u => if e u = true then g t (ly a v t u) else 1) (i + 1) = pL (fun u => if e u = true then g t (ly a v t u) else 1) i * (if e i = true then g t (ly a v t i) else 1) := rfl
      refine w_if (fun h3 => ?_) (fun h3 => ?_)
      · rw [bI_0] at h3
        refine w_let ?_
        rw [nI_1]
        refine ih x ?_
        rw [step, h3, if_neg (by decide), Int64.mul_one]
        exact hx
      · rw [bI_n] at h3
        obtain ⟨b1, b2⟩ := ha2 i hi h3
        refine w_chk (in_N (by rw [show h_len 102 = 8 from rfl]; omega) (by decide)) ?_
        rw [cl_8 (u := i) (by omega), b1, ix8]
        refine w_chk (in_N (by rw [show h_len 99 = 64 from rfl]; omega) (by decide)) ?_
        rw [cl_8 (by omega), hl2.2.2.2 t _ ht b2]
        refine w_let (w_let ?_)
        rw [nI_1]
        refine ih _ ?_
        rw [step, h3, if_pos rfl, hx, Int64.mul_assoc]
