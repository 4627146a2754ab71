/-! 95: the sum of the reference -/
noncomputable def cB (κ : Nat) (X Y : HG) (a : Nat → Nat) : Bool := if κ = 0 ∨ κ = 1 then true else if κ = 2 ∨ κ = 3 then decide (ic a X.1 = X.1) else if κ = 4 ∨ κ = 5 then decide (ic a X.1 = Y.1) else eB X a X.1
theorem s_isCounted {μ : HMem} {kx ky : Nat} {X Y : HG} (hkx : kx < 6) (hky : ky < 6) (hX : X.1 ≤ 8) (hY : Y.1 ≤ 8) (h1 : RG (μ.1 126) (73 * kx) X) (h2 : RG (μ.1 126) (73 * ky) Y) {a : Nat → Nat} (hi : ∀ p, p < X.1 → μ.1 133 p = nI (a p) ∧ a p < 8) {κ : Nat} (hκ : κ ≤ 6) {Q : Int32 → HMem → Prop} (hQ : ∀ μ', Fr 137 138 μ μ' → Q (bI (cB κ X Y a)) μ') : wp (f_Model_isCounted (nI kx) (nI ky) (nI κ) μ) Q := by
  have hno : Q (bI (cB κ X Y a)) μ := hQ μ (Fr.refl _ _ _)
  have h8 : ∀ r, (∀ t, bt r t = imB a X.1 t) → f_Model_bits r μ = some (nI (ic a X.1), μ) := fun r hr => by
    rw [e_bits (fun t ht => ?_), show cn (bt r) 8 = ic a X.1 from cn_ext (fun t _ => hr t)]
    rw [hr t]
    refine decide_eq_false (fun ⟨p, hp, e⟩ => ?_)
    have := (hi p hp).2
    omega
  have hic : ic a X.1 ≤ 8 := cn_le _ _
  have inj : κ = 2 ∨ κ = 3 → wp (h_bd (f_Model_images (nI kx) μ) (fun r44 μ_44 => h_bd (f_Model_bits r44 μ_44) (fun r47 μ_47 => h_bd (f_Model_size (nI kx) μ_47) (fun r52 μ_52 => if ¬ r47 = r52 then f_Model_isCounted_J63 0 μ_52 else f_Model_isCounted_J63 1 μ_52)))) Q := by
    intro hk
    have e : cB κ X Y a = decide (ic a X.1 = X.1) := by
      unfold cB
      rw [if_neg (by omega), if_pos hk]
    rw [e] at hno
    refine w_bdk (s_images hkx hX h1 hi (fun r hr => ?_))
    refine w_bde (h8 r hr) (w_bde (e_msize hkx h1) ?_)
    unfold f_Model_isCounted_J63
    by_cases hh : ic a X.1 = X.1
    · rw [decide_eq_true hh] at hno
      exact w_f (fun h => h (by rw [hh])) (w_t (by decide) (w_ret hno))
    · rw [decide_eq_false hh] at hno
      exact w_t (fun h => hh ((nI_eq (by omega) (by omega)).mp h)) (w_t (by decide) (w_ret hno))
  have onto : κ = 4 ∨ κ = 5 → wp (h_bd (f_Model_images (nI kx) μ) (fun r44 μ_44 => h_bd (f_Model_bits r44 μ_44) (fun r47 μ_47 => h_bd (f_Model_size (nI ky) μ_47) (fun r52 μ_52 => if ¬ r47 = r52 then f_Model_isCounted_J85 0 μ_52 else f_Model_isCounted_J85 1 μ_52)))) Q := by
    intro hk
    have e : cB κ X Y a = decide (ic a X.1 = Y.1) := by
      unfold cB
      rw [if_neg (by omega), if_neg (by omega), if_pos hk]
    rw [e] at hno
    refine w_bdk (s_images hkx hX h1 hi (fun r hr => ?_))
    refine w_bde (h8 r hr) (w_bde (e_msize hky h2) ?_)
    unfold f_Model_isCounted_J85
    by_cases hh : ic a X.1 = Y.1
    · rw [decide_eq_true hh] at hno
      exact w_f (fun h => h (by rw [hh])) (w_t (by decide) (w_ret hno))
    · rw [decide_eq_false hh] at hno
      exact w_t (fun h => hh ((nI_eq (by omega) (by omega)).mp h)) (w_t (by decide) (w_ret hno))
  have tru : κ = 0 ∨ κ = 1 → wp (if (1 : Int32) &&& 1 = 1 then some ((1 : Int32), μ) else none) Q := by
    intro hk
    have e : cB κ X Y a = true := by
      unfold cB
      rw [if_pos hk]
    rw [e] at hno
    exact w_t (by decide) (w_ret hno)
  unfold f_Model_isCounted
  have hc : κ = 0 ∨ κ = 1 ∨ κ = 2 ∨ κ = 3 ∨ κ = 4 ∨ κ = 5 ∨ κ = 6 := by omega
  rcases hc with rfl | rfl | rfl | rfl | rfl | rfl | rfl
  · exact w_f (by decide) (w_t (by decide) (tru (by omega)))
  · exact w_f (by decide) (w_f (by decide) (w_t (by decide) (tru (by omega))))
  · exact w_f (by decide) (w_f (by decide) (w_f (by decide) (w_t (by decide) (inj (by omega)))))
  · exact w_f (by decide) (w_f (by decide) (w_f (by decide) (w_f (by decide) (w_t (by decide) (inj (by omega))))))
  · exact w_f (by decide) (w_f (by decide) (w_f (by decide) (w_f (by decide) (w_f (by decide) (w_t (by decide) (onto (by omega)))))))
  · exact w_f (by decide) (w_f (by decide) (w_f (by decide) (w_f (by decide) (w_f (by decide) (w_f (by decide) (w_t (by decide) (onto (by omega))))))))
  · refine w_t (by decide) (w_bdk (s_keepsEdges hkx hX h1 hi (fun μ' f => ?_)))
    rw [e_J]
    have e : cB 6 X Y a = eB X a X.1 := by
      unfold cB
      rw [if_neg (by omega), if_neg (by omega), if_neg (by omega)]
    have := hQ μ' f
    rw [e] at this
    exact w_ret this
def vlB (κ : Nat) : Bool := decide (κ = 1 ∨ κ = 3 ∨ κ = 5)
noncomputable def cW (κ : Nat) (X Y : HG) (a : Nat → Nat) : Int64 := if cB κ X Y a = true then (if vlB κ = true then vaL X.1 (nr X) (wV Y) (gV Y) a else 1) else 0
theorem imB_cg {a b : Nat → Nat} {n : Nat} (h : ∀ j, j < n → a j = b j) : imB a n = imB b n := funext (fun t => bqi (by
  rw [imB_t, imB_t]
  exact ⟨fun ⟨p, hp, e⟩ => ⟨p, hp, by rw [← h p hp]; exact e⟩, fun ⟨p, hp, e⟩ => ⟨p, hp, by rw [h p hp]; exact e⟩⟩))
theorem tk_cg {X : HG} {a b : Nat → Nat} {u v p : Nat} (h : ∀ j, (j ≤ u ∨ j < v) → a j = b j) (ht : tk X a u v p) : tk X b u v p := by
  rcases ht with ⟨u', v', h1, h2, h3, h4⟩ | ⟨v', h1, h2, h3⟩
  · exact Or.inl ⟨u', v', h1, h2, h3, by rw [← h u' (by omega), ← h v' (by omega)]; exact h4⟩
  · exact Or.inr ⟨v', h1, h2, by rw [← h u (by omega), ← h v' (by omega)]; exact h3⟩
theorem eV_cg {X : HG} {a b : Nat → Nat} {u v : Nat} (hv : v < u) (h : ∀ j, j ≤ u → a j = b j) (he : eV X a u v) : eV X b u v := fun h1 h2 => by
  refine he h1 ?_
  rw [h u (Nat.le_refl _), h v (by omega)]
  exact tk_cg (fun j hj => (h j (by omega)).symm) h2
theorem eK_cg {X : HG} {a b : Nat → Nat} {n : Nat} (h : ∀ j, j < n → a j = b j) (he : eK X a n) : eK X b n := fun u hu v hv => eV_cg hv (fun j hj => h j (by omega)) (he u hu v hv)
theorem vaL_cg {n : Nat} {nb : Nat → Nat → Bool} {w w' : Nat → Int64} {g g' : Nat → Nat → Int64} {a b : Nat → Nat} (h : ∀ j, j < n → a j = b j) (hw : ∀ j, j < n → w (b j) = w' (b j)) (hg : ∀ i j, i < n → j < n → g (b i) (b j) = g' (b i) (b j)) : vaL n nb w g a = vaL n nb w' g' b := by
  unfold vaL fac
  refine pL_ext (fun v hv => ?_)
  rw [h v hv, hw v hv]
  congr 1
  refine pL_ext (fun u hu => ?_)
  rw [h u hu, hg v u hv hu]
theorem cB_cg {κ : Nat} {X Y : HG} {a b : Nat → Nat} (h : ∀ j, j < X.1 → a j = b j) : cB κ X Y a = cB κ X Y b := by
  unfold cB ic
  rw [imB_cg h]
  have : eB X a X.1 = eB X b X.1 := bqi (by
    rw [eB_t, eB_t]
    exact ⟨eK_cg h, eK_cg (fun j hj => (h j hj).symm)⟩)
  rw [this]
theorem cW_loc (κ : Nat) (X Y : HG) : LocV X.1 (cW κ X Y) := fun a b h => by
  unfold cW
  rw [cB_cg h, vaL_cg h (fun _ _ => rfl) (fun _ _ _ _ => rfl)]
abbrev QS : Type := Int64 × Bool × (Nat → Nat) × HMem
theorem s_countOf {μ : HMem} {kx ky : Nat} {X Y : HG} (hkx : kx < 6) (hky : ky < 6) (hX : X.1 ≤ 8) (hY : Y.1 ≤ 8) (h1 : RG (μ.1 126) (73 * kx) X) (h2 : RG (μ.1 126) (73 * ky) Y) {κ : Nat} (hκ : κ ≤ 6) {Q : Int64 → HMem → Prop} (hQ : ∀ μ', Fr 133 138 μ μ' → Q (gL (fC X Y) Y.1 (cW κ X Y) X.1 (fun _ => 0) 0) μ') : wp (f_Model_countOf (nI kx) (nI ky) (nI κ) μ) Q := by
  have hW := cW_loc κ X Y
  have main : wp (f_Model_countOf_J20 (nI kx) (nI ky) (nI κ) (bI (vlB κ)) μ) Q := by
    unfold f_Model_countOf_J20
    refine w_chk (in_N (u := 0) (by decide) (by decide)) (w_let ?_)
    rw [show (0 : Int32).toNatClampNeg = 0 by decide]
    have f0 : Fr 133 134 μ (h_wi μ 133 0 (-1)) := Fr.wi (by omega) (by omega)
    have i0 : (h_wi μ 133 0 (-1)).1 133 0 = nI 0 - 1 := by rw [wi_s]; decide
    generalize h_wi μ 133 0 (-1) = m0 at f0 i0
    have loop : ∀ s : QS, Fr 133 138 μ s.2.2.2 → (s.2.1 = true → (∀ p, p < X.1 → s.2.2.2.1 133 p = nI (s.2.2.1 p) ∧ s.2.2.1 p < Y.1 ∧ fC X Y s.2.2.1 p = true) ∧ s.1 + rmL (fC X Y) Y.1 (cW κ X Y) X.1 (X.1 + 1) s.2.2.1 0 = gL (fC X Y) Y.1 (cW κ X Y) X.1 (fun _ => 0) 0 ∧ dsF 0 X.1 (X.1 + 1) s.2.2.1 0 < 999999999999) → (s.2.1 = false → s.1 = gL (fC X Y) Y.1 (cW κ X Y) X.1 (fun _ => 0) 0) → wp (f_Model_countOf_L41 h_fuel (nI kx) (nI ky) (nI κ) (bI (vlB κ)) s.1 (bI s.2.1) s.2.2.2) Q := by
      intro s0 a1 a2 a3
      refine w_loopF (fun f (s : QS) => wp (f_Model_countOf_L41 f (nI kx) (nI ky) (nI κ) (bI (vlB κ)) s.1 (bI s.2.1) s.2.2.2) Q) (fun s => Fr 133 138 μ s.2.2.2 ∧ (s.2.1 = true → (∀ p, p < X.1 → s.2.2.2.1 133 p = nI (s.2.2.1 p) ∧ s.2.2.1 p < Y.1 ∧ fC X Y s.2.2.1 p = true) ∧ s.1 + rmL (fC X Y) Y.1 (cW κ X Y) X.1 (X.1 + 1) s.2.2.1 0 = gL (fC X Y) Y.1 (cW κ X Y) X.1 (fun _ => 0) 0 ∧ dsF 0 X.1 (X.1 + 1) s.2.2.1 0 < 999999999999) ∧ (s.2.1 = false → s.1 = gL (fC X Y) Y.1 (cW κ X Y) X.1 (fun _ => 0) 0)) (fun s => if s.2.1 = true then dsF 0 X.1 (X.1 + 1) s.2.2.1 0 + 1 else 0) ?_ s0 ⟨a1, a2, a3⟩ ?_
      · rintro f ⟨x, b, a, m⟩ ⟨g1, g2, g3⟩ ih
        replace g1 : Fr 133 138 μ m := g1
        show wp (f_Model_countOf_L41_b (f_Model_countOf_L41 f) (nI kx) (nI ky) (nI κ) (bI (vlB κ)) x (bI b) m) Q
        unfold f_Model_countOf_L41_b
        cases b with
        | false =>
          refine w_t rfl (w_ret ?_)
          have e : x = _ := g3 rfl
          rw [e]
          exact hQ m g1
        | true =>
          obtain ⟨c1, c2, c3⟩ := g2 rfl
          replace c1 : ∀ p, p < X.1 → m.1 133 p = nI (a p) ∧ a p < Y.1 ∧ fC X Y a p = true := c1
          replace c2 : x + rmL (fC X Y) Y.1 (cW κ X Y) X.1 (X.1 + 1) a 0 = _ := c2
          replace c3 : dsF 0 X.1 (X.1 + 1) a 0 < 999999999999 := c3
          have hrg : ∀ {m' : HMem}, Fr 133 138 μ m' → RG (m'.1 126) (73 * kx) X ∧ RG (m'.1 126) (73 * ky) Y := fun hf => ⟨by rw [hf.i (by omega)]; exact h1, by rw [hf.i (by omega)]; exact h2⟩
          have leaf := rmL_leaf (C := fC X Y) (M := Y.1) (W := cW κ X Y) (n := X.1) (a := a) (t := 0)
          rw [leaf] at c2
          -- behind this map
          have go : ∀ (y : Int64) (m' : HMem), y = x + cW κ X Y a → Fr 137 138 m m' → wp (f_Model_countOf_J76 (f_Model_countOf_L41 f) (nI kx) (nI ky) (nI κ) (bI (vlB κ)) y m') Q := by
            rintro y m' rfl fm
            have g1' : Fr 133 138 μ m' := g1.trans fm (by omega) (by omega) (by omega) (by omega)
            unfold f_Model_countOf_J76 f_Model_countOf_J104 f_Model_countOf_J105
            refine w_bde (e_msize hkx (hrg g1').1) ?_
            by_cases hn : X.1 = 0
            · refine w_t (by rw [hn]; decide) ?_
              refine ih (x + cW κ X Y a, false, a, m') ⟨g1', fun h => (by cases h), fun _ => ?_⟩ ?_
              · show x + cW κ X Y a = _
                rw [← c2, Int64.add_comm (rmL _ _ _ _ _ _ _), hn]
                show _ = x + (_ + 0)
                rw [Int64.add_zero]
              · show 0 < dsF 0 X.1 (X.1 + 1) a 0 + 1
                omega
            · obtain ⟨k, hk⟩ : ∃ k, X.1 = k + 1 := ⟨X.1 - 1, by omega⟩
              refine w_f (nI_ge (a := 0) (b := X.1) (by omega) (by omega)) ?_
              refine w_bde (e_msize hkx (hrg g1').1) ?_
              rw [show nI X.1 - 1 = nI (X.1 - 1) by rw [hk, nI_pred]; rfl]
              have dl := ds_leaf (n := X.1) (a := a) (t := 0)
              obtain ⟨q1, q2, q3⟩ := c1 (X.1 - 1) (by omega)
              refine w_bdk (s_finds (a := a) (t := a (X.1 - 1) + 1) (D0 := dsF 0 X.1 X.1 a (a (X.1 - 1) + 1)) hkx hky hX hY (hrg g1').1 (hrg g1').2 hW (by omega) (fun p hp => ?_) (by omega) (fun _ => ?_) ?_ (by omega) (fun μ' f' e => ?_) (fun b μ' f' cb e hd => ?_))
              · obtain ⟨r1, r2⟩ := c1 p (by omega)
                exact ⟨by rw [fm.i (by omega)]; exact r1, r2⟩
              · rw [nI_pred, fm.i (by omega)]
                exact q1
              · rw [show X.1 - 1 + 1 = X.1 by omega, if_neg (by omega)]
                omega
              · rw [show X.1 - 1 + 1 = X.1 by omega] at e
                rw [e, Int64.zero_add] at c2
                refine w_t rfl ?_
                refine ih (x + cW κ X Y a, false, a, μ') ⟨g1'.trans f' (by omega) (by omega) (by omega) (by omega), fun h => (by cases h), fun _ => c2⟩ ?_
                show 0 < dsF 0 X.1 (X.1 + 1) a 0 + 1
                omega
              · rw [show X.1 - 1 + 1 = X.1 by omega] at e
                refine w_f (by decide) ?_
                refine ih (x + cW κ X Y a, true, b, μ') ⟨g1'.trans f' (by omega) (by omega) (by omega) (by omega), fun _ => ⟨cb, ?_, ?_⟩, fun h => (by cases h)⟩ ?_
                · show x + cW κ X Y a + rmL (fC X Y) Y.1 (cW κ X Y) X.1 (X.1 + 1) b 0 = _
                  rw [← e, ← c2, Int64.add_assoc, Int64.add_comm (cW κ X Y a)]
                · show dsF 0 X.1 (X.1 + 1) b 0 < 999999999999
                  omega
                · show dsF 0 X.1 (X.1 + 1) b 0 + 1 < dsF 0 X.1 (X.1 + 1) a 0 + 1
                  omega
          refine w_f (by decide) ?_
          refine w_bdk (s_isCounted hkx hky hX hY (hrg g1).1 (hrg g1).2 (a := a) (fun p hp => ⟨(c1 p hp).1, by have := (c1 p hp).2.1; omega⟩) hκ (fun m' fm => ?_))
          have g1' : Fr 133 138 μ m' := g1.trans fm (by omega) (by omega) (by omega) (by omega)
          have go' := fun y hy => go y m' hy fm
          unfold cW at go'
          cases hb : cB κ X Y a with
          | false =>
            rw [hb] at go'
            exact w_t rfl (go' x (by rw [if_neg (by decide), Int64.add_zero]))
          | true =>
            rw [hb] at go'
            refine w_f (by decide) ?_
            unfold f_Model_countOf_J73
            cases hv : vlB κ with
            | false =>
              rw [hv] at go'
              refine w_t rfl (w_let ?_)
              exact go' (x + 1) (by rw [if_pos rfl, if_neg (by decide)])
            | true =>
              rw [hv] at go'
              refine w_f (by decide) ?_
              refine w_bdk (s_valueOf hkx hky hX hY (hrg g1').1 (hrg g1').2 (a := a) (fun p hp => ⟨by rw [fm.i (by omega)]; exact (c1 p hp).1, (c1 p hp).2.1⟩) ?_)
              refine w_let ?_
              exact go' _ (by rw [if_pos rfl, if_pos rfl])
      · show (if s0.2.1 = true then dsF 0 X.1 (X.1 + 1) s0.2.2.1 0 + 1 else 0) < 1000000000000
        by_cases hb : s0.2.1 = true
        · rw [if_pos hb]
          have := (a2 hb).2.2
          omega
        · rw [if_neg hb]; omega
    have hd1 : dsF 0 X.1 (0 + 1) (fun _ => 0) 0 ≤ 900000000 := by
      show 0 + (if 0 < X.1 then (9 - 0) * 10 ^ (8 - 0) else 0) ≤ 900000000
      by_cases h : 0 < X.1
      · rw [if_pos h]; decide
      · rw [if_neg h]; decide
    have hd2 : (if 0 = X.1 then 1 else 0) ≤ 1 := by
      by_cases h : 0 = X.1
      · rw [if_pos h]; decide
      · rw [if_neg h]; decide
    have e0 : ∀ z, z = nI 0 → wp (h_bd (f_Model_finds (nI kx) (nI ky) z m0) (fun r36 μ_36 => f_Model_countOf_L41 h_fuel (nI kx) (nI ky) (nI κ) (bI (vlB κ)) 0 r36 μ_36)) Q := ?_
    · exact e0 0 rfl
    rintro z rfl
    refine w_bdk (s_finds (a := fun _ => 0) (t := 0) (D0 := 900000001) hkx hky hX hY (by rw [f0.i (by omega)]; exact h1) (by rw [f0.i (by omega)]; exact h2) hW (Nat.zero_le _) (fun p hp => absurd hp (Nat.not_lt_zero _)) (Nat.zero_le _) (fun _ => i0) (by omega) (by omega) (fun μ' f' e => ?_) (fun b μ' f' cb e hd => ?_))
    · rw [rmL_0] at e
      exact loop (0, false, fun _ => 0, μ') (f0.trans f' (by omega) (by omega) (by omega) (by omega)) (fun h => (by cases h)) (fun _ => e.symm)
    · rw [rmL_0] at e
      exact loop (0, true, b, μ') (f0.trans f' (by omega) (by omega) (by omega) (by omega)) (fun _ => ⟨cb, by rw [e]; exact Int64.zero_add _, by show dsF 0 X.1 (X.1 + 1) b 0 < 999999999999; omega⟩) (fun h => (by cases h))
  unfold f_Model_countOf f_Model_countOf_J15
  have hc : κ = 0 ∨ κ = 1 ∨ κ = 2 ∨ κ = 3 ∨ κ = 4 ∨ κ = 5 ∨ κ = 6 := by omega
  rcases hc with rfl | rfl | rfl | rfl | rfl | rfl | rfl
  · exact w_f (by decide) (w_f (by decide) (w_t (by decide) main))
  · exact w_t (by decide) main
  · exact w_f (by decide) (w_f (by decide) (w_t (by decide) main))
  · exact w_f (by decide) (w_t (by decide) main)
  · exact w_f (by decide) (w_f (by decide) (w_t (by decide) main))
  · exact w_f (by decide) (w_f (by decide) (w_f (by decide) main))
  · exact w_f (by decide) (w_f (by decide) (w_t (by decide) main))
