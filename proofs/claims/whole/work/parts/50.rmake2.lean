/-! 50: the reference: induced graphs, complements, what is kept -/
theorem e_bit (x : Int32) {v : Nat} (hv : v < 32) : (h_ishr x (nI v)) &&& 1 = bI (bt x v) := by
  cases hb : bt x v with
  | false => exact (b_ask x hv).mpr hb
  | true => exact (b_ask1 x hv).mpr hb
theorem bI_nI (b : Bool) : bI b = nI (if b then 1 else 0) := by cases b <;> rfl
theorem bI_e1 (b : Bool) : (¬ bI b = 1) ↔ b = false := by cases b <;> decide
theorem bI_ne1 (b : Bool) : (¬ ¬ bI b = 1) ↔ b = true := by cases b <;> decide
theorem s_induces {μ : HMem} {k : Nat} {X : HG} (hk : k < 5) (hX : GV X) (hc : RG (μ.1 126) (73 * k) X) (set : Int32) {Q : Unit → HMem → Prop} (hQ : ∀ μ', RG (μ'.1 126) 292 (inG X (bt set)) → Fw 292 438 μ μ' → Q () μ') : wp (f_Model_induces (nI k) 4 set μ) Q := by
  have hX8 := hX.1
  unfold f_Model_induces
  refine w_bdk (s_copies (k' := 5) (by omega) (by omega) (by omega) (fun m0 a1 a2 => ?_))
  have c5 : ∀ m, Fw 292 365 m0 m → RG (m.1 126) 365 X := by
    intro m hm
    have h5 : RG (m0.1 126) 365 X := hc.shift hX8 (fun j hj => a1 j hj)
    exact h5.fw hX8 hm (by omega)
  refine w_for (fun f i (x : Nat) => wp (f_Model_induces_L12 f_Model_induces_J39 f 4 set (nI x) (nI i) m0) Q) (fun i x => x = cn (bt set) i) X.1 ?_ ?_ 0 0 (by omega) (by omega) rfl
  · rintro f x rfl
    show wp (f_Model_induces_L12_b f_Model_induces_J39 (f_Model_induces_L12 f_Model_induces_J39 f) 4 set (nI (cn (bt set) X.1)) (nI X.1) m0) Q
    unfold f_Model_induces_L12_b f_Model_induces_J39
    refine w_bde (e_msize (k := 5) (by omega) (c5 m0 (Fw.refl _ _ _))) ?_
    refine w_t (Int32.le_refl _) ?_
    have hle := cn_le (bt set) X.1
    refine w_bdk (s_begins (k := 4) (by omega) (by omega) (fun m1 b1 b2 => ?_))
    refine w_for (fun f u (y : Nat × HMem) => wp (f_Model_induces_L52 f 4 set (nI y.1) (nI u) y.2) Q) (fun u y => y.1 = cn (bt set) u ∧ Fw 292 365 m0 y.2 ∧ RG (y.2.1 126) 292 (dG (cn (bt set) X.1) (fun i => if i < y.1 then X.2.1 (sel (bt set) X.1 i) else 1) (fun i j => max i j < y.1) (fun i j => X.2.2 (sel (bt set) X.1 i) (sel (bt set) X.1 j)) (fun _ _ => 0))) X.1 ?_ ?_ 0 (0, m1) (by omega) (by omega) ⟨rfl, b2, b1.congr ⟨rfl, fun _ _ => rfl, fun i j _ _ => (dG_f (by show ¬ max i j < 0; omega)).symm⟩⟩
    · rintro f ⟨_, m⟩ ⟨rfl, g1, g2⟩
      show wp (f_Model_induces_L52_b (f_Model_induces_L52 f) 4 set (nI _) (nI X.1) m) Q
      unfold f_Model_induces_L52_b
      refine w_bde (e_msize (k := 5) (by omega) (c5 m g1)) ?_
      refine w_t (Int32.le_refl _) ?_
      refine w_ret (hQ m (g2.congr ⟨rfl, fun v hv => ?_, fun i j hi hj => ?_⟩) (a2.trans g1 (by omega) (by omega) (by omega) (by omega)))
      · have hv' : v < cn (bt set) X.1 := hv
        show (if v < cn (bt set) X.1 then _ else _) = _
        rw [if_pos hv']
        rfl
      · have hi' : i < cn (bt set) X.1 := hi
        have hj' : j < cn (bt set) X.1 := hj
        rw [dG_t (by show max i j < cn (bt set) X.1; omega)]
        rfl
    · rintro f u ⟨_, m⟩ hu ⟨rfl, g1, g2⟩ ih
      show wp (f_Model_induces_L52_b (f_Model_induces_L52 f) 4 set (nI (cn (bt set) u)) (nI u) m) Q
      unfold f_Model_induces_L52_b
      refine w_bde (e_msize (k := 5) (by omega) (c5 m g1)) ?_
      refine w_f (nI_ge hu (by omega)) ?_
      rw [e_bit set (by omega)]
      refine w_if (fun hb => ?_) (fun hb => ?_)
      · rw [bI_e1] at hb
        unfold f_Model_induces_J146
        refine w_let ?_
        rw [nI_1]
        refine ih (cn (bt set) u, m) ⟨?_, g1, g2⟩
        show cn (bt set) u = cn (bt set) (u + 1)
        rw [cn_s, hb]
        simp
      · rw [bI_ne1] at hb
        have l1 : cn (bt set) u < cn (bt set) X.1 := cn_st hb hu
        refine w_bde (e_mweight (k := 5) (by omega) hX8 (c5 m g1) hu) ?_
        rw [show ((73 : Int32) * 4) + 1 + nI (cn (bt set) u) = nI (293 + cn (bt set) u) from m73w 4 _]
        refine w_chk (in_N (by rw [show h_len 126 = 438 from rfl]; omega) (by decide)) ?_
        refine w_let ?_
        rw [cl_8 (by omega)]
        have d1 : RG ((h_wi m 126 (293 + cn (bt set) u) (X.2.1 u)).1 126) 292 (dG (cn (bt set) X.1) (fun i => if i < cn (bt set) u + 1 then X.2.1 (sel (bt set) X.1 i) else 1) (fun i j => max i j < cn (bt set) u) (fun i j => X.2.2 (sel (bt set) X.1 i) (sel (bt set) X.1 j)) (fun _ _ => 0)) := by
          rw [wi_126]
          refine (g2.wt (v := cn (bt set) u) l1 (by show cn (bt set) X.1 ≤ 8; omega) (X.2.1 u)).congr (dG_w (fun v _ => ?_))
          show (if v < cn (bt set) u + 1 then _ else _) = if v = cn (bt set) u then _ else (if v < cn (bt set) u then _ else _)
          by_cases e : v = cn (bt set) u
          · rw [if_pos e, if_pos (by omega), e, sel_rk hu hb]
          · rw [if_neg e]
            by_cases e2 : v < cn (bt set) u
            · rw [if_pos e2, if_pos (by omega)]
            · rw [if_neg e2, if_neg (by omega)]
        have g3 : Fw 292 365 m0 (h_wi m 126 (293 + cn (bt set) u) (X.2.1 u)) := g1.trans (Fw.wi (by omega) (by omega)) (Nat.le_refl _) (Nat.le_refl _) (Nat.le_refl 292) (Nat.le_refl 365)
        refine w_for (fun f2 v (y : Nat × HMem) => wp (f_Model_induces_L99 (f_Model_induces_J143 (f_Model_induces_L52 f)) f2 4 set (nI (cn (bt set) u)) (nI u) (nI y.1) (nI v) y.2) Q) (fun v y => y.1 = cn (bt set) v ∧ Fw 292 365 m0 y.2 ∧ RG (y.2.1 126) 292 (dG (cn (bt set) X.1) (fun i => if i < cn (bt set) u + 1 then X.2.1 (sel (bt set) X.1 i) else 1) (fun i j => max i j < cn (bt set) u ∨ (max i j = cn (bt set) u ∧ min i j < y.1)) (fun i j => X.2.2 (sel (bt set) X.1 i) (sel (bt set) X.1 j)) (fun _ _ => 0))) (u + 1) ?_ ?_ 0 (0, _) (by omega) (by omega) ⟨rfl, g3, d1.congr (dG_D (fun i j _ _ => by omega))⟩
        · rintro f2 ⟨_, m⟩ ⟨rfl, g1, g2⟩
          show wp (f_Model_induces_L99_b (f_Model_induces_J143 (f_Model_induces_L52 f)) (f_Model_induces_L99 (f_Model_induces_J143 (f_Model_induces_L52 f)) f2) 4 set (nI (cn (bt set) u)) (nI u) (nI _) (nI (u + 1)) m) Q
          unfold f_Model_induces_L99_b f_Model_induces_J143 f_Model_induces_J146
          refine w_t (nI_lt (by omega) (by omega)) ?_
          refine w_let ?_
          refine w_let ?_
          rw [nI_1, nI_1]
          have e1 : cn (bt set) (u + 1) = cn (bt set) u + 1 := by rw [cn_s, hb]; rfl
          refine ih (cn (bt set) u + 1, m) ⟨e1.symm, g1, g2.congr (dG_D (fun i j _ _ => ?_))⟩
          show max i j < cn (bt set) u + 1 ↔ (max i j < cn (bt set) u ∨ (max i j = cn (bt set) u ∧ min i j < cn (bt set) (u + 1)))
          rw [e1]
          omega
        · rintro f2 v ⟨_, m⟩ hv ⟨rfl, g1, g2⟩ ih'
          show wp (f_Model_induces_L99_b (f_Model_induces_J143 (f_Model_induces_L52 f)) (f_Model_induces_L99 (f_Model_induces_J143 (f_Model_induces_L52 f)) f2) 4 set (nI (cn (bt set) u)) (nI u) (nI (cn (bt set) v)) (nI v) m) Q
          unfold f_Model_induces_L99_b f_Model_induces_J137
          refine w_f (nI_nlt (by omega) (by omega)) ?_
          rw [e_bit set (by omega)]
          refine w_if (fun hb2 => ?_) (fun hb2 => ?_)
          · rw [bI_e1] at hb2
            refine w_let ?_
            rw [nI_1]
            refine ih' (cn (bt set) v, m) ⟨?_, g1, g2⟩
            show cn (bt set) v = cn (bt set) (v + 1)
            rw [cn_s, hb2]
            simp
          · rw [bI_ne1] at hb2
            have l2 : cn (bt set) v < cn (bt set) X.1 := cn_st hb2 (by omega)
            have l3 : cn (bt set) v ≤ cn (bt set) u := cn_mn _ (by omega)
            refine w_bde (e_mbetween (k := 5) (by omega) hX8 (c5 m g1) hu (by omega)) ?_
            refine w_bdk (s_puts (k := 4) (by omega) (by show cn (bt set) X.1 ≤ 8; omega) g2 l1 l2 _ (fun m1 h1 h2 => ?_))
            refine w_let ?_
            refine w_let ?_
            rw [nI_1, nI_1]
            have e1 : cn (bt set) (v + 1) = cn (bt set) v + 1 := by rw [cn_s, hb2]; rfl
            refine ih' (cn (bt set) v + 1, m1) ⟨e1.symm, g1.trans h2 (by omega) (by omega) (by omega) (by omega), h1.congr (dG_j ?_ ?_ (fun i j _ _ => ?_))⟩
            · show X.2.2 (sel (bt set) X.1 (cn (bt set) u)) (sel (bt set) X.1 (cn (bt set) v)) = _
              rw [sel_rk hu hb, sel_rk (by omega) hb2]
            · show X.2.2 (sel (bt set) X.1 (cn (bt set) v)) (sel (bt set) X.1 (cn (bt set) u)) = _
              rw [sel_rk hu hb, sel_rk (by omega) hb2]
              exact (hX.2.2 v u (by omega) hu).1
            · show (max i j < cn (bt set) u ∨ (max i j = cn (bt set) u ∧ min i j < cn (bt set) v + 1)) ↔ (max i j < cn (bt set) u ∨ (max i j = cn (bt set) u ∧ min i j < cn (bt set) v)) ∨ _
              omega
  · rintro f i x hi rfl ih
    show wp (f_Model_induces_L12_b f_Model_induces_J39 (f_Model_induces_L12 f_Model_induces_J39 f) 4 set (nI (cn (bt set) i)) (nI i) m0) Q
    unfold f_Model_induces_L12_b
    refine w_bde (e_msize (k := 5) (by omega) (c5 m0 (Fw.refl _ _ _))) ?_
    refine w_f (nI_ge hi (by omega)) ?_
    refine w_let ?_
    refine w_let ?_
    rw [nI_1, e_bit set (by omega), bI_nI, nI_add]
    exact ih _ rfl
theorem s_complements {μ : HMem} {x : Nat} {X : HG} (hx : x < 4) (hX : GV X) (hc : RG (μ.1 126) (73 * x) X) {Q : Unit → HMem → Prop} (hQ : ∀ μ', RG (μ'.1 126) 292 (coG X) → Fw 292 365 μ μ' → Q () μ') : wp (f_Model_complements (nI x) μ) Q := by
  have hX8 := hX.1
  unfold f_Model_complements
  refine w_bdk (s_copies (k' := 4) (by omega) (by omega) (by omega) (fun m0 a1 a2 => ?_))
  have b1 : RG (m0.1 126) 292 X := hc.shift hX8 (fun j hj => a1 j hj)
  refine w_for (fun f i (m : HMem) => wp (f_Model_complements_L8 f (nI x) (nI i) m) Q) (fun i m => Fw 292 365 μ m ∧ RG (m.1 126) 292 (dG X.1 X.2.1 (fun a b => min a b < i) (coT X) X.2.2)) X.1 ?_ ?_ 0 m0 (by omega) (by omega) ⟨a2, b1.congr (dG_0 (fun a b _ _ => by omega))⟩
  · rintro f m ⟨g1, g2⟩
    show wp (f_Model_complements_L8_b (f_Model_complements_L8 f) (nI x) (nI X.1) m) Q
    unfold f_Model_complements_L8_b
    have hcm := hc.fw hX8 g1 (by omega)
    refine w_bde (e_msize (by omega) hcm) ?_
    refine w_t (Int32.le_refl _) ?_
    exact w_ret (hQ m (g2.congr (dG_1 (fun a b ha hb => by omega))) g1)
  · rintro f i m hi ⟨g1, g2⟩ ih
    show wp (f_Model_complements_L8_b (f_Model_complements_L8 f) (nI x) (nI i) m) Q
    unfold f_Model_complements_L8_b
    have hcm := hc.fw hX8 g1 (by omega)
    refine w_bde (e_msize (by omega) hcm) ?_
    refine w_f (nI_ge hi (by omega)) ?_
    refine w_for (fun f2 j (m : HMem) => wp (f_Model_complements_L19 (f_Model_complements_J61 (f_Model_complements_L8 f)) f2 (nI x) (nI i) (nI j) m) Q) (fun j m => i ≤ j ∧ Fw 292 365 μ m ∧ RG (m.1 126) 292 (dG X.1 X.2.1 (fun a b => min a b < i ∨ (min a b = i ∧ max a b < j)) (coT X) X.2.2)) X.1 ?_ ?_ i m (by omega) (by omega) ⟨Nat.le_refl _, g1, g2.congr (dG_D (fun a b _ _ => by omega))⟩
    · rintro f2 m ⟨_, g1, g2⟩
      show wp (f_Model_complements_L19_b (f_Model_complements_J61 (f_Model_complements_L8 f)) (f_Model_complements_L19 (f_Model_complements_J61 (f_Model_complements_L8 f)) f2) (nI x) (nI i) (nI X.1) m) Q
      unfold f_Model_complements_L19_b f_Model_complements_J61
      have hcm := hc.fw hX8 g1 (by omega)
      refine w_bde (e_msize (by omega) hcm) ?_
      refine w_t (Int32.le_refl _) ?_
      refine w_let ?_
      rw [nI_1]
      exact ih m ⟨g1, g2.congr (dG_D (fun a b _ _ => by omega))⟩
    · rintro f2 j m hj ⟨hij, g1, g2⟩ ih'
      show wp (f_Model_complements_L19_b (f_Model_complements_J61 (f_Model_complements_L8 f)) (f_Model_complements_L19 (f_Model_complements_J61 (f_Model_complements_L8 f)) f2) (nI x) (nI i) (nI j) m) Q
      unfold f_Model_complements_L19_b f_Model_complements_J51
      have hcm := hc.fw hX8 g1 (by omega)
      refine w_bde (e_msize (by omega) hcm) ?_
      refine w_f (nI_ge hj (by omega)) ?_
      have go : ∀ w, coT X i j = w → wp (f_Model_complements_J52 (f_Model_complements_L19 (f_Model_complements_J61 (f_Model_complements_L8 f)) f2) (nI x) (nI i) (nI j) w (nI j) (nI i) 4 m) Q := by
        intro w hw
        unfold f_Model_complements_J52
        refine w_bdk (s_puts (k := 4) (by omega) (by exact hX8) g2 hi hj w (fun m1 b1 b2 => ?_))
        refine w_let ?_
        rw [nI_1]
        exact ih' m1 ⟨by omega, g1.trans b2 (by omega) (by omega) (by omega) (by omega), b1.congr (dG_j hw ((coT_c hX hj hi).trans hw) (fun a b _ _ => by omega))⟩
      refine w_if (fun e => ?_) (fun e => ?_)
      · have e := (eqI (by omega) (by omega)).mp e
        refine go 0 ?_
        unfold coT
        rw [if_pos e]
      · have e : ¬ i = j := fun h => e (by rw [h])
        refine w_bde (e_isNear (by omega) hX8 hcm hi hj) ?_
        refine w_if (fun hb => ?_) (fun hb => ?_)
        · rw [bI_n] at hb
          refine go 0 ?_
          unfold coT
          have : ¬ X.2.2 i j = 0 := by simpa using hb
          rw [if_neg e, if_neg this]
        · have hb := Classical.byContradiction hb
          rw [bI_0] at hb
          refine go 1 ?_
          unfold coT
          have : X.2.2 i j = 0 := by simpa using hb
          rw [if_neg e, if_pos this]
theorem RS.fw {σ : HS} {μ μ' : HMem} {lo hi : Nat} (ok : OKs σ) (hr : RS σ μ) (hf : Fw lo hi μ μ') (h : 292 ≤ lo) : RS σ μ' := by
  refine ⟨fun i hi => (hr.1 i hi).fw (ok.1 i hi).1 hf (by omega), ?_, ?_⟩
  · have h2 := hr.2.1
    unfold RH at h2 ⊢
    rw [hf.1.i (c := 125) (by omega), hf.1.i (c := 127) (by omega)]
    exact h2
  · have h2 := hr.2.2
    unfold RT at h2 ⊢
    rw [hf.1.i (c := 125) (by omega), hf.1.i (c := 128) (by omega)]
    exact h2
theorem s_keeps {σ : HS} {μ : HMem} (ok : OKs σ) (hr : RS σ μ) {g : Nat} (hg : g < 4) {G : HG} (hG : RG (μ.1 126) 292 G) (hn : G.1 ≤ 8) {Q : Unit → HMem → Prop} (hQ : ∀ μ', RS (setG (push σ) g G) μ' → Fr 125 128 μ μ' → μ'.1 125 5 = 0 → Q () μ') : wp (f_Model_keeps (nI g) μ) Q := by
  unfold f_Model_keeps
  refine w_bdk (s_msave ok hr (fun m0 a1 a2 a3 a4 => ?_))
  refine w_bdk (s_copies (k := 4) (by omega) (by omega) (by omega) (fun m1 b1 b2 => ?_))
  refine w_ret (hQ m1 ⟨fun i hi => ?_, ?_, ?_⟩ (a2.trans b2.1 (by omega) (by omega) (by omega) (by omega)) (by rw [b2.1.i (by omega)]; exact a4))
  · show RG _ _ (if i = g then G else (push σ).1 i)
    by_cases e : i = g
    · rw [if_pos e, e]
      refine hG.shift hn (fun j hj => ?_)
      rw [b1 j hj, a3]
    · rw [if_neg e]
      exact (a1.1 i hi).fw (ok.1 i hi).1 b2 (by omega)
  · have h2 := a1.2.1
    show RH (push σ).2.1 m1
    unfold RH at h2 ⊢
    rw [b2.1.i (c := 125) (by omega), b2.1.i (c := 127) (by omega)]
    exact h2
  · have h2 := a1.2.2
    show RT (push σ).2.2 m1
    unfold RT at h2 ⊢
    rw [b2.1.i (c := 125) (by omega), b2.1.i (c := 128) (by omega)]
    exact h2
