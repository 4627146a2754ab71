/-! 77: colorings (the class) -/
/-- a vertex may join a class -/
noncomputable def cP (X : HG) (a : Nat → Nat) (v c : Nat) : Bool := @decide (∀ j, j < v → a j = c → X.2.2 v j = 0) (Classical.propDecidable _)
theorem cP_t {X : HG} {a : Nat → Nat} {v c : Nat} : cP X a v c = true ↔ ∀ j, j < v → a j = c → X.2.2 v j = 0 := ⟨fun h => @of_decide_eq_true _ (Classical.propDecidable _) h, fun h => @decide_eq_true _ (Classical.propDecidable _) h⟩
noncomputable def cr (X : HG) (q : Nat) : Nat → (Nat → Nat) → Nat → Nat → Nat
  | 0, _, _, _ => 1
  | r + 1, a, v, u => sm (fun c => if cP X a v c = true then cr X q r (ly a v c) (v + 1) u else 0) u + (if u < q then (q - u) * cr X q r (ly a v u) (v + 1) (u + 1) else 0)
theorem s_colorRest {g : Nat} {X : HG} (hg : IsG g) (hX : GV X) {q : Nat} (hq : q ≤ 20) : ∀ (rd v u : Nat) (a : Nat → Nat) (μ : HMem), 9 ≤ rd + v → v ≤ X.1 → u ≤ v → CG μ g X → (∀ c, c < u → ∀ j, bt (μ.1 121 c) j = (decide (j < v) && decide (a j = c))) → (∀ j, j < v → a j < u) → ∀ Q : Int64 → HMem → Prop, (∀ μ', Fr 121 122 μ μ' → (∀ c, c < u → μ'.1 121 c = μ.1 121 c) → Q (lN (cr X q (X.1 - v) a v u)) μ') → wp (f_Bench_colorRest rd g 121 (nI v) (nI u) (nI q) μ) Q
  | 0, v, u, a, μ, hr, hv, hu, hc, hb, ha, Q, hQ => by
    have := hX.1
    omega
  | rd + 1, v, u, a, μ, hr, hv, hu, hc, hb, ha, Q, hQ => by
    have nX := hX.1
    have l1 := hg.2
    show wp (f_Bench_colorRest_0 (f_Bench_colorRest rd) g 121 (nI v) (nI u) (nI q) μ) Q
    unfold f_Bench_colorRest_0
    rw [hc.1]
    rcases Nat.lt_or_ge v X.1 with h0 | h0
    · refine w_t (nI_lt h0 (by omega)) ?_
      have er : X.1 - v = (X.1 - (v + 1)) + 1 := by omega
      have h121 : h_len 121 = 8 := rfl
      have el : ∀ c, v < 8 → bt (h_ishl 1 (nI v)) c = decide (c = v) := fun c h => b_one (by omega) c
      refine w_for (fun f c (y : Nat × HMem) => wp (f_Bench_colorRest_L16 (f_Bench_colorRest rd) (f_Bench_colorRest_J80 (f_Bench_colorRest rd)) f g 121 (nI v) (nI u) (nI q) (lN y.1) (nI c) y.2) Q) (fun c y => Fr 121 122 μ y.2 ∧ (∀ c', c' < u → y.2.1 121 c' = μ.1 121 c') ∧ y.1 = sm (fun c => if cP X a v c = true then cr X q (X.1 - (v + 1)) (ly a v c) (v + 1) u else 0) c) u ?_ ?_ 0 (0, μ) (by omega) (by omega) ⟨Fr.refl _ _ _, fun _ _ => rfl, rfl⟩
      · rintro f ⟨tot, m⟩ ⟨k1, k2, k3⟩
        show wp (f_Bench_colorRest_L16_b (f_Bench_colorRest rd) (f_Bench_colorRest_J80 (f_Bench_colorRest rd)) (f_Bench_colorRest_L16 (f_Bench_colorRest rd) (f_Bench_colorRest_J80 (f_Bench_colorRest rd)) f) g 121 (nI v) (nI u) (nI q) (lN tot) (nI u) m) Q
        unfold f_Bench_colorRest_L16_b f_Bench_colorRest_J80 f_Bench_colorRest_J122
        replace k1 : Fr 121 122 μ m := k1
        replace k2 : ∀ c', c' < u → m.1 121 c' = μ.1 121 c' := k2
        replace k3 : tot = sm (fun c => if cP X a v c = true then cr X q (X.1 - (v + 1)) (ly a v c) (v + 1) u else 0) u := k3
        refine w_t (nI_le (Nat.le_refl _) (by omega)) ?_
        rw [er] at hQ
        refine w_if (fun h1 => ?_) (fun h1 => ?_)
        · have h1 := (nI_leI (by omega) (by omega)).mp h1
          have e : cr X q (X.1 - (v + 1) + 1) a v u = tot := by
            show sm (fun c => if cP X a v c = true then cr X q (X.1 - (v + 1)) (ly a v c) (v + 1) u else 0) u + (if u < q then (q - u) * cr X q (X.1 - (v + 1)) (ly a v u) (v + 1) (u + 1) else 0) = tot
            rw [if_neg (by omega), k3, Nat.add_zero]
          have := hQ m k1 k2
          rw [e] at this
          exact w_ret this
        · have h1 : u < q := Nat.lt_of_not_le (fun h => h1 (nI_le h (by omega)))
          rw [h121]
          refine w_f (nI_ge (by omega) (by omega)) ?_
          refine w_chk (in_8 (by omega) rfl) ?_
          refine w_let ?_
          rw [cl_8 (by omega), nI_1, nI_1]
          have fw : Fr 121 122 μ (h_wi m 121 u (h_ishl 1 (nI v))) := k1.trans (Fr.wi (a := 121) (b := 122) (by omega) (by omega)) (by omega) (by omega) (by omega) (by omega)
          refine w_bdk (s_colorRest hg hX hq rd (v + 1) (u + 1) (ly a v u) (h_wi m 121 u (h_ishl 1 (nI v))) (by omega) (by omega) (by omega) (hc.fr fw (by omega)) (fun c hcu j => ?_) (fun j hj => ?_) _ (fun m2 f2 k4 => ?_))
          · rw [wi_e]
            by_cases e : c = u
            · rw [if_pos ⟨rfl, e⟩, el j (by omega), e]
              by_cases e2 : j = v
              · rw [e2, ly_eq]
                simp
              · rw [decide_eq_false e2]
                by_cases e3 : j < v + 1
                · have := ha j (by omega)
                  rw [ly_lt (by omega), decide_eq_false (show ¬ a j = u by omega), Bool.and_false]
                · rw [decide_eq_false e3, Bool.false_and]
            · rw [if_neg (by omega), k2 c (by omega), hb c (by omega) j]
              by_cases e2 : j = v
              · rw [e2, ly_eq, decide_eq_false (Nat.lt_irrefl v), Bool.false_and, decide_eq_false (show ¬ u = c by omega), Bool.and_false]
              · have e3 : ly a v u j = a j := if_neg e2
                rw [e3]
                have : decide (j < v) = decide (j < v + 1) := decide_eq_decide.mpr (by omega)
                rw [this]
          · by_cases e : j = v
            · rw [e, ly_eq]; omega
            · rw [ly_lt (by omega)]
              have := ha j (by omega)
              omega
          · refine w_let ?_
            rw [pk_sub (by omega), nI_l (by omega), lN_mul, lN_add]
            have e : tot + (q - u) * cr X q (X.1 - (v + 1)) (ly a v u) (v + 1) (u + 1) = cr X q (X.1 - (v + 1) + 1) a v u := by
              show _ = sm (fun c => if cP X a v c = true then cr X q (X.1 - (v + 1)) (ly a v c) (v + 1) u else 0) u + (if u < q then (q - u) * cr X q (X.1 - (v + 1)) (ly a v u) (v + 1) (u + 1) else 0)
              rw [if_pos h1, k3]
            rw [e]
            refine w_ret (hQ m2 (fw.trans f2 (by omega) (by omega) (by omega) (by omega)) (fun c hcu => ?_))
            rw [k4 c (by omega), wi_n _ _ (Or.inr (by omega))]
            exact k2 c hcu
      · rintro f c ⟨tot, m⟩ hcu ⟨k1, k2, k3⟩ ih
        show wp (f_Bench_colorRest_L16_b (f_Bench_colorRest rd) (f_Bench_colorRest_J80 (f_Bench_colorRest rd)) (f_Bench_colorRest_L16 (f_Bench_colorRest rd) (f_Bench_colorRest_J80 (f_Bench_colorRest rd)) f) g 121 (nI v) (nI u) (nI q) (lN tot) (nI c) m) Q
        unfold f_Bench_colorRest_L16_b f_Bench_colorRest_J74
        replace k1 : Fr 121 122 μ m := k1
        replace k2 : ∀ c', c' < u → m.1 121 c' = μ.1 121 c' := k2
        replace k3 : tot = sm (fun c => if cP X a v c = true then cr X q (X.1 - (v + 1)) (ly a v c) (v + 1) u else 0) c := k3
        have cm := hc.fr k1 (by omega)
        refine w_f (nI_ge hcu (by omega)) ?_
        refine w_chk (in_8 (by omega) rfl) ?_
        refine w_chk (by rw [len_3 hg]; exact in_N (by omega) (by omega)) ?_
        rw [cl_8 (u := c) (by omega), cl_8 (u := v) (by omega), k2 c hcu]
        have hbit : ∀ j, bt (μ.1 121 c &&& m.1 (g + 3) v) j = (decide (j < v) && decide (a j = c) && nr X v j) := fun j => by
          rw [b_and, hb c hcu j, nr_b cm (by omega) j]
        refine w_if (fun h1 => ?_) (fun h1 => ?_)
        · refine w_let ?_
          rw [nI_1]
          refine ih (tot, m) ⟨k1, k2, ?_⟩
          show tot = sm (fun c => if cP X a v c = true then cr X q (X.1 - (v + 1)) (ly a v c) (v + 1) u else 0) c + (if cP X a v c = true then cr X q (X.1 - (v + 1)) (ly a v c) (v + 1) u else 0)
          rw [if_neg (fun h => h1 (b_eq0.mpr (fun j _ => ?_))), Nat.add_zero]
          · exact k3
          · rw [hbit j]
            by_cases e1 : j < v
            · by_cases e2 : a j = c
              · have := cP_t.mp h j e1 e2
                have e3 : nr X v j = false := by
                  unfold nr
                  rw [this]
                  simp
                rw [e3, Bool.and_false]
              · rw [decide_eq_false e2, Bool.and_false, Bool.false_and]
            · rw [decide_eq_false e1, Bool.false_and, Bool.false_and]
        · have h1 := Classical.not_not.mp h1
          have hP : cP X a v c = true := cP_t.mpr (fun j hj hac => by
            have := b_eq0.mp h1 j (by omega)
            rw [hbit j, decide_eq_true hj, decide_eq_true hac] at this
            refine Classical.byContradiction (fun hE => ?_)
            rw [nr_t.mpr ⟨h0, by omega, hE⟩] at this
            cases this)
          have bv : bt (μ.1 121 c) v = false := by rw [hb c hcu v, decide_eq_false (Nat.lt_irrefl v), Bool.false_and]
          refine w_chk (in_8 (by omega) rfl) ?_
          refine w_chk (in_8 (by omega) rfl) ?_
          refine w_let ?_
          rw [nI_1]
          have fw : Fr 121 122 μ (h_wi m 121 c (μ.1 121 c ||| h_ishl 1 (nI v))) := k1.trans (Fr.wi (a := 121) (b := 122) (by omega) (by omega)) (by omega) (by omega) (by omega) (by omega)
          refine w_bdk (s_colorRest hg hX hq rd (v + 1) u (ly a v c) (h_wi m 121 c (μ.1 121 c ||| h_ishl 1 (nI v))) (by omega) (by omega) (by omega) (hc.fr fw (by omega)) (fun c' hc' j => ?_) (fun j hj => ?_) _ (fun m2 f2 k4 => ?_))
          · rw [wi_e]
            by_cases e : c' = c
            · rw [if_pos ⟨rfl, e⟩, b_or, hb c hcu j, el j (by omega), e]
              by_cases e2 : j = v
              · rw [e2, ly_eq]
                simp
              · have e3 : ly a v c j = a j := if_neg e2
                have : decide (j < v) = decide (j < v + 1) := decide_eq_decide.mpr (by omega)
                rw [e3, decide_eq_false e2, Bool.or_false, this]
            · rw [if_neg (by omega), k2 c' hc', hb c' hc' j]
              by_cases e2 : j = v
              · rw [e2, ly_eq, decide_eq_false (Nat.lt_irrefl v), Bool.false_and, decide_eq_false (show ¬ c = c' by omega), Bool.and_false]
              · have e3 : ly a v c j = a j := if_neg e2
                have : decide (j < v) = decide (j < v + 1) := decide_eq_decide.mpr (by omega)
                rw [e3, this]
          · by_cases e : j = v
            · rw [e, ly_eq]; exact hcu
            · rw [ly_lt (by omega)]
              exact ha j (by omega)
          · refine w_let ?_
            refine w_chk (in_8 (by omega) rfl) ?_
            refine w_chk (in_8 (by omega) rfl) ?_
            refine w_let ?_
            refine w_let ?_
            rw [lN_add, nI_1]
            refine ih (tot + cr X q (X.1 - (v + 1)) (ly a v c) (v + 1) u, h_wi m2 121 c (m2.1 121 c &&& (h_ishl 1 (nI v) ^^^ -1))) ⟨(fw.trans f2 (by omega) (by omega) (by omega) (by omega) : Fr 121 122 μ m2).trans (Fr.wi (a := 121) (b := 122) (by omega) (by omega)) (by omega) (by omega) (by omega) (by omega), fun c' hc' => ?_, ?_⟩
            · show (h_wi m2 121 c (m2.1 121 c &&& (h_ishl 1 (nI v) ^^^ -1))).1 121 c' = _
              rw [wi_e]
              by_cases e : c' = c
              · rw [if_pos ⟨rfl, e⟩, k4 c hcu, wi_s, e]
                refine b_ext (fun j _ => ?_)
                rw [b_not, b_or, el j (by omega)]
                by_cases e2 : j = v
                · rw [e2, bv]
                  simp
                · rw [decide_eq_false e2]
                  simp
              · rw [if_neg (by omega), k4 c' hc', wi_n _ _ (Or.inr e)]
                exact k2 c' hc'
            · show tot + cr X q (X.1 - (v + 1)) (ly a v c) (v + 1) u = sm (fun c => if cP X a v c = true then cr X q (X.1 - (v + 1)) (ly a v c) (v + 1) u else 0) c + (if cP X a v c = true then cr X q (X.1 - (v + 1)) (ly a v c) (v + 1) u else 0)
              rw [if_pos hP, k3]
    · refine w_f (nI_nlt h0 (by omega)) ?_
      have := hQ μ (Fr.refl _ _ _) (fun _ _ => rfl)
      rw [show X.1 - v = 0 by omega] at this
      exact w_ret this
