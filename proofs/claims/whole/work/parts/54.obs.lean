/-! 54: calls that only tell: append, clearText, graph, vertex, edge -/
def ObQ {T : Type} (σ : HS) (o : Int64) (r : T) : T → HMem → Prop := fun b μ3 => ∃ μ4, b = r ∧ μ3 = h_wi μ4 125 5 0 ∧ CS σ μ4 ∧ RS σ μ4 ∧ μ4.2 143 0 = o
theorem LM_obs {σ : HS} (ok : OKs σ) {r : Int32} {cls : Option ((Int32 ⊕ Nat) × HMem)} {ref : HMem → Option (Int32 × HMem)} {hd : Nat → Option Int32} (hcls : wp cls (fun x μ1 => x = .inl r ∧ CS σ μ1 ∧ RS σ μ1)) (href : ∀ μ2, CS σ μ2 → RS σ μ2 → wp (ref μ2) (ObQ σ (μ2.2 143 0) r)) : wp (h_bdt cls hd (fun r μ => h_chk 0 (h_len 143) (h_let (h_wl μ 143 (Int32.toNatClampNeg (0)) (Int32.toInt64 r)) (fun m => some ((0 : Int32), m))))) (fun k μ1 => wp (ref μ1) (fun b μ2 => FcQ k (fun _ => Int32.toInt64 b) μ2)) := by
  obtain ⟨x, μ1, e, rfl, h1, h2⟩ := hcls
  rw [e, bdt_l, e_out]
  refine w_ret ?_
  obtain ⟨b, μ3, e3, μ4, rfl, rfl, h3, h4, h5⟩ := href (h_wl μ1 143 0 (Int32.toInt64 r)) h1 h2
  exact ⟨_, _, e3, Q_ok ok h3 h4 (x := Int32.toInt64 b) (by rw [h5, wl_s]) rfl⟩
theorem LM_obsL {σ : HS} (ok : OKs σ) {r : Int64} {cls : Option ((Int64 ⊕ Nat) × HMem)} {ref : HMem → Option (Int64 × HMem)} {hd : Nat → Option Int32} (hcls : wp cls (fun x μ1 => x = .inl r ∧ CS σ μ1 ∧ RS σ μ1)) (href : ∀ μ2, CS σ μ2 → RS σ μ2 → wp (ref μ2) (fun b μ3 => b = r ∧ CS σ μ3 ∧ RS σ μ3 ∧ μ3.1 125 5 = 0 ∧ μ3.2 143 0 = μ2.2 143 0)) : wp (h_bdt cls hd (fun r μ => h_chk 0 (h_len 143) (h_let (h_wl μ 143 (Int32.toNatClampNeg (0)) r) (fun m => some ((0 : Int32), m))))) (fun k μ1 => wp (ref μ1) (fun b μ2 => FcQ k (fun _ => b) μ2)) := by
  obtain ⟨x, μ1, e, rfl, h1, h2⟩ := hcls
  rw [e, bdt_l, e_out]
  refine w_ret ?_
  obtain ⟨b, μ3, e3, rfl, h3, h4, h5, h6⟩ := href (h_wl μ1 143 0 r) h1 h2
  refine ⟨_, _, e3, ⟨⟨σ, ok, h3, h4⟩, h5, fun _ => ?_⟩⟩
  rw [h6, wl_s]
theorem ob_tell {σ : HS} {μ : HMem} (hc : CS σ μ) (hr : RS σ μ) {o : Int64} (ho : μ.2 143 0 = o) (r : Int32) : ObQ σ o r r (h_wi μ 125 5 0) := ⟨μ, rfl, rfl, hc, hr, ho⟩
theorem i2b_k : ∀ k, k < 128 → h_i2b (h_i2b (nI k)) = nI k := by decide +kernel
theorem LM_append (a : Int32) {μ : HMem} (h : SI μ) : Fc (f_Law_append a μ) (f_Model_append a) := by
  obtain ⟨σ, ok, hc, hr⟩ := h
  unfold Fc f_Law_append f_Bench_append
  have ht := ok.2.2.2.1
  have c1 := hc.2.2.1
  by_cases hb : a < 0 ∨ 127 < a
  · rw [e_reqRX hb, bdx_r, bdt_r]
    refine w_ret ?_
    unfold f_Model_append
    rw [e_inX hb, bd_some]
    exact w_f (by decide) (w_ret (Q_err ok hc hr (by decide) _))
  · rw [e_reqR hb, bdx_l]
    obtain ⟨k, hk, rfl⟩ := rg_n (n := 127) (by omega) hb
    by_cases h120 : σ.2.2.1 < 120
    · have h1 : μ.1 88 1 < (120 : Int32) := by rw [c1]; exact nI_lt (b := 120) h120 (by omega)
      rw [if_pos h1, c1, cl_8 (by omega), i2b_k k (by omega)]
      refine w_try ?_
      refine w_chk (in_N (by rw [show h_len 89 = 120 from rfl]; omega) (by decide)) ?_
      refine w_let (w_let ?_)
      rw [wi_s, wi_o _ _ (by omega), c1, nI_1]
      refine w_ret ?_
      show wp _ _
      rw [e_out]
      refine w_ret ?_
      have f1 : Fr 88 90 μ (h_wi (h_wi μ 89 σ.2.2.1 (nI k)) 88 1 (nI (σ.2.2.1 + 1))) := (Fr.wi (a := 88) (b := 90) (by omega) (by omega)).trans (Fr.wi (by omega) (by omega)) (Nat.le_refl 88) (Nat.le_refl 90) (Nat.le_refl 88) (Nat.le_refl 90)
      have g1 : ∀ j, j < σ.2.2.1 + 1 → (h_wi (h_wi μ 89 σ.2.2.1 (nI k)) 88 1 (nI (σ.2.2.1 + 1))).1 89 j = if j = σ.2.2.1 then nI k else σ.2.2.2 j := by
        intro j hj
        rw [wi_o _ _ (by omega), wi_e]
        by_cases e : j = σ.2.2.1
        · rw [if_pos ⟨rfl, e⟩, if_pos e]
        · rw [if_neg (by omega), if_neg e]; exact hc.2.2.2 j (by omega)
      have g2 : (h_wi (h_wi μ 89 σ.2.2.1 (nI k)) 88 1 (nI (σ.2.2.1 + 1))).1 88 1 = nI (σ.2.2.1 + 1) := wi_s _ _ _ _
      generalize h_wi (h_wi μ 89 σ.2.2.1 (nI k)) 88 1 (nI (σ.2.2.1 + 1)) = m1 at f1 g1 g2
      have hr1 := (hr.fr f1 (by omega)).wl 143 0 (Int32.toInt64 (nI (σ.2.2.1 + 1)))
      have ho1 : (h_wl m1 143 0 (Int32.toInt64 (nI (σ.2.2.1 + 1)))).2 143 0 = Int32.toInt64 (nI (σ.2.2.1 + 1)) := wl_s _ _ _ _
      have hcg : ∀ i, i < 4 → CG (h_wl m1 143 0 (Int32.toInt64 (nI (σ.2.2.1 + 1)))) (4 * i) (σ.1 i) := fun i hi => show CG m1 (4 * i) (σ.1 i) from (hc.1 i hi).fr f1 (by omega)
      have hch : CH σ.2.1 (h_wl m1 143 0 (Int32.toInt64 (nI (σ.2.2.1 + 1)))) := show CH σ.2.1 m1 from hc.2.1.fr f1 (by omega)
      have hct : CT (σ.2.2.1 + 1, fun j => if j = σ.2.2.1 then nI k else σ.2.2.2 j) (h_wl m1 143 0 (Int32.toInt64 (nI (σ.2.2.1 + 1)))) := ⟨g2, g1⟩
      generalize h_wl m1 143 0 (Int32.toInt64 (nI (σ.2.2.1 + 1))) = m2 at hr1 ho1 hcg hch hct
      unfold f_Model_append
      rw [e_inT hb, bd_some]
      obtain ⟨r1, r2, r3, r4⟩ := hr1
      rw [r3]
      refine w_t (by decide) (w_t ?_ ?_)
      · intro h
        have := (nI_eq (b := 120) (by omega) (by omega)).mp h
        omega
      refine w_chk (in_N (by rw [show h_len 128 = 120 from rfl]; omega) (by decide)) ?_
      refine w_let (w_let ?_)
      rw [cl_8 (by omega), wi_s, wi_o _ _ (by omega), r3, nI_1]
      refine w_bde (e_tells _ _) ?_
      have f2 : Fr 125 129 m2 (h_wi (h_wi m2 128 σ.2.2.1 (nI k)) 125 4 (nI (σ.2.2.1 + 1))) := (Fr.wi (a := 125) (b := 129) (by omega) (by omega)).trans (Fr.wi (by omega) (by omega)) (Nat.le_refl 125) (Nat.le_refl 129) (Nat.le_refl 125) (Nat.le_refl 129)
      refine w_ret (Q_ok (σ := (σ.1, σ.2.1, (σ.2.2.1 + 1, fun j => if j = σ.2.2.1 then nI k else σ.2.2.2 j))) ⟨ok.1, ok.2.1, ok.2.2.1, (by show σ.2.2.1 + 1 ≤ 120; omega), fun j hj => ?_⟩ ⟨fun i hi => (hcg i hi).fr f2 (by omega), hch.fr f2 (by omega), hct.fr f2 (by omega)⟩ ⟨fun i hi => ?_, ?_, ?_, fun j hj => ?_⟩ (x := Int32.toInt64 (nI (σ.2.2.1 + 1))) (by rw [f2.l (by omega)]; exact ho1) rfl)
      · show 0 ≤ (if j = σ.2.2.1 then nI k else σ.2.2.2 j) ∧ (if j = σ.2.2.1 then nI k else σ.2.2.2 j) ≤ 127
        by_cases e : j = σ.2.2.1
        · rw [if_pos e]; exact ⟨nI_pos' (by omega), nI_le (b := 127) hk (by omega)⟩
        · rw [if_neg e]
          have : j < σ.2.2.1 + 1 := hj
          exact ok.2.2.2.2 j (by omega)
      · rw [wi_o _ _ (by omega), wi_o _ _ (by omega)]; exact r1 i hi
      · unfold RH at r2 ⊢
        rw [wi_n _ _ (by omega), wi_o _ _ (by omega), wi_o _ _ (by omega), wi_o _ _ (by omega)]
        exact r2
      · exact wi_s _ _ _ _
      · show _ = if j = σ.2.2.1 then nI k else σ.2.2.2 j
        have hj' : j < σ.2.2.1 + 1 := hj
        rw [wi_o _ _ (by omega), wi_e]
        by_cases e : j = σ.2.2.1
        · rw [if_pos ⟨rfl, e⟩, if_pos e]
        · rw [if_neg (by omega), if_neg e]; exact r4 j (by omega)
    · have e120 : σ.2.2.1 = 120 := by omega
      have h1 : ¬ μ.1 88 1 < (120 : Int32) := by rw [c1, e120]; decide
      rw [if_neg h1, bdt_r]
      refine w_ret ?_
      unfold f_Model_append
      rw [e_inT hb, bd_some, hr.2.2.1, e120]
      exact w_t (by decide) (w_f (fun h => h rfl) (w_ret (Q_err ok hc hr (by decide) _)))
/-- the text is emptied: both answer the same -/
theorem LM_clear {μ : HMem} (h : SI μ) : wp (f_Bench_clearText μ) (fun r μ1 => wp (f_Model_clearText μ1) (fun b μ2 => SI μ2 ∧ r = b)) := by
  obtain ⟨σ, ok, hc, hr⟩ := h
  unfold f_Bench_clearText
  refine w_let (w_let ?_)
  rw [hc.2.2.1]
  refine w_ret ?_
  have f1 : Fr 88 89 μ (h_wi μ 88 1 0) := Fr.wi (by omega) (by omega)
  have g1 : (h_wi μ 88 1 0).1 88 1 = 0 := wi_s _ _ _ _
  generalize h_wi μ 88 1 0 = m1 at f1 g1
  obtain ⟨r1, r2, r3, r4⟩ := hr.fr f1 (by omega)
  unfold f_Model_clearText
  refine w_let (w_let ?_)
  rw [r3]
  refine w_bde (e_tells _ _) ?_
  have f2 : Fr 125 126 m1 (h_wi (h_wi m1 125 4 0) 125 5 0) := (Fr.wi (a := 125) (b := 126) (by omega) (by omega)).trans (Fr.wi (by omega) (by omega)) (Nat.le_refl 125) (Nat.le_refl 126) (Nat.le_refl 125) (Nat.le_refl 126)
  refine w_ret ⟨⟨(σ.1, σ.2.1, (0, σ.2.2.2)), ⟨ok.1, ok.2.1, ok.2.2.1, Nat.zero_le _, fun j hj => absurd hj (Nat.not_lt_zero _)⟩, ⟨fun i hi => ((hc.1 i hi).fr f1 (by omega)).fr f2 (by omega), (hc.2.1.fr f1 (by omega)).fr f2 (by omega), ?_, fun j hj => absurd hj (Nat.not_lt_zero _)⟩, ⟨fun i hi => ?_, ?_, ?_, fun j hj => absurd hj (Nat.not_lt_zero _)⟩⟩, rfl⟩
  · rw [f2.i (by omega), g1]; rfl
  · rw [f2.i (by omega)]; exact r1 i hi
  · unfold RH at r2 ⊢
    rw [f2.i (c := 127) (by omega), wi_n _ _ (by omega), wi_n _ _ (by omega)]
    exact r2
  · rw [wi_n _ _ (by omega), wi_s]; rfl
/-! connected parts -/
theorem Rc.mono {n : Nat} {E : Nat → Nat → Int32} {S S' : Nat → Prop} {s v : Nat} (h : Rc n E S s v) (hS : ∀ b, S b → S' b) : Rc n E S' s v := fun X h0 h1 => h X h0 (fun a b ha hb xa e sb => h1 a b ha hb xa e (hS b sb))
theorem Rc.tr {n : Nat} {E : Nat → Nat → Int32} {S : Nat → Prop} {s t v : Nat} (h : Rc n E S s t) (h2 : Rc n E S t v) : Rc n E S s v := fun X h0 h1 => h2 X (h X h0 h1) h1
noncomputable def cmP (n : Nat) (E : Nat → Nat → Int32) (v : Nat) : Bool := @decide (∀ u, u < v → ¬ Rc n E (fun _ => True) u v) (Classical.propDecidable _)
theorem cmP_t {n : Nat} {E : Nat → Nat → Int32} {v : Nat} : cmP n E v = true ↔ ∀ u, u < v → ¬ Rc n E (fun _ => True) u v := by
  unfold cmP
  exact @decide_eq_true_iff _ (Classical.propDecidable _)
theorem e_partCount {μ : HMem} {g : Nat} {G : HG} (hg : IsG g) (h : CG μ g G) (hV : GV G) : f_Graph_partCount g μ = some (nI (cn (cmP G.1 G.2.2) G.1), μ) := by
  have hn := hV.1
  have key : wp (f_Graph_partCount g μ) (fun r μ' => r = nI (cn (cmP G.1 G.2.2) G.1) ∧ μ' = μ) := by
    unfold f_Graph_partCount
    refine w_bde (e_all h hn) ?_
    refine w_for (fun f i (x : Nat × Int32) => wp (f_Graph_partCount_L9 f g (nI x.1) x.2 (nI i) μ) _) (fun i x => x.1 = cn (cmP G.1 G.2.2) i ∧ ∀ w, bt x.2 w = true ↔ w < G.1 ∧ ∀ u, u < i → ¬ Rc G.1 G.2.2 (fun _ => True) u w) G.1 ?_ ?_ 0 (0, fullS G.1) (by omega) (by omega) ⟨rfl, fun w => ?_⟩
    · rintro f ⟨_, x⟩ ⟨rfl, hx⟩
      show wp (f_Graph_partCount_L9_b (f_Graph_partCount_L9 f) g (nI _) x (nI G.1) μ) _
      unfold f_Graph_partCount_L9_b
      refine w_t (by rw [h.1]; exact Int32.le_refl _) ?_
      exact w_ret ⟨rfl, rfl⟩
    · rintro f i ⟨_, x⟩ hi ⟨rfl, hx⟩ ih
      show wp (f_Graph_partCount_L9_b (f_Graph_partCount_L9 f) g (nI _) x (nI i) μ) _
      unfold f_Graph_partCount_L9_b f_Graph_partCount_J39
      replace hx : ∀ w, bt x w = true ↔ w < G.1 ∧ ∀ u, u < i → ¬ Rc G.1 G.2.2 (fun _ => True) u w := hx
      refine w_f (by rw [h.1]; exact nI_ge hi (by omega)) ?_
      refine w_bde (e_has _ (by omega) _) ?_
      refine w_if (fun hb => ?_) (fun hb => ?_)
      · rw [bI_0] at hb
        refine w_let ?_
        rw [nI_1]
        have hnot : ¬ ∀ u, u < i → ¬ Rc G.1 G.2.2 (fun _ => True) u i := fun hc => by
          rw [(hx i).mpr ⟨hi, hc⟩] at hb; cases hb
        refine ih (_, x) ⟨?_, fun w => ?_⟩
        · show cn _ i = cn _ i + _
          cases hc : cmP G.1 G.2.2 i with
          | false => simp
          | true => exact absurd (cmP_t.mp hc) hnot
        · rw [hx w]
          constructor
          · rintro ⟨h1, h2⟩
            refine ⟨h1, fun u hu hr => ?_⟩
            rcases Nat.lt_or_ge u i with h3 | h3
            · exact h2 u h3 hr
            · have : u = i := by omega
              subst this
              refine hnot (fun u2 hu2 hr2 => h2 u2 hu2 (hr2.tr hr))
          · rintro ⟨h1, h2⟩
            exact ⟨h1, fun u hu => h2 u (by omega)⟩
      · rw [bI_n] at hb
        obtain ⟨_, hc⟩ := (hx i).mp hb
        refine w_let ?_
        refine w_bdk (s_reached hg h hn hi x (fun r hr => ?_))
        refine w_let ?_
        refine w_let ?_
        rw [nI_1, nI_1]
        refine ih (_, _) ⟨?_, fun w => ?_⟩
        · show _ = cn _ i + _
          rw [cmP_t.mpr hc]
          rfl
        · rw [b_not, Bool.and_eq_true, hx w, Bool.not_eq_true', ← Bool.not_eq_true, hr w]
          constructor
          · rintro ⟨⟨h1, h2⟩, h3⟩
            refine ⟨h1, fun u hu hru => ?_⟩
            rcases Nat.lt_or_ge u i with h4 | h4
            · exact h2 u h4 hru
            · have : u = i := by omega
              subst this
              refine h3 ?_
              have := hru (fun a => bt x a = true ∧ Rc G.1 G.2.2 (fun b => bt x b = true) u a) ⟨hb, Rc.base⟩ (fun a b ha hb' xa e _ => by
                have hbx : bt x b = true := (hx b).mpr ⟨hb', fun u2 hu2 hr2 => by
                  have e2 : ¬ G.2.2 b a = 0 := by rw [(hV.2.2 b a hb' ha).1]; exact e
                  exact ((hx a).mp xa.1).2 u2 hu2 (hr2.step hb' ha e2 trivial)⟩
                exact ⟨hbx, xa.2.step ha hb' e hbx⟩)
              exact this.2
          · rintro ⟨h1, h2⟩
            exact ⟨⟨h1, fun u hu => h2 u (by omega)⟩, fun h3 => h2 i (by omega) (h3.mono (fun _ _ => trivial))⟩
    · show bt (fullS G.1) w = true ↔ _
      rw [b_full hn, decide_eq_true_iff]
      exact ⟨fun h => ⟨h, fun u hu => absurd hu (Nat.not_lt_zero _)⟩, fun h => h.1⟩
  obtain ⟨r, μ', e, rfl, rfl⟩ := key
  exact e
theorem s_mreached {μ : HMem} {k : Nat} {G : HG} (hk : k < 6) (hV : GV G) (h : RG (μ.1 126) (73 * k) G) {s : Nat} (hs : s < G.1) {Q : Int32 → HMem → Prop} (hQ : ∀ r, (∀ v, bt r v = true ↔ Rc G.1 G.2.2 (fun _ => True) s v) → Q r μ) : wp (f_Model_reached (nI k) (h_ishl 1 (nI s)) μ) Q := by
  have hn := hV.1
  unfold f_Model_reached
  refine w_for (fun f i (x : Int32) => wp (f_Model_reached_L5 f (nI k) x (nI i) μ) Q)
    (fun i x => (∀ v, bt x v = true → Rc G.1 G.2.2 (fun _ => True) s v) ∧ bt x s = true ∧ ((∀ a b, a < G.1 → b < G.1 → bt x a = true → ¬ G.2.2 a b = 0 → bt x b = true) ∨ i + 1 ≤ cn (bt x) 8)) 8 ?_ ?_ 0 (h_ishl 1 (nI s)) (by omega) (by omega) ?_
  · rintro f x ⟨h1, h2, h3⟩
    show wp (f_Model_reached_L5_b (f_Model_reached_L5 f) (nI k) x (nI 8) μ) Q
    unfold f_Model_reached_L5_b
    refine w_t (by decide) ?_
    have h4 : ∀ a b, a < G.1 → b < G.1 → bt x a = true → ¬ G.2.2 a b = 0 → bt x b = true := by
      rcases h3 with h3 | h3
      · exact h3
      · have := cn_le (bt x) 8
        omega
    exact w_ret (hQ x (fun v => ⟨h1 v, fun hr => hr (fun v => bt x v = true) h2 (fun a b ha hb xa e _ => h4 a b ha hb xa e)⟩))
  · rintro f i x hi ⟨h1, h2, h3⟩ ih
    show wp (f_Model_reached_L5_b (f_Model_reached_L5 f) (nI k) x (nI i) μ) Q
    unfold f_Model_reached_L5_b
    refine w_f (nI_ge (b := 8) hi (by omega)) ?_
    refine w_for (fun f2 j (z : Int32) => wp (f_Model_reached_L15 (f_Model_reached_J55 (f_Model_reached_L5 f)) f2 (nI k) z (nI i) (nI j) μ) Q)
      (fun j z => (∀ v, bt x v = true → bt z v = true) ∧ (∀ v, bt z v = true → Rc G.1 G.2.2 (fun _ => True) s v) ∧ (∀ a b, a < j → b < G.1 → bt x a = true → ¬ G.2.2 a b = 0 → bt z b = true) ∧ ((∀ a b, a < G.1 → b < G.1 → bt x a = true → ¬ G.2.2 a b = 0 → bt x b = true) → z = x)) G.1 ?_ ?_ 0 x (by omega) (by omega) ?_
    · rintro f2 z ⟨g1, g2, g3, g4⟩
      show wp (f_Model_reached_L15_b (f_Model_reached_J55 (f_Model_reached_L5 f)) (f_Model_reached_L15 (f_Model_reached_J55 (f_Model_reached_L5 f)) f2) (nI k) z (nI i) (nI G.1) μ) Q
      unfold f_Model_reached_L15_b f_Model_reached_J55
      refine w_bde (e_msize hk h) ?_
      refine w_t (Int32.le_refl _) ?_
      refine w_let ?_
      rw [nI_1]
      refine ih z ⟨g2, g1 s h2, ?_⟩
      by_cases hzx : z = x
      · left
        rw [hzx]
        rw [hzx] at g3
        exact g3
      · right
        have h5 : i + 1 ≤ cn (bt x) 8 := h3.resolve_left (fun hc => hzx (g4 hc))
        have hz8 : S8 z := fun v hv => by
          cases hb : bt z v with
          | false => rfl
          | true => have := (g2 v hb).lt hs; omega
        have := grow8 hz8 g1 (fun e => hzx e.symm)
        omega
    · rintro f2 j z hj ⟨g1, g2, g3, g4⟩ ih'
      show wp (f_Model_reached_L15_b (f_Model_reached_J55 (f_Model_reached_L5 f)) (f_Model_reached_L15 (f_Model_reached_J55 (f_Model_reached_L5 f)) f2) (nI k) z (nI i) (nI j) μ) Q
      unfold f_Model_reached_L15_b f_Model_reached_J47
      refine w_bde (e_msize hk h) ?_
      refine w_f (nI_ge hj (by omega)) ?_
      rw [e_bit z (by omega)]
      refine w_if (fun hb => ?_) (fun hb => ?_)
      · rw [bI_e1] at hb
        refine w_let ?_
        refine w_let ?_
        rw [nI_1]
        have e0 : z ||| 0 = z := b_ext (fun v _ => by rw [b_or, b_0, Bool.or_false])
        rw [e0]
        refine ih' z ⟨g1, g2, fun a b ha hb' xa e => ?_, g4⟩
        rcases Nat.lt_or_ge a j with h6 | h6
        · exact g3 a b h6 hb' xa e
        · have : a = j := by omega
          subst this
          rw [g1 a xa] at hb; cases hb
      · rw [bI_ne1] at hb
        refine w_bdk (s_near hk hn h hj (fun r hr => ?_))
        refine w_let ?_
        refine w_let ?_
        rw [nI_1]
        have hsym : ∀ u, u < G.1 → (¬ G.2.2 u j = 0 ↔ ¬ G.2.2 j u = 0) := fun u hu => by rw [(hV.2.2 u j hu hj).1]
        refine ih' (z ||| r) ⟨fun v hv => ?_, fun v hv => ?_, fun a b ha hb' xa e => ?_, fun hc => ?_⟩
        · rw [b_or, g1 v hv]; rfl
        · rw [b_or, Bool.or_eq_true, hr v] at hv
          rcases hv with hv | ⟨hv, he⟩
          · exact g2 v hv
          · exact (g2 j hb).step hj hv ((hsym v hv).mp he) trivial
        · rw [b_or, Bool.or_eq_true, hr b]
          rcases Nat.lt_or_ge a j with h6 | h6
          · exact Or.inl (g3 a b h6 hb' xa e)
          · have : a = j := by omega
            subst this
            exact Or.inr ⟨hb', (hsym b hb').mpr e⟩
        · have hz := g4 hc
          subst hz
          refine b_ext (fun v _ => ?_)
          rw [b_or]
          cases hv : bt r v with
          | false => rw [Bool.or_false]
          | true =>
            obtain ⟨h7, h8⟩ := (hr v).mp hv
            rw [hc j v hj h7 hb ((hsym v h7).mp h8)]
            rfl
    · exact ⟨fun _ h => h, h1, fun a b ha => absurd ha (Nat.not_lt_zero _), fun _ => rfl⟩
  · refine ⟨fun v hv => ?_, ?_, Or.inr ?_⟩
    · rw [b_one (by omega), decide_eq_true_iff] at hv
      subst hv
      exact Rc.base
    · rw [b_one (by omega)]; simp
    · have := cn_lt (p := fun _ => false) (q := bt (h_ishl 1 (nI s))) (n := 8) (fun _ _ h => by cases h) ⟨s, by omega, rfl, by rw [b_one (by omega)]; simp⟩
      omega
theorem e_components {μ : HMem} {k : Nat} {G : HG} (hk : k < 6) (hV : GV G) (h : RG (μ.1 126) (73 * k) G) : f_Model_components (nI k) μ = some (nI (cn (cmP G.1 G.2.2) G.1), μ) := by
  have hn := hV.1
  have key : wp (f_Model_components (nI k) μ) (fun r μ' => r = nI (cn (cmP G.1 G.2.2) G.1) ∧ μ' = μ) := by
    unfold f_Model_components
    refine w_for (fun f i (x : Nat × Int32) => wp (f_Model_components_L7 f (nI k) (nI x.1) x.2 (nI i) μ) _) (fun i x => x.1 = cn (cmP G.1 G.2.2) i ∧ ∀ w, bt x.2 w = true ↔ ∃ u, u < i ∧ Rc G.1 G.2.2 (fun _ => True) u w) G.1 ?_ ?_ 0 (0, 0) (by omega) (by omega) ⟨rfl, fun w => ?_⟩
    · rintro f ⟨_, x⟩ ⟨rfl, hx⟩
      show wp (f_Model_components_L7_b (f_Model_components_L7 f) (nI k) (nI _) x (nI G.1) μ) _
      unfold f_Model_components_L7_b
      refine w_bde (e_msize hk h) ?_
      refine w_t (Int32.le_refl _) ?_
      exact w_ret ⟨rfl, rfl⟩
    · rintro f i ⟨_, x⟩ hi ⟨rfl, hx⟩ ih
      show wp (f_Model_components_L7_b (f_Model_components_L7 f) (nI k) (nI _) x (nI i) μ) _
      unfold f_Model_components_L7_b f_Model_components_J41
      replace hx : ∀ w, bt x w = true ↔ ∃ u, u < i ∧ Rc G.1 G.2.2 (fun _ => True) u w := hx
      refine w_bde (e_msize hk h) ?_
      refine w_f (nI_ge hi (by omega)) ?_
      rw [e_bit x (by omega)]
      refine w_if (fun hb => ?_) (fun hb => ?_)
      · rw [bI_n] at hb
        obtain ⟨u0, hu0, hr0⟩ := (hx i).mp hb
        refine w_let ?_
        rw [nI_1]
        refine ih (_, x) ⟨?_, fun w => ?_⟩
        · show cn _ i = cn _ i + _
          cases hc : cmP G.1 G.2.2 i with
          | false => simp
          | true => exact absurd hr0 (cmP_t.mp hc u0 hu0)
        · rw [hx w, ex_s]
          constructor
          · exact Or.inl
          · rintro (h1 | h1)
            · exact h1
            · exact ⟨u0, hu0, hr0.tr h1⟩
      · have hb := Classical.byContradiction hb
        rw [bI_0] at hb
        have hc : ∀ u, u < i → ¬ Rc G.1 G.2.2 (fun _ => True) u i := fun u hu hr => by
          rw [(hx i).mpr ⟨u, hu, hr⟩] at hb; cases hb
        refine w_let ?_
        refine w_bdk (s_mreached hk hV h hi (fun r hr => ?_))
        refine w_let ?_
        refine w_let ?_
        rw [nI_1, nI_1]
        refine ih (_, _) ⟨?_, fun w => ?_⟩
        · show _ = cn _ i + _
          rw [cmP_t.mpr hc]
          rfl
        · rw [b_or, Bool.or_eq_true, hx w, hr w, ex_s]
    · show bt 0 w = true ↔ _
      rw [b_0, ex_0]
      simp
  obtain ⟨r, μ', e, rfl, rfl⟩ := key
  exact e
theorem LM_graph (a b : Int32) {μ : HMem} (h : SI μ) : Fc (f_Law_graph a b μ) (f_Model_graph a b) := by
  obtain ⟨σ, ok, hc, hr⟩ := h
  unfold Fc f_Law_graph f_Bench_graph
  rcases ix_g a (n := 4) (by omega) with ha | ⟨i, hi, rfl⟩
  · rw [e_graphAtX ha, bdx_r, bdt_r]
    refine w_ret ?_
    unfold f_Model_graph
    rw [e_isGX ha, bd_some]
    exact w_f (by decide) (w_ret (Q_err ok hc hr (by decide) _))
  · rw [e_graphAt hi, bdx_l]
    have hV := ok.1 i hi
    by_cases hb : b < 0 ∨ 3 < b
    · rw [e_reqRX hb, bdx_r, bdt_r]
      refine w_ret ?_
      unfold f_Model_graph
      rw [e_isG hi, bd_some, e_inX hb, bd_some]
      exact w_t (by decide) (w_f (by decide) (w_ret (Q_err ok hc hr (by decide) _)))
    · rw [e_reqR hb, bdx_l]
      obtain ⟨w, hw, rfl⟩ := rg_n (n := 3) (by omega) hb
      rcases (by omega : w = 0 ∨ w = 1 ∨ w = 2 ∨ w = 3) with rfl | rfl | rfl | rfl
      · rw [if_neg (by decide), if_pos (by decide)]
        refine LM_obs ok (r := nI (σ.1 i).1) (w_ret ⟨by rw [(hc.1 i hi).1], hc, hr⟩) (fun m2 c2 r2 => ?_)
        unfold f_Model_graph f_Model_graph_J69
        rw [e_isG hi, bd_some, e_inT hb, bd_some]
        refine w_t (by decide) (w_t (by decide) (w_f (by decide) ?_))
        refine w_bde (e_msize (by omega) (r2.1 i hi)) ?_
        exact w_ret (ob_tell c2 r2 rfl _)
      · rw [if_neg (by decide), if_neg (by decide), if_pos (by decide), s_edgeCount (isg_g hi) (hc.1 i hi) hV]
        refine LM_obs ok (r := nI (edN (σ.1 i).2.2 false (σ.1 i).1)) (w_ret ⟨rfl, hc, hr⟩) (fun m2 c2 r2 => ?_)
        unfold f_Model_graph f_Model_graph_J66 f_Model_graph_J69
        rw [e_isG hi, bd_some, e_inT hb, bd_some]
        refine w_t (by decide) (w_t (by decide) (w_t (by decide) (w_t (by decide) (w_t (by decide) ?_))))
        refine w_bdk (s_edges (by omega) hV.1 (r2.1 i hi) false ?_)
        exact w_ret (ob_tell c2 r2 rfl _)
      · rw [if_neg (by decide), if_neg (by decide), if_neg (by decide), if_pos (by decide), e_loopCount (isg_g hi) (hc.1 i hi) hV.1]
        refine LM_obs ok (r := nI (edN (σ.1 i).2.2 true (σ.1 i).1)) (w_ret ⟨rfl, hc, hr⟩) (fun m2 c2 r2 => ?_)
        unfold f_Model_graph f_Model_graph_J66 f_Model_graph_J69
        rw [e_isG hi, bd_some, e_inT hb, bd_some]
        refine w_t (by decide) (w_t (by decide) (w_t (by decide) (w_t (by decide) (w_f (by decide) ?_))))
        refine w_bdk (s_edges (by omega) hV.1 (r2.1 i hi) true ?_)
        exact w_ret (ob_tell c2 r2 rfl _)
      · rw [if_pos (by decide), e_partCount (isg_g hi) (hc.1 i hi) hV]
        refine LM_obs ok (r := nI (cn (cmP (σ.1 i).1 (σ.1 i).2.2) (σ.1 i).1)) (w_ret ⟨rfl, hc, hr⟩) (fun m2 c2 r2 => ?_)
        unfold f_Model_graph f_Model_graph_J69
        rw [e_isG hi, bd_some, e_inT hb, bd_some]
        refine w_t (by decide) (w_t (by decide) (w_t (by decide) (w_f (by decide) ?_)))
        refine w_bde (e_components (by omega) hV (r2.1 i hi)) ?_
        exact w_ret (ob_tell c2 r2 rfl _)
