/-! 68: the search for a homomorphism (the class): load, maps -/
def nr (X : HG) (v u : Nat) : Bool := decide (v < X.1) && decide (u < X.1) && !decide (X.2.2 v u = 0)
theorem nr_t {X : HG} {v u : Nat} : nr X v u = true ↔ v < X.1 ∧ u < X.1 ∧ ¬ X.2.2 v u = 0 := by
  unfold nr
  rw [Bool.and_eq_true, Bool.and_eq_true, decide_eq_true_iff, decide_eq_true_iff, Bool.not_eq_true', decide_eq_false_iff_not, and_assoc]
theorem nr_b {μ : HMem} {g : Nat} {X : HG} (h : CG μ g X) {v : Nat} (hv : v < 8) (u : Nat) : bt (μ.1 (g + 3) v) u = nr X v u := by
  have := h.2.2.2 v u hv
  rw [← nr_t] at this
  cases h1 : bt (μ.1 (g + 3) v) u with
  | true => exact (this.mp h1).symm
  | false =>
    cases h2 : nr X v u with
    | false => rfl
    | true => rw [this.mpr h2] at h1; cases h1
def fF (X : HG) (P : Nat → Bool) (v u : Nat) : Bool := nr X v u && P u && !decide (u = v)
def fT (Y : HG) (R : Nat → Bool) (s t : Nat) : Bool := nr Y s t && R t
def dm0 (X Y : HG) (R : Nat → Bool) (v t : Nat) : Bool := R t && (!nr X v v || nr Y t t)
theorem HV_ld {X Y : HG} (hX : GV X) (hY : GV Y) {P R : Nat → Bool} (hP : ∀ v, P v = true → v < X.1) (hR : ∀ v, R v = true → v < Y.1) : HV P (fF X P) (fT Y R) R := by
  have nX := hX.1
  have nY := hY.1
  refine ⟨fun v hv => by have := hP v hv; omega, fun v u _ h => ?_, fun v u h => ?_, fun s t h => ?_, fun s t hs ht => ?_, fun s hs => by have := hR s hs; omega⟩
  · unfold fF at h
    rw [Bool.and_eq_true, Bool.and_eq_true] at h
    exact h.1.2
  · unfold fF at h
    rw [Bool.and_eq_true, Bool.and_eq_true] at h
    have := hP u h.1.2
    omega
  · unfold fT at h
    rw [Bool.and_eq_true] at h
    have := hR t h.2
    omega
  · have a1 := hR s hs
    have a2 := hR t ht
    unfold fT nr
    rw [hs, ht, (hY.2.2 s t a1 a2).1]
    cases decide (s < Y.1) <;> cases decide (t < Y.1) <;> rfl
theorem Sol_Hm {X Y : HG} {P R : Nat → Bool} (hP : ∀ v, P v = true → v < X.1) (hR : ∀ v, R v = true → v < Y.1) {dm : Nat → Nat → Bool} (hd : ∀ v t, dm v t = true → dm0 X Y R v t = true) (f : Nat → Nat) : Sol P (fF X P) (fT Y R) dm f ↔ Hm P dm X.2.2 Y.2.2 f := by
  constructor
  · rintro ⟨h1, h2⟩
    refine ⟨h1, fun u v hu hv hE => ?_⟩
    by_cases e : v = u
    · subst e
      have := hd v _ (h1 v hv)
      unfold dm0 at this
      rw [nr_t.mpr ⟨hP v hv, hP v hv, hE⟩, Bool.and_eq_true] at this
      exact (nr_t.mp this.2).2.2
    · have := h2 u v hu (by unfold fF; rw [nr_t.mpr ⟨hP u hu, hP v hv, hE⟩, hv, decide_eq_false e]; rfl)
      unfold fT at this
      rw [Bool.and_eq_true] at this
      exact (nr_t.mp this.1).2.2
  · rintro ⟨h1, h2⟩
    refine ⟨h1, fun u v hu hF => ?_⟩
    unfold fF at hF
    rw [Bool.and_eq_true, Bool.and_eq_true, nr_t] at hF
    have r1 := hd u _ (h1 u hu)
    have r2 := hd v _ (h1 v hF.1.2)
    unfold dm0 at r1 r2
    rw [Bool.and_eq_true] at r1 r2
    unfold fT
    rw [nr_t.mpr ⟨hR _ r1.1, hR _ r2.1, h2 u v hu hF.1.2 hF.1.1.2.2⟩, r2.1]
    rfl
theorem Hm0 {X Y : HG} {P R : Nat → Bool} (hP : ∀ v, P v = true → v < X.1) (hR : ∀ v, R v = true → v < Y.1) (f : Nat → Nat) : Hm P (dm0 X Y R) X.2.2 Y.2.2 f ↔ Hm P (fun _ t => R t) X.2.2 Y.2.2 f := by
  constructor
  · rintro ⟨h1, h2⟩
    refine ⟨fun v hv => ?_, h2⟩
    have := h1 v hv
    unfold dm0 at this
    rw [Bool.and_eq_true] at this
    exact this.1
  · rintro ⟨h1, h2⟩
    refine ⟨fun v hv => ?_, h2⟩
    have hr : R (f v) = true := h1 v hv
    unfold dm0
    rw [hr]
    cases hn : nr X v v with
    | false => rfl
    | true =>
      rw [nr_t.mpr ⟨hR _ hr, hR _ hr, h2 v v hv hv (nr_t.mp hn).2.2⟩]
      rfl
theorem w3_e (m : HMem) (v : Nat) (A B C : Int32) : (∀ u, (h_wi (h_wi (h_wi m 104 v A) 105 v B) 106 v C).1 104 u = if u = v then A else m.1 104 u) ∧ (∀ u, (h_wi (h_wi (h_wi m 104 v A) 105 v B) 106 v C).1 105 u = if u = v then B else m.1 105 u) ∧ (∀ u, (h_wi (h_wi (h_wi m 104 v A) 105 v B) 106 v C).1 106 u = if u = v then C else m.1 106 u) := by
  refine ⟨fun u => ?_, fun u => ?_, fun u => ?_⟩
  · rw [wi_o _ _ (by omega), wi_o _ _ (by omega), wi_e]
    by_cases e : u = v
    · rw [if_pos ⟨rfl, e⟩, if_pos e]
    · rw [if_neg (by omega), if_neg e]
  · rw [wi_o _ _ (by omega), wi_e]
    by_cases e : u = v
    · rw [if_pos ⟨rfl, e⟩, if_pos e]
    · rw [if_neg (by omega), if_neg e, wi_o _ _ (by omega)]
  · rw [wi_e]
    by_cases e : u = v
    · rw [if_pos ⟨rfl, e⟩, if_pos e]
    · rw [if_neg (by omega), if_neg e, wi_o _ _ (by omega), wi_o _ _ (by omega)]
theorem s_load {μ : HMem} {gx gy : Nat} {X Y : HG} (hgx : IsG gx) (hgy : IsG gy) (cx : CG μ gx X) (cy : CG μ gy Y) (nX : X.1 ≤ 8) (nY : Y.1 ≤ 8) (P R : Int32) {Q : Unit → HMem → Prop} (hQ : ∀ μ', HM (bt P) (fF X (bt P)) (fT Y (bt R)) μ' → DR μ' 106 (dm0 X Y (bt R)) → Fr 103 107 μ μ' → Q () μ') : wp (f_HomSearch_load gx P gy R μ) Q := by
  have l3x := len_3 hgx
  have l3y := len_3 hgy
  have hx84 := hgx.2
  have hy84 := hgy.2
  unfold f_HomSearch_load
  refine w_let ?_
  have f0 : Fr 103 107 μ (h_wi μ 103 0 P) := Fr.wi (by omega) (by omega)
  have e0 : (h_wi μ 103 0 P).1 103 0 = P := wi_s _ _ _ _
  generalize h_wi μ 103 0 P = m0 at f0 e0
  refine w_bdk (s_loops hgy (cy.fr f0 (by unfold IsG at hgy; omega)) nY (fun r hr => ?_))
  refine w_let ?_
  have hr' : ∀ v, bt r v = nr Y v v := fun v => by
    have := hr v
    cases h1 : bt r v with
    | true => rw [h1] at this; have := this.mp rfl; exact (nr_t.mpr ⟨this.1, this.1, this.2⟩).symm
    | false =>
      cases h2 : nr Y v v with
      | false => rfl
      | true => have h3 := nr_t.mp h2; rw [this.mpr ⟨h3.1, h3.2.2⟩] at h1; cases h1
  refine w_for (fun f v (m : HMem) => wp (f_HomSearch_load_L17 f gx P gy R (r &&& R) (nI v) m) Q) (fun v m => Fr 103 107 μ m ∧ m.1 103 0 = P ∧ ∀ u, u < v → (∀ w, bt (m.1 104 u) w = fF X (bt P) u w) ∧ (∀ w, bt (m.1 105 u) w = fT Y (bt R) u w) ∧ ∀ w, bt (m.1 106 u) w = dm0 X Y (bt R) u w) 8 ?_ ?_ 0 m0 (by omega) (by omega) ⟨f0, e0, fun u hu => absurd hu (Nat.not_lt_zero _)⟩
  · rintro f m ⟨h1, h2, h3⟩
    show wp (f_HomSearch_load_L17_b (f_HomSearch_load_L17 f) gx P gy R (r &&& R) (nI 8) m) Q
    unfold f_HomSearch_load_L17_b
    refine w_t (by decide) (w_ret (hQ m ⟨fun v => by rw [h2], fun v hv u => (h3 v hv).1 u, fun s hs t => (h3 s hs).2.1 t⟩ (fun v hv t => (h3 v hv).2.2 t) h1))
  · rintro f v m hv ⟨h1, h2, h3⟩ ih
    show wp (f_HomSearch_load_L17_b (f_HomSearch_load_L17 f) gx P gy R (r &&& R) (nI v) m) Q
    unfold f_HomSearch_load_L17_b f_HomSearch_load_J92
    have cx1 := cx.fr h1 (by omega)
    have cy1 := cy.fr h1 (by omega)
    refine w_f (nI_ge (b := 8) hv (by omega)) ?_
    refine w_chk (by rw [l3x]; exact in_N hv (by omega)) ?_
    refine w_chk (in_8 hv rfl) ?_
    rw [cl_8 (by omega)]
    refine w_let ?_
    refine w_chk (by rw [l3y]; exact in_N hv (by omega)) ?_
    refine w_chk (in_8 hv rfl) ?_
    refine w_let ?_
    rw [wi_o m _ (show gy + 3 ≠ 104 by omega)]
    refine w_chk (by rw [l3x]; exact in_N hv (by omega)) ?_
    rw [wi_o _ _ (show gx + 3 ≠ 105 by omega), wi_o _ _ (show gx + 3 ≠ 104 by omega)]
    refine w_bde (e_has _ (by omega) _) ?_
    rw [nr_b cx1 hv v]
    have fin : ∀ z, (∀ w, bt z w = dm0 X Y (bt R) v w) → wp (h_chk (nI v) (h_len 106) (h_let (h_wi (h_wi (h_wi m 104 v (m.1 (gx + 3) v &&& P &&& (h_ishl 1 (nI v) ^^^ -1))) 105 v (m.1 (gy + 3) v &&& R)) 106 v z) (fun μ_92 => h_let (nI v + 1) (fun v6_93 => f_HomSearch_load_L17 f gx P gy R (r &&& R) v6_93 μ_92)))) Q := by
      intro z hz
      refine w_chk (in_8 hv rfl) ?_
      refine w_let ?_
      refine w_let ?_
      rw [nI_1]
      refine ih _ ⟨((h1.trans (Fr.wi (a := 103) (b := 107) (by omega) (by omega)) (by omega) (by omega) (by omega) (by omega) : Fr 103 107 μ _).trans (Fr.wi (a := 103) (b := 107) (by omega) (by omega)) (by omega) (by omega) (by omega) (by omega) : Fr 103 107 μ _).trans (Fr.wi (a := 103) (b := 107) (by omega) (by omega)) (by omega) (by omega) (by omega) (by omega), ?_, fun u hu => ?_⟩
      · rw [wi_o _ _ (by omega), wi_o _ _ (by omega), wi_o _ _ (by omega)]
        exact h2
      · obtain ⟨q4, q5, q6⟩ := w3_e m v (m.1 (gx + 3) v &&& P &&& (h_ishl 1 (nI v) ^^^ -1)) (m.1 (gy + 3) v &&& R) z
        rw [q4 u, q5 u, q6 u]
        by_cases e : u = v
        · subst e
          rw [if_pos rfl, if_pos rfl, if_pos rfl]
          refine ⟨fun w => ?_, fun w => ?_, hz⟩
          · rw [b_not, b_and, nr_b cx1 hv w, b_one (by omega)]
            rfl
          · rw [b_and, nr_b cy1 hv w]
            rfl
        · rw [if_neg e, if_neg e, if_neg e]
          exact h3 u (by omega)
    refine w_if (fun h0 => ?_) (fun h0 => ?_)
    · rw [bI_0] at h0
      refine fin R (fun w => ?_)
      unfold dm0
      rw [h0]
      simp
    · rw [bI_n] at h0
      refine fin (r &&& R) (fun w => ?_)
      unfold dm0
      rw [b_and, hr' w, h0, Bool.not_true, Bool.false_or, Bool.and_comm]
theorem s_ext0 {μ : HMem} {X Y : HG} (hX : GV X) (hY : GV Y) {P R : Nat → Bool} (hP : ∀ v, P v = true → v < X.1) (hR : ∀ v, R v = true → v < Y.1) (hm : HM P (fF X P) (fT Y R) μ) {dm : Nat → Nat → Bool} (hd : ∀ v t, dm v t = true → dm0 X Y R v t = true) (hD : DR μ 106 dm) {Q : Int32 → HMem → Prop} (hQ : ∀ b μ', (b = true ↔ ∃ f, Hm P dm X.2.2 Y.2.2 f) → Fr 108 117 μ μ' → Q (bI b) μ') : wp (f_HomSearch_extendable h_deep 106 0 μ) Q := by
  have nY := hY.1
  have hB : ∀ v t, dm v t = true → R t = true := fun v t h => by
    have := hd v t h
    unfold dm0 at this
    rw [Bool.and_eq_true] at this
    exact this.1
  refine s_extend (HV_ld hX hY hP hR) 16 0 106 dm μ (by omega) (Or.inl rfl) hm hD (fun v t _ h => by have := hR t (hB v t h); omega) (fun v t _ h => hB v t h) (Nat.zero_le _) Q (fun b μ' hb hf => hQ b μ' (hb.trans ⟨fun ⟨f, h⟩ => ⟨f, (Sol_Hm hP hR hd f).mp h⟩, fun ⟨f, h⟩ => ⟨f, (Sol_Hm hP hR hd f).mpr h⟩⟩) hf)
def hom (X Y : HG) : Prop := ∃ f, Hm (fun v => decide (v < X.1)) (fun _ t => decide (t < Y.1)) X.2.2 Y.2.2 f
theorem s_maps {μ : HMem} {gx gy : Nat} {X Y : HG} (hgx : IsG gx) (hgy : IsG gy) (cx : CG μ gx X) (cy : CG μ gy Y) (hX : GV X) (hY : GV Y) {Q : Int32 → HMem → Prop} (hQ : ∀ b μ', (b = true ↔ hom X Y) → Fr 103 117 μ μ' → Q (bI b) μ') : wp (f_HomSearch_maps gx gy μ) Q := by
  have bX : bt (fullS X.1) = fun v => decide (v < X.1) := funext (fun v => b_full hX.1 v)
  have bY : bt (fullS Y.1) = fun v => decide (v < Y.1) := funext (fun v => b_full hY.1 v)
  have hP : ∀ v, bt (fullS X.1) v = true → v < X.1 := fun v h => by rw [bX] at h; exact of_decide_eq_true h
  have hR : ∀ v, bt (fullS Y.1) v = true → v < Y.1 := fun v h => by rw [bY] at h; exact of_decide_eq_true h
  unfold f_HomSearch_maps
  refine w_bde (e_all cx hX.1) ?_
  refine w_bde (e_all cy hY.1) ?_
  refine w_bdk (s_load hgx hgy cx cy hX.1 hY.1 _ _ (fun m1 k1 k2 k3 => ?_))
  refine w_bdk (s_ext0 hX hY hP hR k1 (fun v t h => h) k2 (fun b m2 hb f2 => ?_))
  rw [e_J]
  refine w_ret (hQ b m2 (hb.trans ?_) (k3.trans f2 (by omega) (by omega) (by omega) (by omega)))
  unfold hom
  refine ⟨fun ⟨f, h⟩ => ⟨f, ?_⟩, fun ⟨f, h⟩ => ⟨f, ?_⟩⟩
  · have := (Hm0 hP hR f).mp h
    rwa [bX, bY] at this
  · refine (Hm0 hP hR f).mpr ?_
    rw [bX, bY]
    exact h
theorem free_hom {X Y : HG} (hY : GV Y) : (∃ f, Hm (fun v => decide (v < X.1)) (fun _ t => decide (t < Y.1) && !decide (nI t = -1)) X.2.2 Y.2.2 f) ↔ hom X Y := by
  have nY := hY.1
  have e : ∀ t, (decide (t < Y.1) && !decide (nI t = -1)) = decide (t < Y.1) := fun t => by
    rcases Nat.lt_or_ge t Y.1 with h | h
    · rw [decide_eq_false (dnN (by omega)), Bool.not_false, Bool.and_true]
    · rw [decide_eq_false (Nat.not_lt.mpr h), Bool.false_and]
  exact ⟨fun ⟨f, h⟩ => ⟨f, h.cg (fun v t _ => e t)⟩, fun ⟨f, h⟩ => ⟨f, h.cg (fun v t _ => (e t).symm)⟩⟩
theorem LM_compare (a b : Int32) {μ : HMem} (h : SI μ) : Fc (f_Law_compare a b μ) (f_Model_compare a b) := by
  obtain ⟨σ, ok, hc, hr⟩ := h
  unfold Fc f_Law_compare f_Bench_compare
  rcases ix_g a (n := 4) (by omega) with ha | ⟨i, hi, rfl⟩
  · rw [e_graphAtX ha, bdx_r, bdt_r]
    refine w_ret ?_
    unfold f_Model_compare f_Model_compare_J27 f_Model_compare_J32
    rw [e_isGX ha, bd_some]
    exact w_t (by decide) (w_ret (Q_err ok hc hr (by decide) _))
  · rw [e_graphAt hi, bdx_l]
    rcases ix_g b (n := 4) (by omega) with hb | ⟨j, hj, rfl⟩
    · rw [e_graphAtX hb, bdx_r, bdt_r]
      refine w_ret ?_
      unfold f_Model_compare f_Model_compare_J27 f_Model_compare_J32
      rw [e_isG hi, bd_some]
      refine w_f (by decide) ?_
      rw [e_isGX hb, bd_some]
      exact w_t (by decide) (w_ret (Q_err ok hc hr (by decide) _))
    · rw [e_graphAt hj, bdx_l]
      have hX := ok.1 i hi
      have hY := ok.1 j hj
      refine LM_obs ok (r := (@ite _ (hom (σ.1 i) (σ.1 j)) (Classical.propDecidable _) 1 0) + (@ite _ (hom (σ.1 j) (σ.1 i)) (Classical.propDecidable _) 2 0)) ?_ (fun m2 c2 r2 => ?_)
      · refine w_bdk (s_maps (isg_g hi) (isg_g hj) (hc.1 i hi) (hc.1 j hj) hX hY (fun b1 m1 hb1 f1 => ?_))
        have c1 := hc.fr f1 (by omega)
        unfold f_Bench_compare_J31 f_Bench_compare_J49
        have go : ∀ s0 : Int32, wp (h_bd (f_HomSearch_maps (4 * j) (4 * i) m1) (fun r38 μ_38 => if r38 = 0 then some (.inl (s0 + 0), μ_38) else some (.inl (s0 + 2), μ_38))) (fun x μ1 => x = (.inl (s0 + @ite _ (hom (σ.1 j) (σ.1 i)) (Classical.propDecidable _) 2 0) : Int32 ⊕ Nat) ∧ CS σ μ1 ∧ RS σ μ1) := by
          intro s0
          refine w_bdk (s_maps (isg_g hj) (isg_g hi) (c1.1 j hj) (c1.1 i hi) hY hX (fun b2 m2 hb2 f2 => ?_))
          have f12 : Fr 103 117 μ m2 := f1.trans f2 (by omega) (by omega) (by omega) (by omega)
          cases b2 with
          | false => exact w_t rfl (w_ret ⟨by rw [if_neg (fun h => by cases hb2.mpr h)], hc.fr f12 (by omega), hr.fr f12 (by omega)⟩)
          | true => exact w_f (by decide) (w_ret ⟨by rw [if_pos (hb2.mp rfl)], hc.fr f12 (by omega), hr.fr f12 (by omega)⟩)
        cases b1 with
        | false =>
          have e1 : (@ite Int32 (hom (σ.1 i) (σ.1 j)) (Classical.propDecidable _) 1 0) = 0 := if_neg (fun h => by cases hb1.mpr h)
          rw [e1]
          exact w_t rfl (go 0)
        | true =>
          have e1 : (@ite Int32 (hom (σ.1 i) (σ.1 j)) (Classical.propDecidable _) 1 0) = 1 := if_pos (hb1.mp rfl)
          rw [e1]
          exact w_f (by decide) (go 1)
      · unfold f_Model_compare
        rw [e_isG hi, bd_some]
        refine w_f (by decide) ?_
        rw [e_isG hj, bd_some]
        refine w_f (by decide) ?_
        unfold f_Model_compared
        refine w_bdk ?_
        refine w_bdk (s_isFree (by omega) (by omega) hX hY (r2.1 i hi) (r2.1 j hj) (fun b1 m3 hb1 f3 _ => ?_))
        rw [free_hom hY] at hb1
        have g3 := Fs.fr f3 (by omega) (by omega)
        unfold f_Model_compared_J15 f_Model_compared_J30
        have go : ∀ s0 : Int32, wp (h_bd (f_Model_isFree (nI j) (nI i) (-1) m3) (fun r19 μ_19 => if r19 = 0 then some (s0 + 0, μ_19) else some (s0 + 2, μ_19))) (fun r16 μ_16 => wp (h_bd (f_Model_tells r16 μ_16) (fun r19 μ_19 => f_Model_compare_J32 r19 μ_19)) (ObQ σ (m2.2 143 0) (s0 + @ite _ (hom (σ.1 j) (σ.1 i)) (Classical.propDecidable _) 2 0))) := by
          intro s0
          refine w_bdk (s_isFree (by omega) (by omega) hY hX ((r2.fs g3).1 j hj) ((r2.fs g3).1 i hi) (fun b2 m4 hb2 f4 _ => ?_))
          rw [free_hom hX] at hb2
          have g4 := g3.trans (Fs.fr f4 (by omega) (by omega))
          cases b2 with
          | false =>
            refine w_t rfl (w_ret ?_)
            rw [if_neg (fun h => by cases hb2.mpr h)]
            refine w_bde (e_tells _ _) ?_
            exact w_ret (ob_tell (c2.fs g4) (r2.fs g4) (by rw [g4.out]) _)
          | true =>
            refine w_f (by decide) (w_ret ?_)
            rw [if_pos (hb2.mp rfl)]
            refine w_bde (e_tells _ _) ?_
            exact w_ret (ob_tell (c2.fs g4) (r2.fs g4) (by rw [g4.out]) _)
        cases b1 with
        | false =>
          have e1 : (@ite Int32 (hom (σ.1 i) (σ.1 j)) (Classical.propDecidable _) 1 0) = 0 := if_neg (fun h => by cases hb1.mpr h)
          rw [e1]
          exact w_t rfl (go 0)
        | true =>
          have e1 : (@ite Int32 (hom (σ.1 i) (σ.1 j)) (Classical.propDecidable _) 1 0) = 1 := if_pos (hb1.mp rfl)
          rw [e1]
          exact w_f (by decide) (go 1)
