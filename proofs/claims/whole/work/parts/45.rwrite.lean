/-! 45: the reference: writing -/
/-- only w's places from lo to hi have changed -/
def Fw (lo hi : Nat) (μ μ' : HMem) : Prop := Fr 126 127 μ μ' ∧ ∀ i, (i < lo ∨ hi ≤ i) → μ'.1 126 i = μ.1 126 i
theorem Fw.refl (lo hi : Nat) (μ : HMem) : Fw lo hi μ μ := ⟨Fr.refl _ _ _, fun _ _ => rfl⟩
theorem Fw.trans {lo hi lo1 hi1 lo2 hi2 : Nat} {μ μ1 μ2 : HMem} (h1 : Fw lo1 hi1 μ μ1) (h2 : Fw lo2 hi2 μ1 μ2) (e1 : lo ≤ lo1) (e2 : hi1 ≤ hi) (e3 : lo ≤ lo2) (e4 : hi2 ≤ hi) : Fw lo hi μ μ2 :=
  ⟨h1.1.trans h2.1 (Nat.le_refl _) (Nat.le_refl _) (Nat.le_refl _) (Nat.le_refl _), fun i hi => (h2.2 i (by omega)).trans (h1.2 i (by omega))⟩
theorem Fw.wi {lo hi i : Nat} {x : Int32} {μ : HMem} (h1 : lo ≤ i) (h2 : i < hi) : Fw lo hi μ (h_wi μ 126 i x) :=
  ⟨Fr.wi (by omega) (by omega), fun j hj => wi_n _ _ (by omega)⟩
theorem wi_126 (μ : HMem) (i : Nat) (x : Int32) : (h_wi μ 126 i x).1 126 = upd (μ.1 126) i x := by
  funext j
  rw [wi_e]
  by_cases e : j = i
  · rw [if_pos ⟨rfl, e⟩, e, pk_us]
  · rw [if_neg (by omega), pk_un e]
theorem RG.shift {f f' : Nat → Int32} {b b' : Nat} {G : HG} (hn : G.1 ≤ 8) (h : RG f b G) (e : ∀ j, j < 73 → f' (b' + j) = f (b + j)) : RG f' b' G := by
  obtain ⟨h1, h2, h3⟩ := h
  refine ⟨?_, fun v hv => ?_, fun u v hu hv => ?_⟩
  · have := e 0 (by omega)
    simp only [Nat.add_zero] at this
    rw [this]; exact h1
  · rw [show b' + 1 + v = b' + (1 + v) by omega, e (1 + v) (by omega), show b + (1 + v) = b + 1 + v by omega]; exact h2 v hv
  · rw [show b' + 9 + 8 * u + v = b' + (9 + 8 * u + v) by omega, e (9 + 8 * u + v) (by omega), show b + (9 + 8 * u + v) = b + 9 + 8 * u + v by omega]; exact h3 u v hu hv
theorem RG.fw {μ μ' : HMem} {b lo hi : Nat} {G : HG} (hn : G.1 ≤ 8) (h : RG (μ.1 126) b G) (hf : Fw lo hi μ μ') (hd : b + 73 ≤ lo ∨ hi ≤ b) : RG (μ'.1 126) b G :=
  h.shift hn (fun j hj => hf.2 _ (by omega))
theorem e_puts {k u v : Nat} (hk : k < 6) (hu : u < 8) (hv : v < 8) (w : Int32) (μ : HMem) : f_Model_puts (nI k) (nI u) (nI v) w μ = some ((), h_wi (h_wi μ 126 (73 * k + 9 + 8 * u + v) w) 126 (73 * k + 9 + 8 * v + u) w) := by
  unfold f_Model_puts
  rw [m73e, m73e, chk_in (in_N (by rw [show h_len 126 = 438 from rfl]; omega) (by decide))]
  unfold h_let
  dsimp only
  rw [chk_in (in_N (by rw [show h_len 126 = 438 from rfl]; omega) (by decide)), cl_8 (by omega), cl_8 (by omega)]
theorem s_puts {μ : HMem} {k : Nat} {G : HG} (hk : k < 6) (hn : G.1 ≤ 8) (h : RG (μ.1 126) (73 * k) G) {u v : Nat} (hu : u < G.1) (hv : v < G.1) (w : Int32) {Q : Unit → HMem → Prop} (hQ : ∀ μ', RG (μ'.1 126) (73 * k) (jn G u v w) → Fw (73 * k) (73 * k + 73) μ μ' → Q () μ') : wp (f_Model_puts (nI k) (nI u) (nI v) w μ) Q := by
  rw [e_puts hk (by omega) (by omega)]
  refine w_ret (hQ _ ?_ ?_)
  · rw [wi_126, wi_126]; exact h.jn hu hv hn w
  · exact (Fw.wi (by omega) (by omega)).trans (Fw.wi (by omega) (by omega)) (Nat.le_refl (73 * k)) (Nat.le_refl (73 * k + 73)) (Nat.le_refl (73 * k)) (Nat.le_refl (73 * k + 73))
theorem m73i (k i : Nat) : ((73 : Int32) * nI k) + nI i = nI (73 * k + i) := by rw [m73, nI_add]
theorem s_begins {μ : HMem} {k n : Nat} (hk : k < 6) (hn : n ≤ 8) {Q : Unit → HMem → Prop} (hQ : ∀ μ', RG (μ'.1 126) (73 * k) (n, fun _ => 1, fun _ _ => 0) → Fw (73 * k) (73 * k + 73) μ μ' → Q () μ') : wp (f_Model_begins (nI k) (nI n) μ) Q := by
  unfold f_Model_begins
  refine w_for (fun f i (m : HMem) => wp (f_Model_begins_L2 f_Model_begins_J39 f (nI k) (nI n) (nI i) m) Q) (fun i m => Fw (73 * k) (73 * k + 73) μ m ∧ ∀ j, j < i → m.1 126 (73 * k + j) = if 0 < j ∧ j ≤ n then 1 else 0) 73 ?_ ?_ 0 μ (by omega) (by omega) ⟨Fw.refl _ _ _, fun j hj => absurd hj (Nat.not_lt_zero _)⟩
  · rintro f m ⟨g1, g2⟩
    show wp (f_Model_begins_L2_b f_Model_begins_J39 (f_Model_begins_L2 f_Model_begins_J39 f) (nI k) (nI n) (nI 73) m) Q
    unfold f_Model_begins_L2_b f_Model_begins_J39
    refine w_t (by decide) ?_
    rw [m73]
    refine w_chk (in_N (by rw [show h_len 126 = 438 from rfl]; omega) (by decide)) ?_
    refine w_let ?_
    rw [cl_8 (by omega)]
    refine w_ret (hQ _ ⟨?_, fun v hv => ?_, fun u v hu hv => ?_⟩ (g1.trans (Fw.wi (by omega) (by omega)) (Nat.le_refl _) (Nat.le_refl _) (Nat.le_refl (73 * k)) (Nat.le_refl (73 * k + 73))))
    · rw [wi_s]
    · have hv' : v < n := hv
      rw [wi_n _ _ (by omega), show 73 * k + 1 + v = 73 * k + (1 + v) by omega, g2 (1 + v) (by omega), if_pos (by omega)]
    · have hu' : u < n := hu
      have hv' : v < n := hv
      rw [wi_n _ _ (by omega), show 73 * k + 9 + 8 * u + v = 73 * k + (9 + 8 * u + v) by omega, g2 (9 + 8 * u + v) (by omega), if_neg (by omega)]
  · rintro f i m hi ⟨g1, g2⟩ ih
    show wp (f_Model_begins_L2_b f_Model_begins_J39 (f_Model_begins_L2 f_Model_begins_J39 f) (nI k) (nI n) (nI i) m) Q
    unfold f_Model_begins_L2_b
    refine w_f (nI_ge (b := 73) hi (by omega)) ?_
    have fin : ∀ x : Int32, (x = if 0 < i ∧ i ≤ n then 1 else 0) → wp (f_Model_begins_J32 (f_Model_begins_L2 f_Model_begins_J39 f) (nI k) (nI n) (nI i) x ((73 * nI k) + nI i) m) Q := by
      intro x hx
      unfold f_Model_begins_J32
      rw [m73i]
      refine w_chk (in_N (by rw [show h_len 126 = 438 from rfl]; omega) (by decide)) ?_
      refine w_let ?_
      refine w_let ?_
      rw [nI_1, cl_8 (by omega)]
      refine ih _ ⟨g1.trans (Fw.wi (by omega) (by omega)) (Nat.le_refl _) (Nat.le_refl _) (Nat.le_refl (73 * k)) (Nat.le_refl (73 * k + 73)), fun j hj => ?_⟩
      rw [wi_e]
      by_cases e : j = i
      · rw [if_pos ⟨rfl, by omega⟩, hx, e]
      · rw [if_neg (by omega)]; exact g2 j (by omega)
    unfold f_Model_begins_J31
    refine w_if (fun h0 => ?_) (fun h0 => ?_)
    · have := (nI_leI (a := i) (b := 0) (by omega) (by omega)).mp h0
      exact fin 0 (by rw [if_neg (by omega)])
    · have h1 : 0 < i := Nat.pos_of_ne_zero (fun h => h0 (by rw [h]; decide))
      refine w_if (fun h2 => ?_) (fun h2 => ?_)
      · have := (nI_ltI (by omega) (by omega)).mp h2
        exact fin 0 (by rw [if_neg (by omega)])
      · have : ¬ n < i := fun h => h2 (nI_lt h (by omega))
        exact fin 1 (by rw [if_pos (by omega)])
theorem s_copies {μ : HMem} {k k' : Nat} (hk : k < 6) (hk' : k' < 6) (hne : k ≠ k') {Q : Unit → HMem → Prop} (hQ : ∀ μ', (∀ j, j < 73 → μ'.1 126 (73 * k' + j) = μ.1 126 (73 * k + j)) → Fw (73 * k') (73 * k' + 73) μ μ' → Q () μ') : wp (f_Model_copies (nI k) (nI k') μ) Q := by
  unfold f_Model_copies
  refine w_for (fun f i (m : HMem) => wp (f_Model_copies_L2 f (nI k) (nI k') (nI i) m) Q) (fun i m => Fw (73 * k') (73 * k' + 73) μ m ∧ ∀ j, j < i → m.1 126 (73 * k' + j) = μ.1 126 (73 * k + j)) 73 ?_ ?_ 0 μ (by omega) (by omega) ⟨Fw.refl _ _ _, fun j hj => absurd hj (Nat.not_lt_zero _)⟩
  · rintro f m ⟨g1, g2⟩
    show wp (f_Model_copies_L2_b (f_Model_copies_L2 f) (nI k) (nI k') (nI 73) m) Q
    unfold f_Model_copies_L2_b
    exact w_t (by decide) (w_ret (hQ m g2 g1))
  · rintro f i m hi ⟨g1, g2⟩ ih
    show wp (f_Model_copies_L2_b (f_Model_copies_L2 f) (nI k) (nI k') (nI i) m) Q
    unfold f_Model_copies_L2_b
    refine w_f (nI_ge (b := 73) hi (by omega)) ?_
    rw [m73i, m73i]
    refine w_chk (in_N (by rw [show h_len 126 = 438 from rfl]; omega) (by decide)) ?_
    refine w_chk (in_N (by rw [show h_len 126 = 438 from rfl]; omega) (by decide)) ?_
    refine w_let ?_
    refine w_let ?_
    rw [nI_1, cl_8 (by omega), cl_8 (by omega)]
    refine ih _ ⟨g1.trans (Fw.wi (by omega) (by omega)) (Nat.le_refl _) (Nat.le_refl _) (Nat.le_refl (73 * k')) (Nat.le_refl (73 * k' + 73)), fun j hj => ?_⟩
    rw [wi_e]
    by_cases e : j = i
    · rw [if_pos ⟨rfl, by omega⟩, e]
      exact g1.2 _ (by omega)
    · rw [if_neg (by omega)]; exact g2 j (by omega)
theorem m292 (a b : Nat) : ((292 : Int32) * nI a) + nI b = nI (292 * a + b) := by
  show nI 292 * nI a + nI b = _
  rw [pk_mul, nI_add]
theorem s_msave {σ : HS} {μ : HMem} (ok : OKs σ) (hr : RS σ μ) {Q : Unit → HMem → Prop} (hQ : ∀ μ', RS (push σ) μ' → Fr 125 128 μ μ' → μ'.1 126 = μ.1 126 → μ'.1 125 5 = 0 → Q () μ') : wp (f_Model_save μ) Q := by
  obtain ⟨k1, k2, k3, k4⟩ := ok
  obtain ⟨r1, ⟨r2, r3⟩, r4, r5⟩ := hr
  unfold f_Model_save
  refine w_let ?_
  have hf0 : Fr 125 126 μ (h_wi μ 125 5 0) := Fr.wi (by omega) (by omega)
  have q1 : (h_wi μ 125 5 0).1 125 5 = 0 := wi_s _ _ _ _
  have q2 : (h_wi μ 125 5 0).1 125 2 = nI σ.2.1.1 := by rw [wi_n _ _ (by omega)]; exact r2
  have q4 : (h_wi μ 125 5 0).1 125 4 = nI σ.2.2.1 := by rw [wi_n _ _ (by omega)]; exact r4
  generalize hμ : h_wi μ 125 5 0 = μ0 at hf0 q1 q2 q4
  /- the last loop: from any state with room for one more -/
  have last : ∀ (m0 : HMem) (n : Nat) (hs : Nat → Nat → HG), n ≤ 3 → Fr 125 128 μ m0 → m0.1 126 = μ.1 126 → m0.1 125 5 = 0 → m0.1 125 2 = nI n → m0.1 125 4 = nI σ.2.2.1 → (∀ j i, j < n → i < 4 → RG (m0.1 127) (292 * j + 73 * i) (hs j i)) → (∀ j i, j < n → i < 4 → GV (hs j i)) → pushH σ.2.1 σ.1 = (n + 1, fun j => if j = n then σ.1 else hs j) → wp (f_Model_save_J54 m0) Q := by
    intro m0 n hs hn p1 p2 p3 p4 p5 p6 p7 p8
    unfold f_Model_save_J54
    refine w_for (fun f i (m : HMem) => wp (f_Model_save_L56 f_Model_save_J90 f (nI i) m) Q) (fun i m => Fr 127 128 m0 m ∧ (∀ j, j < i → m.1 127 (292 * n + j) = μ.1 126 j) ∧ ∀ j, (j < 292 * n) → m.1 127 j = m0.1 127 j) 292 ?_ ?_ 0 m0 (by omega) (by omega) ⟨Fr.refl _ _ _, fun j hj => absurd hj (Nat.not_lt_zero _), fun _ _ => rfl⟩
    · rintro f m ⟨g1, g2, g3⟩
      show wp (f_Model_save_L56_b f_Model_save_J90 (f_Model_save_L56 f_Model_save_J90 f) (nI 292) m) Q
      unfold f_Model_save_L56_b f_Model_save_J90
      refine w_t (by decide) ?_
      refine w_let ?_
      have e2 : m.1 125 2 = nI n := by rw [g1.i (by omega)]; exact p4
      rw [e2, nI_1]
      have hfm : Fr 125 126 m (h_wi m 125 2 (nI (n + 1))) := Fr.wi (by omega) (by omega)
      have hpm : Fr 125 128 μ m := p1.trans g1 (by omega) (by omega) (by omega) (by omega)
      refine w_ret (hQ _ ⟨fun i hi => ?_, ⟨?_, fun j i hj hi => ?_⟩, ?_, fun k hk => ?_⟩ (hpm.trans hfm (Nat.le_refl 125) (Nat.le_refl 128) (by omega) (by omega)) ?_ ?_)
      · rw [wi_o _ _ (by omega), g1.i (by omega), p2]; exact r1 i hi
      · rw [wi_s]
        show _ = nI (pushH σ.2.1 σ.1).1
        rw [p8]
      · have hj' : j < n + 1 := by
          have : j < (pushH σ.2.1 σ.1).1 := hj
          rw [p8] at this
          exact this
        rw [wi_o _ _ (by omega)]
        show RG _ _ ((pushH σ.2.1 σ.1).2 j i)
        rw [p8]
        show RG _ _ ((if j = n then σ.1 else hs j) i)
        by_cases e : j = n
        · rw [if_pos e, e]
          refine (r1 i hi).shift (k1 i hi).1 (fun q hq => ?_)
          rw [Nat.add_assoc]
          exact g2 _ (by omega)
        · rw [if_neg e]
          refine (p6 j i (by omega) hi).shift (p7 j i (by omega) hi).1 (fun q hq => ?_)
          exact g3 _ (by omega)
      · rw [wi_n _ _ (by omega), g1.i (by omega)]; exact p5
      · rw [wi_o _ _ (by omega), g1.i (by omega), p1.i (by omega)]; exact r5 k hk
      · rw [wi_o _ _ (by omega), g1.i (by omega), p2]
      · rw [wi_n _ _ (by omega), g1.i (by omega)]; exact p3
    · rintro f i m hi ⟨g1, g2, g3⟩ ih
      show wp (f_Model_save_L56_b f_Model_save_J90 (f_Model_save_L56 f_Model_save_J90 f) (nI i) m) Q
      unfold f_Model_save_L56_b
      refine w_f (nI_ge (b := 292) hi (by omega)) ?_
      have e2 : m.1 125 2 = nI n := by rw [g1.i (by omega)]; exact p4
      rw [e2, m292]
      refine w_chk (in_N (by rw [show h_len 126 = 438 from rfl]; omega) (by decide)) ?_
      refine w_chk (in_N (by rw [show h_len 127 = 1168 from rfl]; omega) (by decide)) ?_
      refine w_let ?_
      refine w_let ?_
      rw [nI_1, cl_8 (by omega), cl_8 (by omega)]
      refine ih _ ⟨g1.trans (Fr.wi (by omega) (by omega)) (Nat.le_refl _) (Nat.le_refl _) (Nat.le_refl 127) (Nat.le_refl 128), fun j hj => ?_, fun j hj => ?_⟩
      · rw [wi_e]
        by_cases e : j = i
        · rw [if_pos ⟨rfl, by omega⟩, e, g1.i (by omega), p2]
        · rw [if_neg (by omega)]; exact g2 j (by omega)
      · rw [wi_n _ _ (by omega)]; exact g3 j hj
  refine w_if (fun h4 => ?_) (fun h4 => ?_)
  · have e4 : ¬ σ.2.1.1 = 4 := fun h => h4 (by rw [q2, h]; rfl)
    refine last μ0 σ.2.1.1 σ.2.1.2 (by omega) (hf0.wide (by omega) (by omega)) (hf0.i (by omega)) q1 q2 q4 (fun j i hj hi => by rw [hf0.i (by omega)]; exact r3 j i hj hi) k3 ?_
    exact if_neg e4
  · have e4 : σ.2.1.1 = 4 := by
      have h5 : μ0.1 125 2 = (4 : Int32) := Classical.byContradiction h4
      rw [q2] at h5
      exact (nI_eq (b := 4) (by omega) (by omega)).mp h5
    refine w_for (fun f i (m : HMem) => wp (f_Model_save_L15 f_Model_save_J44 f (nI i) m) Q) (fun i m => Fr 127 128 μ0 m ∧ (∀ j, j < i → m.1 127 j = μ0.1 127 (j + 292)) ∧ ∀ j, i ≤ j → m.1 127 j = μ0.1 127 j) 876 ?_ ?_ 0 μ0 (by omega) (by omega) ⟨Fr.refl _ _ _, fun j hj => absurd hj (Nat.not_lt_zero _), fun _ _ => rfl⟩
    · rintro f m ⟨g1, g2, g3⟩
      show wp (f_Model_save_L15_b f_Model_save_J44 (f_Model_save_L15 f_Model_save_J44 f) (nI 876) m) Q
      unfold f_Model_save_L15_b f_Model_save_J44
      refine w_t (by decide) ?_
      refine w_let ?_
      have e2 : m.1 125 2 - 1 = nI 3 := by rw [g1.i (by omega), q2, e4]; decide
      rw [e2]
      have hfm : Fr 125 126 m (h_wi m 125 2 (nI 3)) := Fr.wi (by omega) (by omega)
      refine last _ 3 (fun j => σ.2.1.2 (j + 1)) (by omega) (((hf0.trans g1 (by omega) (by omega) (by omega) (by omega)).trans hfm (Nat.le_refl 125) (Nat.le_refl 128) (by omega) (by omega))) ?_ ?_ (wi_s _ _ _ _) ?_ (fun j i hj hi => ?_) (fun j i hj hi => k3 _ i (by omega) hi) ?_
      · rw [wi_o _ _ (by omega), g1.i (by omega), hf0.i (by omega)]
      · rw [wi_n _ _ (by omega), g1.i (by omega)]; exact q1
      · rw [wi_n _ _ (by omega), g1.i (by omega)]; exact q4
      · rw [wi_o _ _ (by omega)]
        refine (r3 (j + 1) i (by omega) hi).shift (k3 _ i (by omega) hi).1 (fun q hq => ?_)
        rw [g2 _ (by omega), hf0.i (by omega), show 292 * j + 73 * i + q + 292 = 292 * (j + 1) + 73 * i + q by omega]
      · exact if_pos e4
    · rintro f i m hi ⟨g1, g2, g3⟩ ih
      show wp (f_Model_save_L15_b f_Model_save_J44 (f_Model_save_L15 f_Model_save_J44 f) (nI i) m) Q
      unfold f_Model_save_L15_b
      refine w_f (nI_ge (b := 876) hi (by omega)) ?_
      have e9 : nI i + 292 = nI (i + 292) := nI_add i 292
      rw [e9]
      refine w_chk (in_N (by rw [show h_len 127 = 1168 from rfl]; omega) (by decide)) ?_
      refine w_chk (in_N (by rw [show h_len 127 = 1168 from rfl]; omega) (by decide)) ?_
      refine w_let ?_
      refine w_let ?_
      rw [nI_1, cl_8 (by omega), cl_8 (by omega)]
      refine ih _ ⟨g1.trans (Fr.wi (by omega) (by omega)) (Nat.le_refl _) (Nat.le_refl _) (Nat.le_refl 127) (Nat.le_refl 128), fun j hj => ?_, fun j hj => ?_⟩
      · rw [wi_e]
        by_cases e : j = i
        · rw [if_pos ⟨rfl, by omega⟩, e]
          exact g3 _ (by omega)
        · rw [if_neg (by omega)]; exact g2 j (by omega)
      · rw [wi_n _ _ (by omega)]; exact g3 j (by omega)
