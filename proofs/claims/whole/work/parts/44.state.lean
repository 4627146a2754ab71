/-! 44: the states that both sides hold: graphs, saved graphs (oldest first), text -/
abbrev HS : Type := (Nat → HG) × (Nat × (Nat → Nat → HG)) × (Nat × (Nat → Int32))
def OKs (σ : HS) : Prop := (∀ i, i < 4 → GV (σ.1 i)) ∧ σ.2.1.1 ≤ 4 ∧ (∀ j i, j < σ.2.1.1 → i < 4 → GV (σ.2.1.2 j i)) ∧ σ.2.2.1 ≤ 120 ∧ (∀ k, k < σ.2.2.1 → 0 ≤ σ.2.2.2 k ∧ σ.2.2.2 k ≤ 127)
def CH (h : Nat × (Nat → Nat → HG)) (μ : HMem) : Prop := ∃ o, o < 4 ∧ μ.1 86 1 = nI o ∧ μ.1 86 2 = nI h.1 ∧ ∀ j i, j < h.1 → i < 4 → CG μ (20 + 4 * (4 * ((o + j) % 4) + i)) (h.2 j i)
def CT (t : Nat × (Nat → Int32)) (μ : HMem) : Prop := μ.1 88 1 = nI t.1 ∧ ∀ k, k < t.1 → μ.1 89 k = t.2 k
def CS (σ : HS) (μ : HMem) : Prop := (∀ i, i < 4 → CG μ (4 * i) (σ.1 i)) ∧ CH σ.2.1 μ ∧ CT σ.2.2 μ
def RH (h : Nat × (Nat → Nat → HG)) (μ : HMem) : Prop := μ.1 125 2 = nI h.1 ∧ ∀ j i, j < h.1 → i < 4 → RG (μ.1 127) (292 * j + 73 * i) (h.2 j i)
def RT (t : Nat × (Nat → Int32)) (μ : HMem) : Prop := μ.1 125 4 = nI t.1 ∧ ∀ k, k < t.1 → μ.1 128 k = t.2 k
def RS (σ : HS) (μ : HMem) : Prop := (∀ i, i < 4 → RG (μ.1 126) (73 * i) (σ.1 i)) ∧ RH σ.2.1 μ ∧ RT σ.2.2 μ
def pushH (h : Nat × (Nat → Nat → HG)) (g : Nat → HG) : Nat × (Nat → Nat → HG) := if h.1 = 4 then (4, fun j => if j = 3 then g else h.2 (j + 1)) else (h.1 + 1, fun j => if j = h.1 then g else h.2 j)
def push (σ : HS) : HS := (σ.1, pushH σ.2.1 σ.1, σ.2.2)
def setG (σ : HS) (i : Nat) (G : HG) : HS := (fun j => if j = i then G else σ.1 j, σ.2)
theorem ok_push {σ : HS} (h : OKs σ) : OKs (push σ) := by
  obtain ⟨h1, h2, h3, h4⟩ := h
  unfold push pushH
  by_cases e : σ.2.1.1 = 4
  · rw [if_pos e]
    refine ⟨h1, Nat.le_refl _, fun j i hj hi => ?_, h4⟩
    show GV ((if j = 3 then σ.1 else σ.2.1.2 (j + 1)) i)
    have hj' : j < 4 := hj
    by_cases e3 : j = 3
    · rw [if_pos e3]; exact h1 i hi
    · rw [if_neg e3]; exact h3 (j + 1) i (by omega) hi
  · rw [if_neg e]
    refine ⟨h1, (by omega : σ.2.1.1 + 1 ≤ 4), fun j i hj hi => ?_, h4⟩
    show GV ((if j = σ.2.1.1 then σ.1 else σ.2.1.2 j) i)
    have hj' : j < σ.2.1.1 + 1 := hj
    by_cases e3 : j = σ.2.1.1
    · rw [if_pos e3]; exact h1 i hi
    · rw [if_neg e3]; exact h3 j i (by omega) hi
theorem ok_setG {σ : HS} (h : OKs σ) (i : Nat) {G : HG} (hG : GV G) : OKs (setG σ i G) := by
  refine ⟨fun j hj => ?_, h.2⟩
  show GV (if j = i then G else σ.1 j)
  by_cases e : j = i
  · rw [if_pos e]; exact hG
  · rw [if_neg e]; exact h.1 j hj
theorem CH.fr {h : Nat × (Nat → Nat → HG)} {μ μ' : HMem} {a b : Nat} (hc : CH h μ) (hf : Fr a b μ μ') (hd : 88 ≤ a ∨ b ≤ 20) : CH h μ' := by
  obtain ⟨o, ho, h1, h2, h3⟩ := hc
  refine ⟨o, ho, by rw [hf.i (by omega)]; exact h1, by rw [hf.i (by omega)]; exact h2, fun j i hj hi => (h3 j i hj hi).fr hf ?_⟩
  have : (o + j) % 4 < 4 := Nat.mod_lt _ (by omega)
  omega
theorem CT.fr {t : Nat × (Nat → Int32)} {μ μ' : HMem} {a b : Nat} (hc : CT t μ) (hf : Fr a b μ μ') (hd : 90 ≤ a ∨ b ≤ 88) : CT t μ' := by
  unfold CT
  rw [hf.i (c := 88) (by omega), hf.i (c := 89) (by omega)]
  exact hc
theorem CS.fr {σ : HS} {μ μ' : HMem} {a b : Nat} (hc : CS σ μ) (hf : Fr a b μ μ') (hd : 90 ≤ a ∨ (16 ≤ a ∧ b ≤ 20)) : CS σ μ' := ⟨fun i hi => (hc.1 i hi).fr hf (by omega), hc.2.1.fr hf (by omega), hc.2.2.fr hf (by omega)⟩
theorem RS.fr {σ : HS} {μ μ' : HMem} {a b : Nat} (hc : RS σ μ) (hf : Fr a b μ μ') (hd : 129 ≤ a ∨ b ≤ 125) : RS σ μ' := by
  unfold RS RH RT
  rw [hf.i (c := 126) (by omega), hf.i (c := 125) (by omega), hf.i (c := 127) (by omega), hf.i (c := 128) (by omega)]
  exact hc
theorem CS.set {σ : HS} {μ μ' : HMem} {i : Nat} {G : HG} (hi : i < 4) (hc : CS σ μ) (hf : Fr (4 * i) (4 * i + 4) μ μ') (hG : CG μ' (4 * i) G) : CS (setG σ i G) μ' := by
  refine ⟨fun j hj => ?_, hc.2.1.fr hf (by omega), hc.2.2.fr hf (by omega)⟩
  show CG μ' (4 * j) (if j = i then G else σ.1 j)
  by_cases e : j = i
  · rw [if_pos e, e]; exact hG
  · rw [if_neg e]; exact (hc.1 j hj).fr hf (by omega)
theorem irem_n {a d : Nat} (ha : a < 2 ^ 31) (h0 : 0 < d) (hd : d < 2 ^ 31) : h_irem (nI a) (nI d) = nI (a % d) := pk_rem ha h0 hd
theorem el85 (i : Nat) : h_el 85 i = 4 * i := rfl
theorem el87 (i : Nat) : h_el 87 i = 20 + 4 * i := rfl
theorem isg_g {i : Nat} (hi : i < 4) : IsG (4 * i) := ⟨by omega, by omega⟩
theorem isg_h {k : Nat} (hk : k < 16) : IsG (20 + 4 * k) := ⟨by omega, by omega⟩
theorem x4 (a b : Nat) : ((4 : Int32) * nI a) + nI b = nI (4 * a + b) := by
  show nI 4 * nI a + nI b = _
  rw [pk_mul, nI_add]
theorem s_save {σ : HS} {μ : HMem} (ok : OKs σ) (hc : CS σ μ) {Q : Unit → HMem → Prop} (hQ : ∀ μ', CS (push σ) μ' → Fr 20 88 μ μ' → Q () μ') : wp (f_History_save μ) Q := by
  obtain ⟨k1, k2, k3, k4⟩ := ok
  obtain ⟨c1, ⟨o, ho, c2, c3, c4⟩, c5⟩ := hc
  unfold f_History_save
  refine w_f (by decide) ?_
  refine w_let ?_
  rw [c2, c3, nI_add, show (4 : Int32) = nI 4 from rfl, irem_n (by omega) (by omega) (by omega)]
  generalize hs : (o + σ.2.1.1) % 4 = s
  have hs4 : s < 4 := by rw [← hs]; exact Nat.mod_lt _ (by omega)
  refine w_for (fun f i (m : HMem) => wp (f_History_save_L14 f_History_save_J41 f (nI s) (nI i) m) Q) (fun i m => Fr (20 + 16 * s) (36 + 16 * s) μ m ∧ ∀ j, j < i → CG m (20 + 4 * (4 * s + j)) (σ.1 j)) 4 ?_ ?_ 0 μ (by omega) (by omega) ⟨Fr.refl _ _ _, fun j hj => absurd hj (Nat.not_lt_zero _)⟩
  · rintro f m ⟨g1, g2⟩
    show wp (f_History_save_L14_b f_History_save_J41 (f_History_save_L14 f_History_save_J41 f) (nI s) (nI 4) m) Q
    unfold f_History_save_L14_b f_History_save_J41 f_History_save_J74
    refine w_t (by decide) ?_
    have r1 : m.1 86 1 = nI o := by rw [g1.i (by omega)]; exact c2
    have r2 : m.1 86 2 = nI σ.2.1.1 := by rw [g1.i (by omega)]; exact c3
    rw [r1, r2]
    refine w_if (fun h4 => ?_) (fun h4 => ?_)
    · have e4 : σ.2.1.1 = 4 := by
        have := (nI_leI (a := 4) (b := σ.2.1.1) (by omega) (by omega)).mp h4
        omega
      refine w_f (by decide) ?_
      refine w_let ?_
      rw [nI_1, show (4 : Int32) = nI 4 from rfl, irem_n (by omega) (by omega) (by omega)]
      have hf : Fr 20 88 μ (h_wi m 86 1 (nI ((o + 1) % 4))) := g1.trans (Fr.wi (by omega) (by omega)) (by omega) (by omega) (Nat.le_refl 20) (Nat.le_refl 88)
      have hf2 : ∀ c, c ≠ 86 → (h_wi m 86 1 (nI ((o + 1) % 4))).1 c = m.1 c := fun c hcn => wi_o _ _ hcn
      refine w_ret (hQ _ ⟨fun i hi => (c1 i hi).fr hf (by omega), ⟨(o + 1) % 4, Nat.mod_lt _ (by omega), wi_s _ _ _ _, ?_, ?_⟩, c5.fr hf (by omega)⟩ hf)
      · rw [wi_n _ _ (by omega), r2]
        show _ = nI (pushH σ.2.1 σ.1).1
        unfold pushH
        rw [if_pos e4, e4]
      · intro j i hj hi
        have hfm : Fr 86 87 m (h_wi m 86 1 (nI ((o + 1) % 4))) := Fr.wi (by omega) (by omega)
        show CG _ _ ((pushH σ.2.1 σ.1).2 j i)
        have hj' : j < 4 := by
          have : j < (pushH σ.2.1 σ.1).1 := hj
          unfold pushH at this
          rw [if_pos e4] at this
          exact this
        unfold pushH
        rw [if_pos e4]
        show CG _ _ ((if j = 3 then σ.1 else σ.2.1.2 (j + 1)) i)
        by_cases e3 : j = 3
        · rw [if_pos e3]
          have e5 : ((o + 1) % 4 + j) % 4 = s := by omega
          rw [e5]
          exact (g2 i hi).fr hfm (by omega)
        · rw [if_neg e3]
          have e5 : ((o + 1) % 4 + j) % 4 = (o + (j + 1)) % 4 := by omega
          rw [e5]
          refine ((c4 (j + 1) i (by omega) hi).fr g1 ?_).fr hfm (by omega)
          omega
    · have e4 : ¬ σ.2.1.1 = 4 := fun h => h4 (by rw [h]; decide)
      refine w_let ?_
      rw [nI_1]
      have hf : Fr 20 88 μ (h_wi m 86 2 (nI (σ.2.1.1 + 1))) := g1.trans (Fr.wi (by omega) (by omega)) (by omega) (by omega) (Nat.le_refl 20) (Nat.le_refl 88)
      have hfm : Fr 86 87 m (h_wi m 86 2 (nI (σ.2.1.1 + 1))) := Fr.wi (by omega) (by omega)
      refine w_ret (hQ _ ⟨fun i hi => (c1 i hi).fr hf (by omega), ⟨o, ho, ?_, ?_, ?_⟩, c5.fr hf (by omega)⟩ hf)
      · rw [wi_n _ _ (by omega), r1]
      · rw [wi_s]
        show _ = nI (pushH σ.2.1 σ.1).1
        unfold pushH
        rw [if_neg e4]
      · intro j i hj hi
        show CG _ _ ((pushH σ.2.1 σ.1).2 j i)
        have hj' : j < σ.2.1.1 + 1 := by
          have : j < (pushH σ.2.1 σ.1).1 := hj
          unfold pushH at this
          rw [if_neg e4] at this
          exact this
        unfold pushH
        rw [if_neg e4]
        show CG _ _ ((if j = σ.2.1.1 then σ.1 else σ.2.1.2 j) i)
        by_cases e3 : j = σ.2.1.1
        · rw [if_pos e3, e3, hs]
          exact (g2 i hi).fr hfm (by omega)
        · rw [if_neg e3]
          refine ((c4 j i (by omega) hi).fr g1 ?_).fr hfm (by omega)
          omega
  · rintro f i m hi ⟨g1, g2⟩ ih
    show wp (f_History_save_L14_b f_History_save_J41 (f_History_save_L14 f_History_save_J41 f) (nI s) (nI i) m) Q
    unfold f_History_save_L14_b
    refine w_f (nI_ge (b := 4) hi (by omega)) ?_
    rw [x4, cl_8 (by omega), cl_8 (by omega), el87, el85]
    refine w_chk (in_N (by rw [show h_len 87 = 16 from rfl]; omega) (by decide)) ?_
    refine w_chk (in_N (by rw [show h_len 85 = 4 from rfl]; omega) (by decide)) ?_
    refine w_bdk (s_copyFrom (isg_h (by omega)) (isg_g hi) (by omega) ((c1 i hi).fr g1 (by omega)) (k1 i hi).1 (fun m1 a1 a2 => ?_))
    refine w_let ?_
    rw [nI_1]
    refine ih m1 ⟨g1.trans a2 (by omega) (by omega) (by omega) (by omega), fun j hj => ?_⟩
    by_cases e : j = i
    · rw [e]; exact a1
    · exact (g2 j (by omega)).fr a2 (by omega)
theorem s_restore {σ : HS} {μ : HMem} (ok : OKs σ) (hc : CS σ μ) (h0 : 0 < σ.2.1.1) {Q : Unit → HMem → Prop} (hQ : ∀ μ', CS (σ.2.1.2 (σ.2.1.1 - 1), (σ.2.1.1 - 1, σ.2.1.2), σ.2.2) μ' → Fr 0 87 μ μ' → Q () μ') : wp (f_History_restore μ) Q := by
  obtain ⟨k1, k2, k3, k4⟩ := ok
  obtain ⟨c1, ⟨o, ho, c2, c3, c4⟩, c5⟩ := hc
  unfold f_History_restore
  refine w_let ?_
  have e1 : μ.1 86 2 - 1 = nI (σ.2.1.1 - 1) := by
    rw [c3]
    obtain ⟨n, hn⟩ : ∃ n, σ.2.1.1 = n + 1 := ⟨σ.2.1.1 - 1, by omega⟩
    rw [hn, nI_pred]
    rfl
  rw [e1]
  have hf0 : Fr 86 87 μ (h_wi μ 86 2 (nI (σ.2.1.1 - 1))) := Fr.wi (by omega) (by omega)
  generalize hμ : h_wi μ 86 2 (nI (σ.2.1.1 - 1)) = μ1 at hf0
  have r1 : μ1.1 86 1 = nI o := by rw [← hμ, wi_n _ _ (by omega)]; exact c2
  have r2 : μ1.1 86 2 = nI (σ.2.1.1 - 1) := by rw [← hμ, wi_s]
  refine w_f (by decide) ?_
  refine w_let ?_
  rw [r1, r2, nI_add, show (4 : Int32) = nI 4 from rfl, irem_n (by omega) (by omega) (by omega)]
  generalize hs : (o + (σ.2.1.1 - 1)) % 4 = s
  have hs4 : s < 4 := by rw [← hs]; exact Nat.mod_lt _ (by omega)
  have c4' : ∀ i, i < 4 → CG μ1 (20 + 4 * (4 * s + i)) (σ.2.1.2 (σ.2.1.1 - 1) i) := by
    intro i hi
    rw [← hs]
    exact (c4 _ i (by omega) hi).fr hf0 (by omega)
  refine w_for (fun f i (m : HMem) => wp (f_History_restore_L24 f (nI s) (nI i) m) Q) (fun i m => Fr 0 16 μ1 m ∧ ∀ j, j < i → CG m (4 * j) (σ.2.1.2 (σ.2.1.1 - 1) j)) 4 ?_ ?_ 0 μ1 (by omega) (by omega) ⟨Fr.refl _ _ _, fun j hj => absurd hj (Nat.not_lt_zero _)⟩
  · rintro f m ⟨g1, g2⟩
    show wp (f_History_restore_L24_b (f_History_restore_L24 f) (nI s) (nI 4) m) Q
    unfold f_History_restore_L24_b
    refine w_t (by decide) ?_
    have hf : Fr 0 87 μ m := hf0.trans g1 (by omega) (by omega) (by omega) (by omega)
    refine w_ret (hQ _ ⟨g2, ⟨o, ho, ?_, ?_, ?_⟩, c5.fr hf (by omega)⟩ hf)
    · rw [g1.i (by omega)]; exact r1
    · rw [g1.i (by omega)]; exact r2
    · intro j i hj hi
      have hj' : j < σ.2.1.1 - 1 := hj
      exact ((c4 j i (by omega) hi).fr hf0 (by omega)).fr g1 (by omega)
  · rintro f i m hi ⟨g1, g2⟩ ih
    show wp (f_History_restore_L24_b (f_History_restore_L24 f) (nI s) (nI i) m) Q
    unfold f_History_restore_L24_b
    refine w_f (nI_ge (b := 4) hi (by omega)) ?_
    rw [x4, cl_8 (by omega), cl_8 (by omega), el87, el85]
    refine w_chk (in_N (by rw [show h_len 85 = 4 from rfl]; omega) (by decide)) ?_
    refine w_chk (in_N (by rw [show h_len 87 = 16 from rfl]; omega) (by decide)) ?_
    refine w_bdk (s_copyFrom (isg_g hi) (isg_h (by omega)) (by omega) ((c4' i hi).fr g1 (by omega)) (k3 _ i (by omega) hi).1 (fun m1 a1 a2 => ?_))
    refine w_let ?_
    rw [nI_1]
    refine ih m1 ⟨g1.trans a2 (by omega) (by omega) (by omega) (by omega), fun j hj => ?_⟩
    by_cases e : j = i
    · rw [e]; exact a1
    · exact (g2 j (by omega)).fr a2 (by omega)
