/-! 61: treewidth -/
def laP (n : Nat) (E : Nat → Nat → Int32) (bf v w : Nat) : Prop := w < n ∧ ¬ bf.testBit w = true ∧ w ≠ v ∧ ∃ u, u < n ∧ (Rc n E (fun b => bf.testBit b = true) v u ∧ ¬ E u w = 0)
noncomputable def dgN (n : Nat) (E : Nat → Nat → Int32) (bf v : Nat) : Nat := cn (fun w => @decide (laP n E bf v w) (Classical.propDecidable _)) 8
theorem dgN_eq {n : Nat} {E : Nat → Nat → Int32} {bf v : Nat} {p : Nat → Bool} (h : ∀ w, w < 8 → (p w = true ↔ laP n E bf v w)) : cn p 8 = dgN n E bf v := by
  refine cn_ext (fun w hw => ?_)
  rw [Bool.eq_iff_iff, h w hw]
  exact (@decide_eq_true_iff _ (Classical.propDecidable _)).symm
noncomputable def twS (n : Nat) (E : Nat → Nat → Int32) (T : Nat → Nat) (k : Nat) : Nat → Nat
  | 0 => 9
  | v + 1 => if k.testBit v = true then min (twS n E T k v) (max (T (k - 2 ^ v)) (dgN n E (k - 2 ^ v) v + 1)) else twS n E T k v
noncomputable def twF (n : Nat) (E : Nat → Nat → Int32) : Nat → Nat → Nat
  | 0 => fun _ => 0
  | K + 1 => fun k => if k = K then (if K = 0 then 0 else twS n E (twF n E K) K n) else twF n E K k
noncomputable def twN (n : Nat) (E : Nat → Nat → Int32) : Nat := twF n E (2 ^ n) (2 ^ n - 1)
theorem twS_le {n : Nat} {E : Nat → Nat → Int32} {T : Nat → Nat} {k : Nat} : ∀ v, twS n E T k v ≤ 9
  | 0 => Nat.le_refl _
  | v + 1 => by
    have := twS_le (n := n) (E := E) (T := T) (k := k) v
    unfold twS
    split <;> omega
theorem twF_le {n : Nat} {E : Nat → Nat → Int32} : ∀ K k, twF n E K k ≤ 9
  | 0, _ => Nat.zero_le _
  | K + 1, k => by
    show (if k = K then (if K = 0 then 0 else twS n E (twF n E K) K n) else twF n E K k) ≤ 9
    have h1 := twF_le (n := n) (E := E) K k
    have h2 := twS_le (n := n) (E := E) (T := twF n E K) (k := K) n
    split
    · split <;> omega
    · exact h1
theorem minus_k : ∀ k, k < 256 → ∀ v, v < 8 → (nI k &&& (h_ishl 1 (nI v) ^^^ -1)) = nI (if k.testBit v = true then k - 2 ^ v else k) ∧ (k.testBit v = true → k - 2 ^ v < k) := by decide +kernel
theorem tw_le : ∀ a, a < 10 → ∀ b, b < 10 → (nI a - 1 ≤ nI b - 1 ↔ a ≤ b) := by decide +kernel
theorem tw_mm : ∀ a, a < 10 → ∀ b, b < 10 → ∀ c, c < 9 → h_mmin (nI a - 1) (h_mmax (nI b - 1) (nI c)) = nI (min a (max b (c + 1))) - 1 := by decide +kernel
theorem tw_mx : ∀ b, b < 10 → ∀ c, c < 9 → (if nI b - 1 ≤ nI c then nI c else nI b - 1) = nI (max b (c + 1)) - 1 := by decide +kernel
theorem tw_mn : ∀ a, a < 10 → ∀ b, b < 10 → (if nI a - 1 ≤ nI b - 1 then nI a - 1 else nI b - 1) = nI (min a b) - 1 := by decide +kernel
theorem s_later {μ : HMem} {g : Nat} {G : HG} (hg : IsG g) (h : CG μ g G) (hn : G.1 ≤ 8) {v bf : Nat} (hv : v < G.1) (hbf : bf < 256) {Q : Int32 → HMem → Prop} (hQ : Q (nI (dgN G.1 G.2.2 bf v)) μ) : wp (f_Elimination_laterNeighbors g (nI v) (nI bf) μ) Q := by
  unfold f_Elimination_laterNeighbors
  refine w_bdk (s_reached hg h hn hv (nI bf) (fun r hr => ?_))
  refine w_bdk (s_nearOf hg h hn r (fun r2 hr2 => ?_))
  have hS : S8 ((r2 &&& (nI bf ^^^ -1)) &&& (h_ishl 1 (nI v) ^^^ -1)) := by
    intro i hi
    rw [b_not, b_not]
    cases hb : bt r2 i with
    | false => rfl
    | true => obtain ⟨_, _, _, h1, _⟩ := (hr2 i).mp hb; omega
  refine w_bde (f_bitCount hS _) ?_
  have hbs : (fun b => bt (nI bf) b = true) = (fun b => bf.testBit b = true) := funext (fun b => by
    rcases Nat.lt_or_ge b 32 with h1 | h1
    · rw [b_nI _ _ h1]
    · rw [b_big h1]
      have : bf.testBit b = false := Nat.testBit_lt_two_pow (Nat.lt_of_lt_of_le hbf (Nat.le_trans (by decide : 256 ≤ 2 ^ 8) (Nat.pow_le_pow_right (by omega) (by omega))))
      rw [this])
  rw [hbs] at hr
  rw [dgN_eq (n := G.1) (E := G.2.2) (bf := bf) (v := v) (fun w hw => ?_)]
  · exact w_ret hQ
  · rw [b_not, b_not, b_nI _ _ (by omega), b_one (by omega), Bool.and_eq_true, Bool.and_eq_true, hr2 w, Bool.not_eq_true', Bool.not_eq_true', decide_eq_false_iff_not, ← Bool.not_eq_true]
    unfold laP
    constructor
    · rintro ⟨⟨⟨u, h1, h2, h3, h4⟩, h5⟩, h6⟩
      exact ⟨h3, h5, h6, u, h1, (hr u).mp h2, h4⟩
    · rintro ⟨h3, h5, h6, u, h1, h2, h4⟩
      exact ⟨⟨⟨u, h1, (hr u).mpr h2, h3, h4⟩, h5⟩, h6⟩
theorem s_smallestWidth {μ : HMem} {g : Nat} {G : HG} (hg : IsG g) (h : CG μ g G) (hn : G.1 ≤ 8) {Q : Int32 → HMem → Prop} (hQ : ∀ μ', Fr 96 97 μ μ' → Q (nI (twN G.1 G.2.2) - 1) μ') : wp (f_Elimination_smallestWidth g μ) Q := by
  have hg2 := hg.2
  have h256 := p2_8 hn
  have h1p := p2_1 G.1
  unfold f_Elimination_smallestWidth
  refine w_chk (vp_in_nI (n := 0) (N := 256) (by omega) (by omega)) ?_
  refine w_let ?_
  rw [show (0 : Int32).toNatClampNeg = 0 from by decide]
  refine w_for (fun f k (m : HMem) => wp (f_Elimination_smallestWidth_L9 f_Elimination_smallestWidth_J101 f g (nI k) m) Q) (fun k m => 0 < k ∧ Fr 96 97 μ m ∧ ∀ j, j < k → m.1 96 j = nI (twF G.1 G.2.2 k j) - 1) (2 ^ G.1) ?_ ?_ 1 _ (by omega) (by omega) ⟨by omega, Fr.wi (by omega) (by omega), fun j hj => ?_⟩
  · rintro f m ⟨_, g1, g2⟩
    show wp (f_Elimination_smallestWidth_L9_b f_Elimination_smallestWidth_J101 (f_Elimination_smallestWidth_L9 f_Elimination_smallestWidth_J101 f) g (nI (2 ^ G.1)) m) Q
    unfold f_Elimination_smallestWidth_L9_b f_Elimination_smallestWidth_J101
    have hm := h.fr g1 (by omega)
    refine w_bde (e_all hm hn) ?_
    refine w_t (by unfold fullS; exact nI_lt (by omega) (by omega)) ?_
    refine w_bde (e_all hm hn) ?_
    unfold fullS
    refine w_chk (in_N (by rw [show h_len 96 = 256 from rfl]; omega) (by decide)) ?_
    rw [cl_8 (by omega), g2 _ (by omega)]
    exact w_ret (hQ m g1)
  · rintro f k m hk ⟨hk0, g1, g2⟩ ih
    show wp (f_Elimination_smallestWidth_L9_b f_Elimination_smallestWidth_J101 (f_Elimination_smallestWidth_L9 f_Elimination_smallestWidth_J101 f) g (nI k) m) Q
    unfold f_Elimination_smallestWidth_L9_b
    have hm := h.fr g1 (by omega)
    refine w_bde (e_all hm hn) ?_
    refine w_f (by unfold fullS; exact nI_nlt (by omega) (by omega)) ?_
    rw [show (8 : Int32) = nI 9 - 1 from by decide]
    refine w_for (fun f2 v (x : Nat) => wp (f_Elimination_smallestWidth_L23 (f_Elimination_smallestWidth_J88 (f_Elimination_smallestWidth_L9 f_Elimination_smallestWidth_J101 f)) f2 g (nI k) (nI x - 1) (nI v) m) Q) (fun v x => x = twS G.1 G.2.2 (twF G.1 G.2.2 k) k v) G.1 ?_ ?_ 0 9 (by omega) (by omega) rfl
    · rintro f2 x rfl
      show wp (f_Elimination_smallestWidth_L23_b (f_Elimination_smallestWidth_J88 (f_Elimination_smallestWidth_L9 f_Elimination_smallestWidth_J101 f)) (f_Elimination_smallestWidth_L23 (f_Elimination_smallestWidth_J88 (f_Elimination_smallestWidth_L9 f_Elimination_smallestWidth_J101 f)) f2) g (nI k) _ (nI G.1) m) Q
      unfold f_Elimination_smallestWidth_L23_b f_Elimination_smallestWidth_J88
      refine w_t (by rw [hm.1]; exact Int32.le_refl _) ?_
      refine w_chk (in_N (by rw [show h_len 96 = 256 from rfl]; omega) (by decide)) ?_
      refine w_let ?_
      refine w_let ?_
      rw [nI_1, cl_8 (by omega)]
      refine ih _ ⟨by omega, g1.trans (Fr.wi (by omega) (by omega)) (Nat.le_refl _) (Nat.le_refl _) (Nat.le_refl 96) (Nat.le_refl 97), fun j hj => ?_⟩
      rw [wi_e]
      show _ = nI (if j = k then (if k = 0 then 0 else twS G.1 G.2.2 (twF G.1 G.2.2 k) k G.1) else twF G.1 G.2.2 k j) - 1
      by_cases e : j = k
      · rw [if_pos ⟨rfl, e⟩, if_pos e, if_neg (by omega)]
      · rw [if_neg (by omega), if_neg e]; exact g2 j (by omega)
    · rintro f2 v x hv rfl ih'
      show wp (f_Elimination_smallestWidth_L23_b (f_Elimination_smallestWidth_J88 (f_Elimination_smallestWidth_L9 f_Elimination_smallestWidth_J101 f)) (f_Elimination_smallestWidth_L23 (f_Elimination_smallestWidth_J88 (f_Elimination_smallestWidth_L9 f_Elimination_smallestWidth_J101 f)) f2) g (nI k) _ (nI v) m) Q
      unfold f_Elimination_smallestWidth_L23_b f_Elimination_smallestWidth_J82
      obtain ⟨mk1, mk2⟩ := minus_k k (by omega) v (by omega)
      have hS := twS_le (n := G.1) (E := G.2.2) (T := twF G.1 G.2.2 k) (k := k) v
      refine w_f (by rw [hm.1]; exact nI_ge hv (by omega)) ?_
      refine w_let ?_
      rw [mk1]
      cases hb : k.testBit v with
      | false =>
        rw [if_neg Bool.false_ne_true]
        refine w_t rfl ?_
        refine w_let ?_
        rw [nI_1]
        refine ih' _ ?_
        show _ = if k.testBit v = true then _ else twS G.1 G.2.2 (twF G.1 G.2.2 k) k v
        rw [hb, if_neg (fun h => by cases h)]
      | true =>
        have hlt := mk2 hb
        rw [if_pos rfl]
        have hT := twF_le (n := G.1) (E := G.2.2) k (k - 2 ^ v)
        refine w_f (fun e => by have := (nI_eq (by omega) (by omega)).mp e; omega) ?_
        refine w_chk (in_N (by rw [show h_len 96 = 256 from rfl]; omega) (by decide)) ?_
        rw [cl_8 (by omega), g2 _ hlt]
        have hd : dgN G.1 G.2.2 (k - 2 ^ v) v ≤ 8 := cn_le _ 8
        have hnext : twS G.1 G.2.2 (twF G.1 G.2.2 k) k (v + 1) = min (twS G.1 G.2.2 (twF G.1 G.2.2 k) k v) (max (twF G.1 G.2.2 k (k - 2 ^ v)) (dgN G.1 G.2.2 (k - 2 ^ v) v + 1)) := by
          show (if k.testBit v = true then _ else _) = _
          rw [if_pos hb]
        refine w_if (fun hh => ?_) (fun hh => ?_)
        · have hh := (tw_le _ (by omega) _ (by omega)).mp hh
          refine w_let ?_
          rw [nI_1]
          refine ih' _ ?_
          rw [hnext]
          omega
        · refine w_chk (in_N (by rw [show h_len 96 = 256 from rfl]; omega) (by decide)) ?_
          refine w_bdk (s_later hg hm hn hv (by omega) ?_)
          refine w_let ?_
          refine w_let ?_
          rw [nI_1, tw_mm _ (by omega) _ (by omega) _ (by omega)]
          exact ih' _ hnext.symm
  · rw [wi_e, if_pos ⟨rfl, by omega⟩]
    have : j = 0 := by omega
    subst this
    rfl
/-! the reference's -/
def Cc (n : Nat) (E : Nat → Nat → Int32) (P : Nat → Prop) (s w : Nat) : Prop := ∀ X : Nat → Prop, X s → (∀ a b, a < n → b < n → X a → P a → ¬ E a b = 0 → X b) → X w
theorem Cc.base {n : Nat} {E : Nat → Nat → Int32} {P : Nat → Prop} {s : Nat} : Cc n E P s s := fun _ h _ => h
theorem Cc.step {n : Nat} {E : Nat → Nat → Int32} {P : Nat → Prop} {s a b : Nat} (h : Cc n E P s a) (ha : a < n) (hb : b < n) (hp : P a) (e : ¬ E a b = 0) : Cc n E P s b := fun X h0 h1 => h1 a b ha hb (h X h0 h1) hp e
theorem Cc.lt {n : Nat} {E : Nat → Nat → Int32} {P : Nat → Prop} {s v : Nat} (h : Cc n E P s v) (hs : s < n) : v < n := h (fun v => v < n) hs (fun _ _ _ hb _ _ _ => hb)
theorem Cc_la {n : Nat} {E : Nat → Nat → Int32} {bf v w : Nat} (hv : v < n) (h1 : ¬ bf.testBit w = true) (h2 : w ≠ v) : Cc n E (fun a => a = v ∨ bf.testBit a = true) v w ↔ (w < n ∧ ∃ u, u < n ∧ (Rc n E (fun b => bf.testBit b = true) v u ∧ ¬ E u w = 0)) := by
  constructor
  · intro h
    have := h (fun w => w < n ∧ (w = v ∨ ∃ u, u < n ∧ (Rc n E (fun b => bf.testBit b = true) v u ∧ ¬ E u w = 0))) ⟨hv, Or.inl rfl⟩ (fun a b ha hb xa pa e => by
      refine ⟨hb, Or.inr ⟨a, ha, ?_, e⟩⟩
      rcases xa.2 with rfl | ⟨u, hu, hr, he⟩
      · exact Rc.base
      · rcases pa with rfl | pa
        · exact Rc.base
        · exact hr.step hu ha he pa)
    exact ⟨this.1, this.2.resolve_left h2⟩
  · rintro ⟨hw, u, hu, hr, he⟩
    have hcu := hr (fun u => Cc n E (fun a => a = v ∨ bf.testBit a = true) v u ∧ (u = v ∨ bf.testBit u = true)) ⟨Cc.base, Or.inl rfl⟩ (fun a b ha hb xa e sb => ⟨xa.1.step ha hb xa.2 e, Or.inr sb⟩)
    exact hcu.1.step hu hw hcu.2 he
theorem s_comes {μ : HMem} {k : Nat} {G : HG} (hk : k < 6) (hV : GV G) (h : RG (μ.1 126) (73 * k) G) {v bf : Nat} (hv : v < G.1) (hbf : bf < 256) {Q : Int32 → HMem → Prop} (hQ : Q (nI (dgN G.1 G.2.2 bf v)) μ) : wp (f_Model_comes (nI k) (nI bf) (nI v) μ) Q := by
  have hn := hV.1
  unfold f_Model_comes
  refine w_let ?_
  refine w_for (fun f i (x : Int32) => wp (f_Model_comes_L8 f_Model_comes_J83 f (nI k) (nI bf) (nI v) x (nI i) μ) Q)
    (fun i x => (∀ w, bt x w = true → Cc G.1 G.2.2 (fun a => a = v ∨ bf.testBit a = true) v w) ∧ bt x v = true ∧ ((∀ a b, a < G.1 → b < G.1 → bt x a = true → (a = v ∨ bf.testBit a = true) → ¬ G.2.2 a b = 0 → bt x b = true) ∨ i + 1 ≤ cn (bt x) 8)) 8 ?_ ?_ 0 (h_ishl 1 (nI v)) (by omega) (by omega) ?_
  · rintro f x ⟨h1, h2, h3⟩
    show wp (f_Model_comes_L8_b f_Model_comes_J83 (f_Model_comes_L8 f_Model_comes_J83 f) (nI k) (nI bf) (nI v) x (nI 8) μ) Q
    unfold f_Model_comes_L8_b f_Model_comes_J83
    refine w_t (by decide) ?_
    have h4 : ∀ a b, a < G.1 → b < G.1 → bt x a = true → (a = v ∨ bf.testBit a = true) → ¬ G.2.2 a b = 0 → bt x b = true := by
      rcases h3 with h3 | h3
      · exact h3
      · have := cn_le (bt x) 8
        omega
    have hx : ∀ w, bt x w = true ↔ Cc G.1 G.2.2 (fun a => a = v ∨ bf.testBit a = true) v w := fun w => ⟨h1 w, fun hc => hc (fun w => bt x w = true) h2 (fun a b ha hb xa pa e => h4 a b ha hb xa pa e)⟩
    have hS : S8 ((x &&& (nI bf ^^^ -1)) &&& (h_ishl 1 (nI v) ^^^ -1)) := by
      intro i hi
      rw [b_not, b_not]
      cases hb : bt x i with
      | false => rfl
      | true => have := ((hx i).mp hb).lt hv; omega
    refine w_bde (e_bits hS _) ?_
    rw [dgN_eq (n := G.1) (E := G.2.2) (bf := bf) (v := v) (fun w hw => ?_)]
    · exact w_ret hQ
    · rw [b_not, b_not, b_nI _ _ (by omega), b_one (by omega), Bool.and_eq_true, Bool.and_eq_true, hx w, Bool.not_eq_true', Bool.not_eq_true', decide_eq_false_iff_not, ← Bool.not_eq_true]
      unfold laP
      constructor
      · rintro ⟨⟨h5, h6⟩, h7⟩
        obtain ⟨h8, h9⟩ := (Cc_la hv h6 h7).mp h5
        exact ⟨h8, h6, h7, h9⟩
      · rintro ⟨h8, h6, h7, h9⟩
        exact ⟨⟨(Cc_la hv h6 h7).mpr ⟨h8, h9⟩, h6⟩, h7⟩
  · rintro f i x hi ⟨h1, h2, h3⟩ ih
    show wp (f_Model_comes_L8_b f_Model_comes_J83 (f_Model_comes_L8 f_Model_comes_J83 f) (nI k) (nI bf) (nI v) x (nI i) μ) Q
    unfold f_Model_comes_L8_b
    refine w_f (nI_ge (b := 8) hi (by omega)) ?_
    refine w_for (fun f2 j (z : Int32) => wp (f_Model_comes_L18 (f_Model_comes_J77 (f_Model_comes_L8 f_Model_comes_J83 f)) f2 (nI k) (nI bf) (nI v) z (nI i) (nI j) μ) Q)
      (fun j z => (∀ w, bt x w = true → bt z w = true) ∧ (∀ w, bt z w = true → Cc G.1 G.2.2 (fun a => a = v ∨ bf.testBit a = true) v w) ∧ (∀ a b, a < j → b < G.1 → bt x a = true → (a = v ∨ bf.testBit a = true) → ¬ G.2.2 a b = 0 → bt z b = true) ∧ ((∀ a b, a < G.1 → b < G.1 → bt x a = true → (a = v ∨ bf.testBit a = true) → ¬ G.2.2 a b = 0 → bt x b = true) → z = x)) G.1 ?_ ?_ 0 x (by omega) (by omega) ?_
    · rintro f2 z ⟨g1, g2, g3, g4⟩
      show wp (f_Model_comes_L18_b (f_Model_comes_J77 (f_Model_comes_L8 f_Model_comes_J83 f)) (f_Model_comes_L18 (f_Model_comes_J77 (f_Model_comes_L8 f_Model_comes_J83 f)) f2) (nI k) (nI bf) (nI v) z (nI i) (nI G.1) μ) Q
      unfold f_Model_comes_L18_b f_Model_comes_J77
      refine w_bde (e_msize hk h) ?_
      refine w_t (Int32.le_refl _) ?_
      refine w_let ?_
      rw [nI_1]
      refine ih z ⟨g2, g1 v h2, ?_⟩
      by_cases hzx : z = x
      · left
        rw [hzx]
        rw [hzx] at g3
        exact g3
      · right
        have h5 : i + 1 ≤ cn (bt x) 8 := h3.resolve_left (fun hc => hzx (g4 hc))
        have hz8 : S8 z := fun w hw => by
          cases hb : bt z w with
          | false => rfl
          | true => have := (g2 w hb).lt hv; omega
        have := grow8 hz8 g1 (fun e => hzx e.symm)
        omega
    · rintro f2 j z hj ⟨g1, g2, g3, g4⟩ ih'
      show wp (f_Model_comes_L18_b (f_Model_comes_J77 (f_Model_comes_L8 f_Model_comes_J83 f)) (f_Model_comes_L18 (f_Model_comes_J77 (f_Model_comes_L8 f_Model_comes_J83 f)) f2) (nI k) (nI bf) (nI v) z (nI i) (nI j) μ) Q
      unfold f_Model_comes_L18_b f_Model_comes_J67
      refine w_bde (e_msize hk h) ?_
      refine w_f (nI_ge hj (by omega)) ?_
      have skip : ¬ (bt z j = true ∧ (j = v ∨ bf.testBit j = true)) → wp (f_Model_comes_J68 (f_Model_comes_L18 (f_Model_comes_J77 (f_Model_comes_L8 f_Model_comes_J83 f)) f2) (nI k) (nI bf) (nI v) (nI i) (nI j) 0 z μ) Q := by
        intro hno
        unfold f_Model_comes_J68
        refine w_let ?_
        refine w_let ?_
        rw [nI_1]
        have e0 : z ||| 0 = z := b_ext (fun v _ => by rw [b_or, b_0, Bool.or_false])
        rw [e0]
        refine ih' z ⟨g1, g2, fun a b ha hb' xa pa e => ?_, g4⟩
        rcases Nat.lt_or_ge a j with h6 | h6
        · exact g3 a b h6 hb' xa pa e
        · have : a = j := by omega
          subst this
          exact absurd ⟨g1 a xa, pa⟩ hno
      have take : bt z j = true → (j = v ∨ bf.testBit j = true) → wp (f_Model_comes_J57 (f_Model_comes_L18 (f_Model_comes_J77 (f_Model_comes_L8 f_Model_comes_J83 f)) f2) (nI k) (nI bf) (nI v) (nI i) (nI j) z μ) Q := by
        intro hb hp
        unfold f_Model_comes_J57 f_Model_comes_J68
        refine w_bdk (s_near hk hn h hj (fun r hr => ?_))
        refine w_let ?_
        refine w_let ?_
        rw [nI_1]
        have hsym : ∀ u, u < G.1 → (¬ G.2.2 u j = 0 ↔ ¬ G.2.2 j u = 0) := fun u hu => by rw [(hV.2.2 u j hu hj).1]
        refine ih' (z ||| r) ⟨fun w hw => ?_, fun w hw => ?_, fun a b ha hb' xa pa e => ?_, fun hc => ?_⟩
        · rw [b_or, g1 w hw]; rfl
        · rw [b_or, Bool.or_eq_true, hr w] at hw
          rcases hw with hw | ⟨hw, he⟩
          · exact g2 w hw
          · exact (g2 j hb).step hj hw hp ((hsym w hw).mp he)
        · rw [b_or, Bool.or_eq_true, hr b]
          rcases Nat.lt_or_ge a j with h6 | h6
          · exact Or.inl (g3 a b h6 hb' xa pa e)
          · have : a = j := by omega
            subst this
            exact Or.inr ⟨hb', (hsym b hb').mpr e⟩
        · have hz := g4 hc
          subst hz
          refine b_ext (fun w _ => ?_)
          rw [b_or]
          cases hw : bt r w with
          | false => rw [Bool.or_false]
          | true =>
            obtain ⟨h7, h8⟩ := (hr w).mp hw
            rw [hc j w hj h7 hb hp ((hsym w h7).mp h8)]
            rfl
      rw [e_bit z (by omega)]
      refine w_if (fun hb => ?_) (fun hb => ?_)
      · rw [bI_e1] at hb
        exact skip (fun h => by rw [hb] at h; cases h.1)
      · rw [bI_ne1] at hb
        refine w_if (fun e => ?_) (fun e => ?_)
        · exact take hb (Or.inl ((eqI (by omega) (by omega)).mp e))
        · have e : ¬ j = v := fun h => e (by rw [h])
          rw [e_bit (nI bf) (by omega), b_nI _ _ (by omega)]
          refine w_if (fun hb2 => ?_) (fun hb2 => ?_)
          · rw [bI_e1] at hb2
            exact skip (fun h => h.2.elim e (fun h => by rw [hb2] at h; cases h))
          · rw [bI_ne1] at hb2
            exact take hb (Or.inr hb2)
    · exact ⟨fun _ h => h, h1, fun a b ha => absurd ha (Nat.not_lt_zero _), fun _ => rfl⟩
  · refine ⟨fun w hw => ?_, ?_, Or.inr ?_⟩
    · rw [b_one (by omega), decide_eq_true_iff] at hw
      subst hw
      exact Cc.base
    · rw [b_one (by omega)]; simp
    · have := cn_lt (p := fun _ => false) (q := bt (h_ishl 1 (nI v))) (n := 8) (fun _ _ h => by cases h) ⟨v, by omega, rfl, by rw [b_one (by omega)]; simp⟩
      omega
theorem s_treewidthOf {μ : HMem} {k : Nat} {G : HG} (hk : k < 6) (hV : GV G) (h : RG (μ.1 126) (73 * k) G) {Q : Int32 → HMem → Prop} (hQ : ∀ μ', Fr 132 133 μ μ' → Q (nI (twN G.1 G.2.2) - 1) μ') : wp (f_Model_treewidthOf (nI k) μ) Q := by
  have hn := hV.1
  have h256 := p2_8 hn
  have h1p := p2_1 G.1
  unfold f_Model_treewidthOf
  refine w_bde (e_msize hk h) ?_
  refine w_let ?_
  rw [all_k _ (by omega)]
  refine w_chk (vp_in_nI (n := 0) (N := 256) (by omega) (by omega)) ?_
  refine w_let ?_
  rw [show (0 : Int32).toNatClampNeg = 0 from by decide]
  have hR : ∀ m, Fr 132 133 μ m → RG (m.1 126) (73 * k) G := fun m hf => by rw [hf.i (by omega)]; exact h
  refine w_for (fun f j (m : HMem) => wp (f_Model_treewidthOf_L19 f (nI k) (fullS G.1) (nI j) m) Q) (fun j m => 0 < j ∧ Fr 132 133 μ m ∧ ∀ i, i < j → m.1 132 i = nI (twF G.1 G.2.2 j i) - 1) (2 ^ G.1) ?_ ?_ 1 _ (by omega) (by omega) ⟨by omega, Fr.wi (by omega) (by omega), fun i hi => ?_⟩
  · rintro f m ⟨_, g1, g2⟩
    show wp (f_Model_treewidthOf_L19_b (f_Model_treewidthOf_L19 f) (nI k) (fullS G.1) (nI (2 ^ G.1)) m) Q
    unfold f_Model_treewidthOf_L19_b fullS
    refine w_t (nI_lt (by omega) (by omega)) ?_
    refine w_chk (in_N (by rw [show h_len 132 = 256 from rfl]; omega) (by decide)) ?_
    rw [cl_8 (by omega), g2 _ (by omega)]
    exact w_ret (hQ m g1)
  · rintro f j m hj ⟨hj0, g1, g2⟩ ih
    show wp (f_Model_treewidthOf_L19_b (f_Model_treewidthOf_L19 f) (nI k) (fullS G.1) (nI j) m) Q
    unfold f_Model_treewidthOf_L19_b
    refine w_f (by unfold fullS; exact nI_nlt (by omega) (by omega)) ?_
    refine w_chk (in_N (by rw [show h_len 132 = 256 from rfl]; omega) (by decide)) ?_
    refine w_let ?_
    rw [cl_8 (by omega), show (8 : Int32) = nI 9 - 1 from by decide]
    have f1 : Fr 132 133 m (h_wi m 132 j (nI 9 - 1)) := Fr.wi (by omega) (by omega)
    refine w_for (fun f2 v (m : HMem) => wp (f_Model_treewidthOf_L35 (f_Model_treewidthOf_J136 (f_Model_treewidthOf_L19 f)) f2 (nI k) (fullS G.1) (nI j) (nI v) m) Q) (fun v m => Fr 132 133 μ m ∧ (∀ i, i < j → m.1 132 i = nI (twF G.1 G.2.2 j i) - 1) ∧ m.1 132 j = nI (twS G.1 G.2.2 (twF G.1 G.2.2 j) j v) - 1) G.1 ?_ ?_ 0 _ (by omega) (by omega) ⟨g1.trans f1 (by omega) (by omega) (by omega) (by omega), fun i hi => by rw [wi_n _ _ (by omega)]; exact g2 i hi, wi_s _ _ _ _⟩
    · rintro f2 m ⟨g1, g2, g3⟩
      show wp (f_Model_treewidthOf_L35_b (f_Model_treewidthOf_J136 (f_Model_treewidthOf_L19 f)) (f_Model_treewidthOf_L35 (f_Model_treewidthOf_J136 (f_Model_treewidthOf_L19 f)) f2) (nI k) (fullS G.1) (nI j) (nI G.1) m) Q
      unfold f_Model_treewidthOf_L35_b f_Model_treewidthOf_J136
      refine w_bde (e_msize hk (hR m g1)) ?_
      refine w_t (Int32.le_refl _) ?_
      refine w_let ?_
      rw [nI_1]
      refine ih m ⟨by omega, g1, fun i hi => ?_⟩
      show _ = nI (if i = j then (if j = 0 then 0 else twS G.1 G.2.2 (twF G.1 G.2.2 j) j G.1) else twF G.1 G.2.2 j i) - 1
      by_cases e : i = j
      · rw [if_pos e, if_neg (by omega), e]; exact g3
      · rw [if_neg e]; exact g2 i (by omega)
    · rintro f2 v m hv ⟨g1, g2, g3⟩ ih'
      show wp (f_Model_treewidthOf_L35_b (f_Model_treewidthOf_J136 (f_Model_treewidthOf_L19 f)) (f_Model_treewidthOf_L35 (f_Model_treewidthOf_J136 (f_Model_treewidthOf_L19 f)) f2) (nI k) (fullS G.1) (nI j) (nI v) m) Q
      unfold f_Model_treewidthOf_L35_b f_Model_treewidthOf_J130
      obtain ⟨mk1, mk2⟩ := minus_k j (by omega) v (by omega)
      refine w_bde (e_msize hk (hR m g1)) ?_
      refine w_f (nI_ge hv (by omega)) ?_
      rw [e_bit (nI j) (by omega), b_nI _ _ (by omega)]
      refine w_if (fun hb => ?_) (fun hb => ?_)
      · rw [bI_e1] at hb
        refine w_let ?_
        rw [nI_1]
        refine ih' m ⟨g1, g2, ?_⟩
        rw [g3]
        show _ = nI (if j.testBit v = true then _ else twS G.1 G.2.2 (twF G.1 G.2.2 j) j v) - 1
        rw [hb, if_neg (fun h => by cases h)]
      · rw [bI_ne1] at hb
        have hlt := mk2 hb
        rw [hb, if_pos rfl] at mk1
        rw [mk1]
        have hT := twF_le (n := G.1) (E := G.2.2) j (j - 2 ^ v)
        have hS := twS_le (n := G.1) (E := G.2.2) (T := twF G.1 G.2.2 j) (k := j) v
        have hd : dgN G.1 G.2.2 (j - 2 ^ v) v ≤ 8 := cn_le _ 8
        have hnext : twS G.1 G.2.2 (twF G.1 G.2.2 j) j (v + 1) = min (twS G.1 G.2.2 (twF G.1 G.2.2 j) j v) (max (twF G.1 G.2.2 j (j - 2 ^ v)) (dgN G.1 G.2.2 (j - 2 ^ v) v + 1)) := by
          show (if j.testBit v = true then _ else _) = _
          rw [if_pos hb]
        refine w_let ?_
        refine w_bdk (s_comes hk hV (hR m g1) hv (by omega) ?_)
        refine w_chk (in_N (by rw [show h_len 132 = 256 from rfl]; omega) (by decide)) ?_
        rw [cl_8 (by omega), g2 _ hlt]
        have mx := tw_mx (twF G.1 G.2.2 j (j - 2 ^ v)) (by omega) (dgN G.1 G.2.2 (j - 2 ^ v) v) (by omega)
        have go : ∀ s0, s0 = nI (max (twF G.1 G.2.2 j (j - 2 ^ v)) (dgN G.1 G.2.2 (j - 2 ^ v) v + 1)) - 1 → wp (f_Model_treewidthOf_J100 (f_Model_treewidthOf_L35 (f_Model_treewidthOf_J136 (f_Model_treewidthOf_L19 f)) f2) (nI k) (fullS G.1) (nI j) (nI v) s0 m) Q := by
          intro s0 hs0
          unfold f_Model_treewidthOf_J100 f_Model_treewidthOf_J129 f_Model_treewidthOf_J130
          rw [cl_8 (by omega), g3, hs0]
          have mn := tw_mn (twS G.1 G.2.2 (twF G.1 G.2.2 j) j v) (by omega) (max (twF G.1 G.2.2 j (j - 2 ^ v)) (dgN G.1 G.2.2 (j - 2 ^ v) v + 1)) (by omega)
          have fin : ∀ z, z = nI (twS G.1 G.2.2 (twF G.1 G.2.2 j) j (v + 1)) - 1 → wp (h_chk (nI j) (h_len 132) (h_let (h_wi m 132 j z) (fun μ_129 => h_let (nI v + 1) (fun v4_130 => f_Model_treewidthOf_L35 (f_Model_treewidthOf_J136 (f_Model_treewidthOf_L19 f)) f2 (nI k) (fullS G.1) (nI j) v4_130 μ_129)))) Q := by
            intro z hz
            refine w_chk (in_N (by rw [show h_len 132 = 256 from rfl]; omega) (by decide)) ?_
            refine w_let ?_
            refine w_let ?_
            rw [nI_1]
            refine ih' _ ⟨g1.trans (Fr.wi (by omega) (by omega)) (Nat.le_refl _) (Nat.le_refl _) (Nat.le_refl 132) (Nat.le_refl 133), fun i hi => by rw [wi_n _ _ (by omega)]; exact g2 i hi, by rw [wi_s, hz]⟩
          refine w_chk (in_N (by rw [show h_len 132 = 256 from rfl]; omega) (by decide)) ?_
          refine w_if (fun hh => ?_) (fun hh => ?_)
          · rw [if_pos hh] at mn
            refine w_chk (in_N (by rw [show h_len 132 = 256 from rfl]; omega) (by decide)) ?_
            exact fin _ (by rw [hnext]; exact mn)
          · rw [if_neg hh] at mn
            exact fin _ (by rw [hnext]; exact mn)
        refine w_if (fun hh => ?_) (fun hh => ?_)
        · rw [if_pos hh] at mx
          exact go _ mx
        · rw [if_neg hh] at mx
          refine w_chk (in_N (by rw [show h_len 132 = 256 from rfl]; omega) (by decide)) ?_
          exact go _ mx
  · rw [wi_e, if_pos ⟨rfl, by omega⟩]
    have : i = 0 := by omega
    subst this
    rfl
theorem LM_treewidth (a : Int32) {μ : HMem} (h : SI μ) : Fc (f_Law_treewidth a μ) (f_Model_treewidth a) := by
  obtain ⟨σ, ok, hc, hr⟩ := h
  unfold Fc f_Law_treewidth f_Bench_treewidth
  rcases ix_g a (n := 4) (by omega) with ha | ⟨i, hi, rfl⟩
  · rw [e_graphAtX ha, bdx_r, bdt_r]
    refine w_ret ?_
    unfold f_Model_treewidth f_Model_treewidth_J24
    rw [e_isGX ha, bd_some]
    exact w_t (by decide) (w_ret (Q_err ok hc hr (by decide) _))
  · rw [e_graphAt hi, bdx_l]
    have hV := ok.1 i hi
    refine LM_obs ok (r := nI (twN (σ.1 i).1 (σ.1 i).2.2) - 1) ?_ (fun m2 c2 r2 => ?_)
    · refine w_bdk (s_smallestWidth (isg_g hi) (hc.1 i hi) hV.1 (fun m1 a1 => ?_))
      exact w_ret ⟨rfl, hc.fr a1 (by omega), hr.fr a1 (by omega)⟩
    · unfold f_Model_treewidth f_Model_treewidth_J24
      rw [e_isG hi, bd_some]
      refine w_f (by decide) ?_
      refine w_bdk (s_treewidthOf (by omega) hV (r2.1 i hi) (fun m3 a1 => ?_))
      refine w_bde (e_tells _ _) ?_
      have f3 := Fs.fr a1 (by omega) (by omega)
      exact w_ret (ob_tell (c2.fs f3) (r2.fs f3) (by rw [f3.out]) _)
