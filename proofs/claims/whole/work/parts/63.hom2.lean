/-! 63: the search for a homomorphism (the class), the rest -/
/-- two images that can change places -/
def Sw (A : Nat → Bool) (T dm : Nat → Nat → Bool) (a b : Nat) : Prop := (∀ i, i ≠ a → i ≠ b → T a i = T b i) ∧ T a a = T b b ∧ ∀ v, A v = true → dm v a = dm v b
theorem bI_inj {a b : Bool} (h : bI a = bI b) : a = b := by
  revert h
  cases a <;> cases b <;> decide
theorem cn1 {p : Nat → Bool} {n : Nat} (h : cn p n ≤ 1) {a b : Nat} (ha : p a = true) (hb : p b = true) (ha8 : a < n) (hb8 : b < n) : a = b := by
  rcases Nat.lt_trichotomy a b with h1 | h1 | h1
  · have := cn_st ha h1
    have := cn_st hb hb8
    omega
  · exact h1
  · have := cn_st hb h1
    have := cn_st ha ha8
    omega
theorem s_inter {μ : HMem} {A : Nat → Bool} {F T : Nat → Nat → Bool} {B : Nat → Bool} (hV : HV A F T B) (hm : HM A F T μ) {d : Nat} (hd : d < 9) {dm : Nat → Nat → Bool} (hD : DR μ (108 + d) dm) {a b : Nat} (ha : a < 8) (hb : b < 8) {Q : Int32 → HMem → Prop} (hQ : ∀ r, (r = true → Sw A T dm a b) → Q (bI r) μ) : wp (f_HomSearch_interchangeable (108 + d) (nI a) (nI b) μ) Q := by
  have hl := len_d d hd
  unfold f_HomSearch_interchangeable f_HomSearch_interchangeable_J53
  refine w_let ?_
  refine w_chk (in_8 ha rfl) ?_
  refine w_chk (in_8 hb rfl) ?_
  rw [cl_8 (u := a) (by omega), cl_8 (u := b) (by omega)]
  refine w_if (fun h0 => ?_) (fun h0 => ?_)
  · rw [e_J0]
    exact w_ret (hQ false (fun h => (by cases h)))
  · have h0 := Classical.not_not.mp h0
    rw [b_eq0] at h0
    refine w_chk (in_8 ha rfl) ?_
    refine w_bde (e_has _ (by omega) _) ?_
    refine w_chk (in_8 hb rfl) ?_
    refine w_bde (e_has _ (by omega) _) ?_
    rw [hm.2.2 a ha a, hm.2.2 b hb b]
    refine w_if (fun h1 => ?_) (fun h1 => ?_)
    · have h1 := bI_inj h1
      have hrow : ∀ i, i ≠ a → i ≠ b → T a i = T b i := fun i e1 e2 => by
        rcases Nat.lt_or_ge i 32 with h | h
        · have := h0 i h
          rw [b_not, b_xor, b_or, b_one (by omega), b_one (by omega), hm.2.2 a ha i, hm.2.2 b hb i] at this
          revert this
          cases T a i <;> cases T b i <;> simp [e1, e2]
        · cases h3 : T a i with
          | true => have := hV.2.2.2.1 a i h3; omega
          | false =>
            cases h4 : T b i with
            | true => have := hV.2.2.2.1 b i h4; omega
            | false => rfl
      refine w_for (fun f v (_ : Unit) => wp (f_HomSearch_interchangeable_L58 f (108 + d) (nI a) (nI b) (nI v) μ) Q) (fun v _ => ∀ u, u < v → A u = true → dm u a = dm u b) 8 ?_ ?_ 0 () (by omega) (by omega) (fun u hu => absurd hu (Nat.not_lt_zero _))
      · intro f _ hI
        show wp (f_HomSearch_interchangeable_L58_b (f_HomSearch_interchangeable_L58 f) (108 + d) (nI a) (nI b) (nI 8) μ) Q
        unfold f_HomSearch_interchangeable_L58_b
        refine w_t (by decide) ?_
        rw [e_J1]
        exact w_ret (hQ true (fun _ => ⟨hrow, h1, fun v hv => hI v (hV.1 v hv) hv⟩))
      · intro f v _ hv hI ih
        show wp (f_HomSearch_interchangeable_L58_b (f_HomSearch_interchangeable_L58 f) (108 + d) (nI a) (nI b) (nI v) μ) Q
        unfold f_HomSearch_interchangeable_L58_b f_HomSearch_interchangeable_J98
        refine w_f (nI_ge (b := 8) hv (by omega)) ?_
        refine w_bde (e_has _ (by omega) _) ?_
        rw [hm.1 v]
        refine w_if (fun h2 => ?_) (fun h2 => ?_)
        · rw [bI_0] at h2
          refine w_let ?_
          rw [nI_1]
          refine ih () (fun u hu hA => ?_)
          rcases Nat.lt_or_ge u v with h3 | h3
          · exact hI u h3 hA
          · have : u = v := by omega
            subst this
            rw [h2] at hA
            cases hA
        · refine w_chk (by rw [hl]; exact in_N (by omega) (by omega)) ?_
          rw [cl_8 (by omega)]
          refine w_bde (e_has _ (by omega) _) ?_
          refine w_chk (by rw [hl]; exact in_N (by omega) (by omega)) ?_
          refine w_bde (e_has _ (by omega) _) ?_
          rw [hD v hv a, hD v hv b]
          refine w_if (fun h3 => ?_) (fun h3 => ?_)
          · have h3 := bI_inj h3
            refine w_let ?_
            rw [nI_1]
            refine ih () (fun u hu hA => ?_)
            rcases Nat.lt_or_ge u v with h4 | h4
            · exact hI u h4 hA
            · have : u = v := by omega
              subst this
              exact h3
          · rw [e_J0]
            exact w_ret (hQ false (fun h => (by cases h)))
    · rw [e_J0]
      exact w_ret (hQ false (fun h => (by cases h)))
theorem s_likeOneOf {μ : HMem} {A : Nat → Bool} {F T : Nat → Nat → Bool} {B : Nat → Bool} (hV : HV A F T B) (hm : HM A F T μ) {d : Nat} (hd : d < 9) {dm : Nat → Nat → Bool} (hD : DR μ (108 + d) dm) {t : Nat} (ht : t < 8) (fa : Int32) {Q : Int32 → HMem → Prop} (hQ : ∀ r, (r = true → ∃ o, o < t ∧ bt fa o = true ∧ Sw A T dm t o) → Q (bI r) μ) : wp (f_HomSearch_likeOneOf (108 + d) (nI t) fa μ) Q := by
  unfold f_HomSearch_likeOneOf
  refine w_for (fun f o (_ : Unit) => wp (f_HomSearch_likeOneOf_L3 f (108 + d) (nI t) fa (nI o) μ) Q) (fun o _ => True) t ?_ ?_ 0 () (by omega) (by omega) trivial
  · intro f _ _
    show wp (f_HomSearch_likeOneOf_L3_b (f_HomSearch_likeOneOf_L3 f) (108 + d) (nI t) fa (nI t) μ) Q
    unfold f_HomSearch_likeOneOf_L3_b
    refine w_t (nI_le (Nat.le_refl _) (by omega)) ?_
    rw [e_J0]
    exact w_ret (hQ false (fun h => (by cases h)))
  · intro f o _ ho _ ih
    show wp (f_HomSearch_likeOneOf_L3_b (f_HomSearch_likeOneOf_L3 f) (108 + d) (nI t) fa (nI o) μ) Q
    unfold f_HomSearch_likeOneOf_L3_b f_HomSearch_likeOneOf_J31
    refine w_f (nI_ge ho (by omega)) ?_
    refine w_bde (e_has _ (by omega) _) ?_
    have go : wp (h_let (nI o + 1) (fun v4_31 => f_HomSearch_likeOneOf_L3 f (108 + d) (nI t) fa v4_31 μ)) Q := by
      refine w_let ?_
      rw [nI_1]
      exact ih () trivial
    refine w_if (fun _ => go) (fun h2 => ?_)
    rw [bI_n] at h2
    refine w_bdk (s_inter hV hm hd hD ht (by omega) (fun r hr => ?_))
    refine w_if (fun _ => go) (fun h3 => ?_)
    rw [bI_n] at h3
    rw [e_J1]
    exact w_ret (hQ true (fun _ => ⟨o, ho, h2, hr h3⟩))
/-- one image for a source -/
def st1 (dm : Nat → Nat → Bool) (v t : Nat) : Nat → Nat → Bool := fun u s => if u = v then decide (s = t) else dm u s
theorem Sol_st1 {A : Nat → Bool} {F T dm : Nat → Nat → Bool} {v t : Nat} (hv : A v = true) (ht : dm v t = true) (f : Nat → Nat) : Sol A F T (st1 dm v t) f ↔ Sol A F T dm f ∧ f v = t := by
  constructor
  · rintro ⟨h1, h2⟩
    have e : f v = t := by
      have := h1 v hv
      unfold st1 at this
      rw [if_pos rfl] at this
      exact of_decide_eq_true this
    refine ⟨⟨fun u hu => ?_, h2⟩, e⟩
    have := h1 u hu
    unfold st1 at this
    by_cases h : u = v
    · subst h
      rw [e]
      exact ht
    · rwa [if_neg h] at this
  · rintro ⟨⟨h1, h2⟩, e⟩
    refine ⟨fun u hu => ?_, h2⟩
    unfold st1
    by_cases h : u = v
    · subst h
      rw [if_pos rfl]
      exact decide_eq_true e
    · rw [if_neg h]
      exact h1 u hu
theorem Sw.sol {A : Nat → Bool} {F T : Nat → Nat → Bool} {B : Nat → Bool} (hV : HV A F T B) {dm : Nat → Nat → Bool} (hB : ∀ v t, A v = true → dm v t = true → B t = true) {a b v : Nat} (hv : A v = true) (h : Sw A T dm a b) {f : Nat → Nat} (hf : Sol A F T dm f) (hfv : f v = a) : ∃ f', Sol A F T dm f' ∧ f' v = b := by
  obtain ⟨h1, h2, h3⟩ := h
  have da : dm v a = true := by rw [← hfv]; exact hf.1 v hv
  have db : dm v b = true := by rw [← h3 v hv]; exact da
  have Ba := hB v a hv da
  have Bb := hB v b hv db
  have sy := hV.2.2.2.2.1
  have key : ∀ x y, B x = true → B y = true → T x y = true → T (if x = a then b else if x = b then a else x) (if y = a then b else if y = b then a else y) = true := by
    intro x y bx by' hT
    by_cases xa : x = a
    · subst xa
      rw [if_pos rfl]
      by_cases ya : y = x
      · rw [if_pos ya, ← h2]
        rwa [ya] at hT
      · rw [if_neg ya]
        by_cases yb : y = b
        · rw [if_pos yb, sy b x Bb Ba]
          rwa [yb] at hT
        · rw [if_neg yb, ← h1 y ya yb]
          exact hT
    · rw [if_neg xa]
      by_cases xb : x = b
      · subst xb
        rw [if_pos rfl]
        by_cases ya : y = a
        · rw [if_pos ya, sy a x Ba bx]
          rwa [ya] at hT
        · rw [if_neg ya]
          by_cases yb : y = x
          · rw [if_pos yb, h2]
            rwa [yb] at hT
          · rw [if_neg yb, h1 y ya yb]
            exact hT
      · rw [if_neg xb]
        by_cases ya : y = a
        · rw [if_pos ya, sy x b bx Bb, ← h1 x xa xb, sy a x Ba bx]
          rwa [ya] at hT
        · rw [if_neg ya]
          by_cases yb : y = b
          · rw [if_pos yb, sy x a bx Ba, h1 x xa xb, sy b x Bb bx]
            rwa [yb] at hT
          · rw [if_neg yb]
            exact hT
  refine ⟨fun u => if f u = a then b else if f u = b then a else f u, ⟨fun u hu => ?_, fun u w hu hF => ?_⟩, ?_⟩
  · show dm u (if f u = a then b else if f u = b then a else f u) = true
    have := hf.1 u hu
    by_cases e1 : f u = a
    · rw [if_pos e1, ← h3 u hu, ← e1]
      exact this
    · rw [if_neg e1]
      by_cases e2 : f u = b
      · rw [if_pos e2, h3 u hu, ← e2]
        exact this
      · rw [if_neg e2]
        exact this
  · exact key (f u) (f w) (hB u _ hu (hf.1 u hu)) (hB w _ (hV.2.1 u w hu hF) (hf.1 w (hV.2.1 u w hu hF))) (hf.2 u w hu hF)
  · show (if f v = a then b else if f v = b then a else f v) = b
    rw [if_pos hfv]
theorem Cons.sol {A : Nat → Bool} {F T : Nat → Nat → Bool} {B : Nat → Bool} (hV : HV A F T B) {dm : Nat → Nat → Bool} (h8 : D8 dm) (h : Cons A F T dm) (h1 : ∀ v, A v = true → cn (dm v) 8 ≤ 1) : ∃ f, Sol A F T dm f := by
  refine ⟨fun v => lst (fun t => dm v t = true) 8, fun v hv => ?_, fun v u hv hF => ?_⟩
  · obtain ⟨⟨t, ht⟩, _⟩ := h v hv
    have := h8 v t (hV.1 v hv) ht
    rcases lst_sp (fun t => dm v t = true) 8 with ⟨_, h2, _⟩ | ⟨_, h2⟩
    · exact h2
    · exact absurd ht (h2 t this)
  · have hu := hV.2.1 v u hv hF
    have in' : ∀ w, A w = true → dm w (lst (fun t => dm w t = true) 8) = true := fun w hw => by
      obtain ⟨⟨t, ht⟩, _⟩ := h w hw
      have := h8 w t (hV.1 w hw) ht
      rcases lst_sp (fun t => dm w t = true) 8 with ⟨_, h2, _⟩ | ⟨_, h2⟩
      · exact h2
      · exact absurd ht (h2 t this)
    obtain ⟨s, hs, h3, h4⟩ := (h v hv).2 u _ (hV.1 u hu) hF (in' u hu)
    have e : lst (fun t => dm v t = true) 8 = s := cn1 (h1 v hv) (in' v hv) h3 (h8 v _ (hV.1 v hv) (in' v hv)) hs
    show T (lst (fun t => dm v t = true) 8) _ = true
    rw [e]
    exact h4
/-- the sources with one image -/
def sg (A : Nat → Bool) (dm : Nat → Nat → Bool) : Nat := cn (fun v => A v && decide (cn (dm v) 8 ≤ 1)) 8
theorem sg_le {A : Nat → Bool} {dm dm' : Nat → Nat → Bool} (h : ∀ u t, u < 8 → dm' u t = true → dm u t = true) : sg A dm ≤ sg A dm' := by
  refine cn_mono (fun v hv hp => ?_)
  rw [Bool.and_eq_true, decide_eq_true_iff] at hp
  rw [Bool.and_eq_true, decide_eq_true_iff]
  exact ⟨hp.1, Nat.le_trans (cn_mono (fun t _ => h v t hv)) hp.2⟩
theorem cn_one1 (t : Nat) : ∀ n, cn (fun s => decide (s = t)) n ≤ 1 := by
  intro n
  rcases Nat.lt_or_ge (cn (fun s => decide (s = t)) n) 2 with h | h
  · omega
  · obtain ⟨_, h1, h2⟩ := sel_sp (p := fun s => decide (s = t)) (n := n) (i := 0) (by omega)
    obtain ⟨_, h3, h4⟩ := sel_sp (p := fun s => decide (s = t)) (n := n) (i := 1) (by omega)
    have h1 := of_decide_eq_true h1
    have h3 := of_decide_eq_true h3
    rw [h1] at h2
    rw [h3] at h4
    omega
theorem sg_lt {A : Nat → Bool} {dm : Nat → Nat → Bool} {v t : Nat} (hv : A v = true) (h8 : v < 8) (h : 1 < cn (dm v) 8) : sg A dm < sg A (st1 dm v t) := by
  refine cn_lt (fun u hu hp => ?_) ⟨v, h8, ?_, ?_⟩
  · rw [Bool.and_eq_true, decide_eq_true_iff] at hp
    rw [Bool.and_eq_true, decide_eq_true_iff]
    refine ⟨hp.1, ?_⟩
    by_cases e : u = v
    · subst e; omega
    · have : cn (st1 dm v t u) 8 = cn (dm u) 8 := cn_ext (fun s _ => by unfold st1; rw [if_neg e])
      rw [this]
      exact hp.2
  · rw [hv, Bool.true_and, decide_eq_false_iff_not]
    omega
  · rw [hv, Bool.true_and, decide_eq_true_iff]
    have : cn (st1 dm v t v) 8 = cn (fun s => decide (s = t)) 8 := cn_ext (fun s _ => by unfold st1; rw [if_pos rfl])
    rw [this]
    exact cn_one1 t 8
theorem s_extend {A : Nat → Bool} {F T : Nat → Nat → Bool} {B : Nat → Bool} (hV : HV A F T B) : ∀ (rd d g : Nat) (dm : Nat → Nat → Bool) (μ : HMem), 9 ≤ rd + d → (g = 106 ∨ (g = 107 + d ∧ 0 < d)) → HM A F T μ → DR μ g dm → D8 dm → (∀ v t, A v = true → dm v t = true → B t = true) → d ≤ sg A dm → ∀ Q : Int32 → HMem → Prop, (∀ b μ', (b = true ↔ ∃ f, Sol A F T dm f) → Fr (108 + d) 117 μ μ' → Q (bI b) μ') → wp (f_HomSearch_extendable rd g (nI d) μ) Q
  | 0, d, g, dm, μ, hr, hg, hm, hD, h8, hB, hs, Q, hQ => by
    have := cn_le (fun v => A v && decide (cn (dm v) 8 ≤ 1)) 8
    unfold sg at hs
    omega
  | rd + 1, d, g, dm, μ, hr, hg, hm, hD, h8, hB, hs, Q, hQ => by
    have hs8 := cn_le (fun v => A v && decide (cn (dm v) 8 ≤ 1)) 8
    have hd : d < 9 := by unfold sg at hs; omega
    have hl := len_d d hd
    have hlg : h_len g = 8 := by
      rcases hg with h1 | ⟨h1, h2⟩
      · rw [h1]; rfl
      · have := len_d (d - 1) (by omega)
        rw [show 108 + (d - 1) = g by omega] at this
        exact this
    have hne : g ≠ 108 + d := by rcases hg with h1 | ⟨h1, h2⟩ <;> omega
    show wp (f_HomSearch_extendable_0 (f_HomSearch_extendable rd) g (nI d) μ) Q
    unfold f_HomSearch_extendable_0
    rw [show h_len 107 = 9 from rfl]
    refine w_t (nI_lt hd (by omega)) ?_
    refine w_chk (in_N hd (by omega)) ?_
    rw [cl_8 (by omega), show h_el 107 d = 108 + d from rfl, hlg, hl]
    refine w_chk2 (by decide) ?_
    refine w_let ?_
    rw [show (0 : Int32).toNatClampNeg = 0 by decide, show (8 : Int32).toNatClampNeg = 8 by decide]
    have f0 : Fr (108 + d) (109 + d) μ (h_cpi μ g 0 (108 + d) 0 8) := by
      intro c hc
      have e1 : ¬ c = 108 + d := by omega
      simp [h_cpi, e1]
    have D0 : DR (h_cpi μ g 0 (108 + d) 0 8) (108 + d) dm := by
      intro v hv t
      show bt ((h_cpi μ g 0 (108 + d) 0 8).1 (108 + d) v) t = _
      simp only [h_cpi, if_true]
      rw [pk_cpy_in (by omega) (by omega), show 0 + (v - 0) = v by omega]
      exact hD v hv t
    generalize h_cpi μ g 0 (108 + d) 0 8 = m0 at f0 D0
    refine w_bdk (s_narrow hV (hm.fr f0 (by omega)) hd D0 h8 (fun m1 f1 hno => ?_) (fun dm' m1 D1 f1 hsub hso hcons => ?_))
    · refine w_f (fun h => h rfl) ?_
      rw [e_J0]
      refine w_ret (hQ false m1 ⟨fun h => (by cases h), fun ⟨f, hf⟩ => absurd hf (hno f)⟩ ?_)
      exact (f0.trans f1 (by omega) (by omega) (by omega) (by omega) : Fr (108 + d) (109 + d) μ m1).wide (by omega) (by omega)
    · refine w_t (by decide) ?_
      have f01 : Fr (108 + d) 117 μ m1 := (f0.trans f1 (by omega) (by omega) (by omega) (by omega) : Fr (108 + d) (109 + d) μ m1).wide (by omega) (by omega)
      have hm1 := hm.fr f01 (by omega)
      have h8' : D8 dm' := fun v t hv ht => h8 v t hv (hsub v t hv ht)
      have hB' : ∀ v t, A v = true → dm' v t = true → B t = true := fun v t hv ht => hB v t hv (hsub v t (hV.1 v hv) ht)
      have hsol : ∀ f, Sol A F T dm' f ↔ Sol A F T dm f := fun f => ⟨fun h => ⟨fun v hv => hsub v _ (hV.1 v hv) (h.1 v hv), h.2⟩, hso f⟩
      refine w_bdk (s_openSource hV hm1 hd D1 h8' (fun hall => ?_) (fun v hv hc => ?_))
      · refine w_f (fun h => h rfl) ?_
        rw [e_J1]
        obtain ⟨f, hf⟩ := Cons.sol hV h8' hcons hall
        exact w_ret (hQ true m1 ⟨fun _ => ⟨f, (hsol f).mp hf⟩, fun _ => rfl⟩ f01)
      · have hv8 := hV.1 v hv
        refine w_t (fun h => ?_) ?_
        · have h3 : ∀ k, k < 8 → ¬ nI k = -1 := by decide
          exact h3 v hv8 h
        refine w_chk (in_8 hv8 rfl) ?_
        rw [cl_8 (by omega)]
        refine w_let ?_
        refine w_for (fun f t (y : Int32 × HMem) => wp (f_HomSearch_extendable_L64 (f_HomSearch_extendable rd) f (nI d) (108 + d) (nI v) (m1.1 (108 + d) v) y.1 (nI t) y.2) Q) (fun t y => Fr (108 + d) 117 μ y.2 ∧ DR y.2 (108 + d) dm' ∧ (∀ s, s < 8 → bt y.1 s = true → ∀ f, Sol A F T dm' f → ¬ f v = s) ∧ ∀ s, s < t → ∀ f, Sol A F T dm' f → ¬ f v = s) 8 ?_ ?_ 0 (0, m1) (by omega) (by omega) ⟨f01, D1, fun s _ h => (by rw [b_0] at h; cases h), fun s hs => absurd hs (Nat.not_lt_zero _)⟩
        · rintro f ⟨fa, m⟩ ⟨g1, g2, g3, g4⟩
          show wp (f_HomSearch_extendable_L64_b (f_HomSearch_extendable rd) (f_HomSearch_extendable_L64 (f_HomSearch_extendable rd) f) (nI d) (108 + d) (nI v) (m1.1 (108 + d) v) fa (nI 8) m) Q
          unfold f_HomSearch_extendable_L64_b
          refine w_t (by decide) ?_
          rw [e_J0]
          refine w_ret (hQ false m ⟨fun h => (by cases h), fun ⟨f, hf⟩ => ?_⟩ g1)
          have hf := (hsol f).mpr hf
          exact absurd rfl (g4 (f v) (h8' v _ hv8 (hf.1 v hv)) f hf)
        · rintro f t ⟨fa, m⟩ ht ⟨g1, g2, g3, g4⟩ ih
          show wp (f_HomSearch_extendable_L64_b (f_HomSearch_extendable rd) (f_HomSearch_extendable_L64 (f_HomSearch_extendable rd) f) (nI d) (108 + d) (nI v) (m1.1 (108 + d) v) fa (nI t) m) Q
          unfold f_HomSearch_extendable_L64_b f_HomSearch_extendable_J129
          replace g2 : DR m (108 + d) dm' := g2
          refine w_f (nI_ge (b := 8) ht (by omega)) ?_
          refine w_bde (e_has _ (by omega) _) ?_
          rw [D1 v hv8 t]
          have skip : (∀ f, Sol A F T dm' f → ¬ f v = t) → wp (h_let (nI t + 1) (fun v7_129 => f_HomSearch_extendable_L64 (f_HomSearch_extendable rd) f (nI d) (108 + d) (nI v) (m1.1 (108 + d) v) fa v7_129 m)) Q := by
            intro hn
            refine w_let ?_
            rw [nI_1]
            refine ih (fa, m) ⟨g1, g2, g3, fun s hs' f hf => ?_⟩
            rcases Nat.lt_or_ge s t with h | h
            · exact g4 s h f hf
            · have : s = t := by omega
              subst this
              exact hn f hf
          refine w_if (fun h0 => ?_) (fun h0 => ?_)
          · rw [bI_0] at h0
            refine skip (fun f hf e => ?_)
            have := hf.1 v hv
            rw [e, h0] at this
            cases this
          · rw [bI_n] at h0
            have hmm := hm.fr g1 (by omega)
            refine w_bdk (s_likeOneOf hV hmm hd g2 ht fa (fun r hr => ?_))
            refine w_if (fun h2 => ?_) (fun h2 => ?_)
            · rw [bI_n] at h2
              obtain ⟨o, ho, ho2, hsw⟩ := hr h2
              refine skip (fun f hf e => ?_)
              obtain ⟨f', hf', e'⟩ := hsw.sol hV hB' hv hf e
              exact g3 o (by omega) ho2 f' hf' e'
            · refine w_chk (by rw [hl]; exact in_N (by omega) (by omega)) ?_
              refine w_let ?_
              rw [cl_8 (by omega), nI_1]
              have D2 : DR (h_wi m (108 + d) v (h_ishl 1 (nI t))) (107 + (d + 1)) (st1 dm' v t) := by
                intro u hu s
                rw [show 107 + (d + 1) = 108 + d by omega, wi_e]
                unfold st1
                by_cases e : u = v
                · rw [if_pos ⟨rfl, e⟩, if_pos e]
                  exact b_one (by omega) s
                · rw [if_neg (by omega), if_neg e]
                  exact g2 u hu s
              have h82 : D8 (st1 dm' v t) := fun u s hu h => by
                unfold st1 at h
                by_cases e : u = v
                · rw [if_pos e] at h
                  have := of_decide_eq_true h
                  omega
                · rw [if_neg e] at h
                  exact h8' u s hu h
              have hB2 : ∀ u s, A u = true → st1 dm' v t u s = true → B s = true := fun u s hu h => by
                unfold st1 at h
                by_cases e : u = v
                · rw [if_pos e] at h
                  have := of_decide_eq_true h
                  rw [this]
                  exact hB' v t hv h0
                · rw [if_neg e] at h
                  exact hB' u s hu h
              have hsg : d + 1 ≤ sg A (st1 dm' v t) := by
                have a1 := sg_lt (t := t) hv hv8 hc
                have a2 := sg_le (A := A) hsub
                omega
              have fw : Fr (108 + d) 117 m (h_wi m (108 + d) v (h_ishl 1 (nI t))) := Fr.wi (by omega) (by omega)
              have hm2 := hmm.fr fw (by omega)
              have hrec := s_extend hV rd (d + 1) (107 + (d + 1)) (st1 dm' v t) (h_wi m (108 + d) v (h_ishl 1 (nI t))) (by omega) (Or.inr ⟨rfl, by omega⟩) hm2 D2 h82 hB2 hsg
              rw [show 107 + (d + 1) = 108 + d by omega] at hrec
              refine w_bdk (hrec _ (fun b m3 hb f3 => ?_))
              have f3' : Fr (108 + d) 117 m m3 := fw.trans f3 (by omega) (by omega) (by omega) (by omega)
              refine w_if (fun h3 => ?_) (fun h3 => ?_)
              · rw [bI_0] at h3
                have hnone : ∀ f, Sol A F T dm' f → ¬ f v = t := fun f hf e => by
                  have := hb.mpr ⟨f, (Sol_st1 hv h0 f).mpr ⟨hf, e⟩⟩
                  rw [h3] at this
                  cases this
                refine w_chk (by rw [hl]; exact in_N (by omega) (by omega)) ?_
                refine w_let ?_
                refine w_let ?_
                refine w_let ?_
                rw [nI_1]
                refine ih (fa ||| h_ishl 1 (nI t), h_wi m3 (108 + d) v (m1.1 (108 + d) v)) ⟨(g1.trans f3' (by omega) (by omega) (by omega) (by omega) : Fr (108 + d) 117 μ m3).trans (Fr.wi (a := 108 + d) (b := 117) (by omega) (by omega)) (by omega) (by omega) (by omega) (by omega), fun u hu s => ?_, fun s hs' hbt f hf => ?_, fun s hs' f hf => ?_⟩
                · show bt ((h_wi m3 (108 + d) v (m1.1 (108 + d) v)).1 (108 + d) u) s = _
                  rw [wi_e]
                  by_cases e : u = v
                  · rw [if_pos ⟨rfl, e⟩, e]
                    exact D1 v hv8 s
                  · rw [if_neg (by omega), f3.i (c := 108 + d) (by omega), wi_n _ _ (Or.inr e)]
                    exact g2 u hu s
                · replace hbt : bt (fa ||| h_ishl 1 (nI t)) s = true := hbt
                  rw [b_or, b_one (by omega), Bool.or_eq_true] at hbt
                  rcases hbt with h | h
                  · exact g3 s hs' h f hf
                  · have := of_decide_eq_true h
                    rw [this]
                    exact hnone f hf
                · rcases Nat.lt_or_ge s t with h | h
                  · exact g4 s h f hf
                  · have : s = t := by omega
                    subst this
                    exact hnone f hf
              · rw [bI_n] at h3
                rw [e_J1]
                obtain ⟨f', hf'⟩ := hb.mp h3
                exact w_ret (hQ true m3 ⟨fun _ => ⟨f', (hsol f').mp ((Sol_st1 hv h0 f').mp hf').1⟩, fun _ => rfl⟩ (g1.trans f3' (by omega) (by omega) (by omega) (by omega)))
