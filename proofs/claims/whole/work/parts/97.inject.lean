/-! 97: count, the class: injective maps and maps onto all -/
theorem cn_add1 {p q : Nat → Bool} {t0 : Nat} (h0 : p t0 = false) : ∀ {n : Nat}, t0 < n → (∀ t, t < n → q t = (p t || decide (t = t0))) → cn q n = cn p n + 1
  | 0, h, _ => absurd h (Nat.not_lt_zero _)
  | n + 1, h, hq => by
    rw [cn_s, cn_s]
    rcases Nat.lt_or_ge t0 n with h1 | h1
    · rw [cn_add1 h0 h1 (fun t ht => hq t (by omega)), hq n (by omega), decide_eq_false (show ¬ n = t0 by omega), Bool.or_false]
      omega
    · have e : t0 = n := by omega
      subst e
      rw [cn_ext (p := q) (q := p) (fun i hi => by rw [hq i (by omega), decide_eq_false (show ¬ i = t0 by omega), Bool.or_false]), hq t0 (by omega), h0, decide_eq_true rfl, if_pos (by decide), if_neg (by decide)]
def imN (N : Nat → Bool) (a : Nat → Nat) (k t : Nat) : Bool := decide (∃ p, p < k ∧ N p = true ∧ a p = t)
theorem imN_t {N : Nat → Bool} {a : Nat → Nat} {k t : Nat} : imN N a k t = true ↔ ∃ p, p < k ∧ N p = true ∧ a p = t := decide_eq_true_iff
def icN (N : Nat → Bool) (a : Nat → Nat) (k : Nat) : Nat := cn (imN N a k) 8
theorem icN_y {N : Nat → Bool} {a : Nat → Nat} {k : Nat} (h8 : a k < 8) (hN : N k = true) (hn : ¬ ∃ p, p < k ∧ N p = true ∧ a p = a k) : icN N a (k + 1) = icN N a k + 1 := by
  refine cn_add1 (t0 := a k) ?_ h8 (fun t _ => bqi ?_)
  · cases h : imN N a k (a k) with
    | false => rfl
    | true => exact absurd (imN_t.mp h) hn
  · rw [Bool.or_eq_true, imN_t, imN_t, decide_eq_true_iff]
    constructor
    · rintro ⟨p, h1, h2, h3⟩
      rcases Nat.lt_or_ge p k with h | h
      · exact Or.inl ⟨p, h, h2, h3⟩
      · have : p = k := by omega
        rw [this] at h3
        exact Or.inr h3.symm
    · rintro (⟨p, h1, h2, h3⟩ | rfl)
      · exact ⟨p, by omega, h2, h3⟩
      · exact ⟨k, by omega, hN, rfl⟩
theorem icN_n {N : Nat → Bool} {a : Nat → Nat} {k : Nat} (hn : N k = true → ∃ p, p < k ∧ N p = true ∧ a p = a k) : icN N a (k + 1) = icN N a k := by
  refine cn_ext (fun t _ => bqi ?_)
  rw [imN_t, imN_t]
  constructor
  · rintro ⟨p, h1, h2, h3⟩
    rcases Nat.lt_or_ge p k with h | h
    · exact ⟨p, h, h2, h3⟩
    · have e : p = k := by omega
      rw [e] at h2 h3
      obtain ⟨q, q1, q2, q3⟩ := hn h2
      exact ⟨q, q1, q2, by rw [q3]; exact h3⟩
  · rintro ⟨p, h1, h2, h3⟩
    exact ⟨p, by omega, h2, h3⟩
theorem icN_eq {N : Nat → Bool} {a : Nat → Nat} : ∀ {k : Nat}, (∀ p, p < k → a p < 8) → icN N a k ≤ cn N k ∧ (icN N a k = cn N k ↔ ∀ u, u < k → N u = true → ¬ ∃ p, p < u ∧ N p = true ∧ a p = a u)
  | 0, _ => by
    have : icN N a 0 = 0 := cn_zero (fun t _ => by
      cases h : imN N a 0 t with
      | false => rfl
      | true => obtain ⟨p, hp, _⟩ := imN_t.mp h; exact absurd hp (Nat.not_lt_zero _))
    rw [this]
    exact ⟨Nat.zero_le _, ⟨fun _ u hu => absurd hu (Nat.not_lt_zero _), fun _ => rfl⟩⟩
  | k + 1, h8 => by
    obtain ⟨i1, i2⟩ := icN_eq (N := N) (a := a) (k := k) (fun p hp => h8 p (by omega))
    rw [cn_s]
    have ext : (∀ u, u < k + 1 → N u = true → ¬ ∃ p, p < u ∧ N p = true ∧ a p = a u) ↔ (∀ u, u < k → N u = true → ¬ ∃ p, p < u ∧ N p = true ∧ a p = a u) ∧ (N k = true → ¬ ∃ p, p < k ∧ N p = true ∧ a p = a k) := ⟨fun h => ⟨fun u hu => h u (by omega), h k (by omega)⟩, fun h u hu => by
      rcases Nat.lt_or_ge u k with h1 | h1
      · exact h.1 u h1
      · have : u = k := by omega
        rw [this]; exact h.2⟩
    rw [ext]
    by_cases hN : N k = true
    · rw [if_pos hN]
      by_cases hn : ∃ p, p < k ∧ N p = true ∧ a p = a k
      · rw [icN_n (fun _ => hn)]
        exact ⟨by omega, ⟨fun h => by omega, fun h => absurd hn (h.2 hN)⟩⟩
      · rw [icN_y (h8 k (by omega)) hN hn]
        refine ⟨by omega, ⟨fun h => ⟨i2.mp (by omega), fun _ => hn⟩, fun h => by rw [i2.mpr h.1]⟩⟩
    · rw [if_neg hN, icN_n (fun h => absurd h hN), Nat.add_zero]
      exact ⟨i1, ⟨fun h => ⟨i2.mp h, fun h2 => absurd h2 hN⟩, fun h => i2.mpr h.1⟩⟩
theorem ic_N (a : Nat → Nat) (k : Nat) : ic a k = icN (fun _ => true) a k := cn_ext (fun t _ => bqi (by
  rw [imB_t, imN_t]
  exact ⟨fun ⟨p, h1, h2⟩ => ⟨p, h1, rfl, h2⟩, fun ⟨p, h1, _, h2⟩ => ⟨p, h1, h2⟩⟩))
def pin (a : Nat → Nat) (k : Nat) : Bool := !imB a k (a k)
theorem pin_t {a : Nat → Nat} {k : Nat} : pin a k = true ↔ ¬ ∃ p, p < k ∧ a p = a k := by
  unfold pin
  rw [Bool.not_eq_true', ← Bool.not_eq_true, imB_t]
theorem ic_inj {a : Nat → Nat} {n : Nat} (h8 : ∀ p, p < n → a p < 8) : ic a n = n ↔ ∀ k, k < n → pin a k = true := by
  have := (icN_eq (N := fun _ => true) (k := n) h8).2
  rw [cn_true] at this
  rw [ic_N, this]
  constructor
  · intro h k hk
    rw [pin_t]
    exact fun ⟨p, h1, h2⟩ => h k hk rfl ⟨p, h1, rfl, h2⟩
  · intro h k hk _ ⟨p, h1, _, h2⟩
    exact pin_t.mp (h k hk) ⟨p, h1, h2⟩
theorem pin_loc : Loc pin := fun a b k h => bqi (by
  rw [pin_t, pin_t]
  constructor
  · rintro h1 ⟨p, h2, h3⟩
    exact h1 ⟨p, h2, by rw [h p (by omega), h k (Nat.le_refl _)]; exact h3⟩
  · rintro h1 ⟨p, h2, h3⟩
    exact h1 ⟨p, h2, by rw [← h p (by omega), ← h k (Nat.le_refl _)]; exact h3⟩)
/-- enough vertices are left for the targets that are left -/
def fe (n M : Nat) (a : Nat → Nat) (k : Nat) : Bool := decide (M ≤ ic a k + (n - k))
def pon (n M : Nat) (a : Nat → Nat) (k : Nat) : Bool := fe n M a (k + 1)
theorem ic_cg {a b : Nat → Nat} {k : Nat} (h : ∀ j, j < k → a j = b j) : ic a k = ic b k := by
  unfold ic
  rw [imB_cg h]
theorem pon_loc (n M : Nat) : Loc (pon n M) := fun a b k h => by
  unfold pon fe
  rw [ic_cg (fun j hj => h j (by omega))]
theorem ic_up {a : Nat → Nat} {k : Nat} (h8 : a k < 8) : ic a (k + 1) ≤ ic a k + 1 := by
  rw [ic_N, ic_N]
  by_cases hn : ∃ p, p < k ∧ (fun _ => true) p = true ∧ a p = a k
  · rw [icN_n (fun _ => hn)]; omega
  · rw [icN_y h8 rfl hn]; omega
theorem ic_ups {a : Nat → Nat} {k : Nat} : ∀ d, (∀ p, p < k + d → a p < 8) → ic a (k + d) ≤ ic a k + d
  | 0, _ => Nat.le_refl _
  | d + 1, h => by
    have h1 := ic_ups (a := a) (k := k) d (fun p hp => h p (by omega))
    have h2 := ic_up (a := a) (k := k + d) (h (k + d) (by omega))
    show ic a (k + d + 1) ≤ _
    omega
theorem ic_on {a : Nat → Nat} {n M : Nat} (hM : M ≤ 8) (h : ∀ p, p < n → a p < M) : ic a n = M ↔ M ≤ ic a n := by
  have : ic a n ≤ M := cn_bd (fun t ht => by
    obtain ⟨p, h1, h2⟩ := imB_t.mp ht
    rw [← h2]; exact h p h1)
  exact ⟨fun h => by omega, fun h => by omega⟩
/-- the local part of a kind -/
def FB (X : HG) (w : Nat → Int64) (g : Nat → Nat → Int64) (p : (Nat → Nat) → Nat → Bool) (a : Nat → Nat) (k : Nat) : Int64 := if p a k = true then fac X.1 (nr X) w g a k else 0
theorem fac_loc {n : Nat} {nb : Nat → Nat → Bool} {w : Nat → Int64} {g : Nat → Nat → Int64} : LocF (fac n nb w g) := fun a b k h => by
  unfold fac
  rw [h k (Nat.le_refl _)]
  congr 1
  refine pL_ext (fun u _ => ?_)
  by_cases e : (nb k u && decide (u ≤ k)) = true
  · rw [if_pos e, if_pos e]
    rw [Bool.and_eq_true, decide_eq_true_iff] at e
    rw [h u e.2]
  · rw [if_neg e, if_neg e]
theorem FB_loc {X : HG} {w : Nat → Int64} {g : Nat → Nat → Int64} {p : (Nat → Nat) → Nat → Bool} (hp : Loc p) : LocF (FB X w g p) := fun a b k h => by
  unfold FB
  rw [hp a b k h, fac_loc a b k h]
theorem FB_all {X : HG} {w : Nat → Int64} {g : Nat → Nat → Int64} {p : (Nat → Nat) → Nat → Bool} {b : Nat → Nat} {n : Nat} (h : ∀ k, k < n → p b k = true) : pL (FB X w g p b) n = pL (fac X.1 (nr X) w g b) n := pL_ext (fun k hk => if_pos (h k hk))
theorem FB_no {X : HG} {w : Nat → Int64} {g : Nat → Nat → Int64} {p : (Nat → Nat) → Nat → Bool} {b : Nat → Nat} {n k : Nat} (hk : k < n) (h : ¬ p b k = true) : pL (FB X w g p b) n = 0 := pL_zero (if_neg h) hk
/-- the class, loaded -/
def CM (X : HG) (M : Nat) (w : Nat → Int64) (g : Nat → Nat → Int64) (μ : HMem) : Prop := ML X.1 M w g μ ∧ ∀ v, v < X.1 → ∀ u, bt (μ.1 100 v) u = (nr X v u && decide (u ≤ v))
theorem CM.fr {X : HG} {M : Nat} {w : Nat → Int64} {g : Nat → Nat → Int64} {μ μ' : HMem} (h : CM X M w g μ) (f : Fr 102 103 μ μ') : CM X M w g μ' := ⟨h.1.fr f (by omega), fun v hv u => by rw [f.i (by omega)]; exact h.2 v hv u⟩
theorem s_fac {X : HG} {M : Nat} {w : Nat → Int64} {g : Nat → Nat → Int64} {μ : HMem} (hn : X.1 ≤ 8) (hM : M ≤ 8) (h : CM X M w g μ) {v t : Nat} (hv : v < X.1) (ht : t < M) {a : Nat → Nat} (ha : ∀ u, u < v → μ.1 102 u = nI (a u) ∧ a u < M) {Q : Int64 → HMem → Prop} (hQ : Q (fac X.1 (nr X) w g (ly a v t) v) (h_wi μ 102 v (nI t))) : wp (f_MapSums_factor (nI v) (nI t) μ) Q := by
  refine s_factor (a := a) (e := fun u => nr X v u && decide (u ≤ v)) hn hM h.1 hv ht (fun u _ => h.2 v hv u) (fun u _ he hne => ?_) ?_
  · rw [Bool.and_eq_true, decide_eq_true_iff] at he
    exact ha u (by omega)
  · unfold fac at hQ
    rw [ly_eq] at hQ
    exact hQ
theorem s_inj {X : HG} {M : Nat} {w : Nat → Int64} {g : Nat → Nat → Int64} (hn : X.1 ≤ 8) (hM : M ≤ 8) : ∀ (rd v : Nat) (a : Nat → Nat) (us : Int32) (μ : HMem), 9 ≤ rd + v → v ≤ X.1 → CM X M w g μ → (∀ u, u < v → μ.1 102 u = nI (a u) ∧ a u < M) → (∀ t, bt us t = true ↔ ∃ u, u < v ∧ a u = t) → ∀ Q : Int64 → HMem → Prop, (∀ μ', Fr 102 103 μ μ' → (∀ u, u < v → μ'.1 102 u = μ.1 102 u) → Q (ws (FB X w g pin) M (X.1 - v) a v) μ') → wp (f_MapSums_sumInjective rd (nI v) us μ) Q
  | 0, v, a, us, μ, h9, hv, _, _, _, _, _ => absurd h9 (by omega)
  | rd + 1, v, a, us, μ, h9, hv, hc, hi, hu, Q, hQ => by
    show wp (f_MapSums_sumInjective_0 (f_MapSums_sumInjective rd) (nI v) us μ) Q
    unfold f_MapSums_sumInjective_0
    rw [hc.1.1]
    rcases Nat.lt_or_ge v X.1 with h1 | h1
    · refine w_t (nI_lt h1 (by omega)) ?_
      have e0 : ∀ z, z = nI 0 → wp (f_MapSums_sumInjective_L15 (f_MapSums_sumInjective rd) h_fuel (nI v) us 0 z μ) Q := ?_
      · exact e0 0 rfl
      rintro z rfl
      refine w_for (fun f t (s : Int64 × HMem) => wp (f_MapSums_sumInjective_L15 (f_MapSums_sumInjective rd) f (nI v) us s.1 (nI t) s.2) Q) (fun t s => s.1 = zL (fun t => FB X w g pin (ly a v t) v * ws (FB X w g pin) M (X.1 - v - 1) (ly a v t) (v + 1)) t ∧ Fr 102 103 μ s.2 ∧ ∀ u, u < v → s.2.1 102 u = μ.1 102 u) M ?_ ?_ 0 (0, μ) (Nat.zero_le _) (by omega) ⟨rfl, Fr.refl _ _ _, fun _ _ => rfl⟩
      · intro f s ⟨g1, g2, g3⟩
        show wp (f_MapSums_sumInjective_L15_b _ _ _ _ _ _ _) Q
        unfold f_MapSums_sumInjective_L15_b
        rw [(hc.fr g2).1.2.1]
        refine w_t (nI_le (Nat.le_refl _) (by omega)) (w_ret ?_)
        have := hQ s.2 g2 g3
        rw [show X.1 - v = (X.1 - v - 1) + 1 by omega] at this
        rw [g1]
        exact this
      · intro f t s ht ⟨g1, g2, g3⟩ ih
        have c1 := hc.fr g2
        have hi1 : ∀ u, u < v → s.2.1 102 u = nI (a u) ∧ a u < M := fun u hu => by rw [g3 u hu]; exact hi u hu
        show wp (f_MapSums_sumInjective_L15_b _ _ _ _ _ _ _) Q
        unfold f_MapSums_sumInjective_L15_b
        rw [c1.1.2.1]
        refine w_f (nI_ge ht (by omega)) ?_
        rw [e_has _ (by omega), bd_some]
        have zero : ∀ m, Fr 102 103 μ m → (∀ u, u < v → m.1 102 u = μ.1 102 u) → FB X w g pin (ly a v t) v = 0 → wp (f_MapSums_sumInjective_J72 (f_MapSums_sumInjective rd) (f_MapSums_sumInjective_L15 (f_MapSums_sumInjective rd) f) (nI v) us s.1 (nI t) m) Q := by
          intro m k1 k2 hz
          unfold f_MapSums_sumInjective_J72
          refine w_let ?_
          rw [nI_1]
          refine ih (s.1, m) ⟨?_, k1, k2⟩
          show s.1 = zL _ t + FB X w g pin (ly a v t) v * _
          rw [hz, Int64.zero_mul, Int64.add_zero]
          exact g1
        have hp : pin (ly a v t) v = !bt us t := bqi (by
          rw [pin_t, Bool.not_eq_true', ← Bool.not_eq_true, hu t, ly_eq]
          constructor
          · exact fun h ⟨u, h2, h3⟩ => h ⟨u, h2, by rw [ly_lt h2]; exact h3⟩
          · exact fun h ⟨u, h2, h3⟩ => h ⟨u, h2, by rw [ly_lt h2] at h3; exact h3⟩)
        unfold f_MapSums_sumInjective_J44
        refine w_if (fun h3 => ?_) (fun h3 => ?_)
        · rw [bI_0] at h3
          rw [h3] at hp
          have hF : FB X w g pin (ly a v t) v = fac X.1 (nr X) w g (ly a v t) v := if_pos hp
          refine w_bdk (s_fac hn hM c1 h1 ht hi1 ?_)
          have f2 : Fr 102 103 μ (h_wi s.2 102 v (nI t)) := g2.trans (Fr.wi (a := 102) (b := 103) (by omega) (by omega)) (by omega) (by omega) (by omega) (by omega)
          have i2 : ∀ u, u < v → (h_wi s.2 102 v (nI t)).1 102 u = μ.1 102 u := fun u hu => by rw [wi_n _ _ (by omega)]; exact g3 u hu
          have j2 : (h_wi s.2 102 v (nI t)).1 102 v = nI t := wi_s _ _ _ _
          generalize h_wi s.2 102 v (nI t) = m2 at f2 i2 j2
          refine w_if (fun h4 => ?_) (fun h4 => ?_)
          · exact zero m2 f2 i2 (by rw [hF]; exact (cmp_z _).mp h4)
          · rw [nI_1]
            refine w_bdk (s_inj hn hM rd (v + 1) (ly a v t) (us ||| h_ishl 1 (nI t)) m2 (by omega) (by omega) (hc.fr f2) (fun u hu => ?_) (fun t' => ?_) _ (fun m3 f3 i3 => ?_))
            · by_cases e : u = v
              · rw [e, ly_eq]; exact ⟨j2, ht⟩
              · rw [ly_ne e, i2 u (by omega)]; exact hi u (by omega)
            · rw [b_or, b_one (by omega), Bool.or_eq_true, hu t', decide_eq_true_iff]
              constructor
              · rintro (⟨u, h5, h6⟩ | rfl)
                · exact ⟨u, by omega, by rw [ly_lt h5]; exact h6⟩
                · exact ⟨v, by omega, ly_eq⟩
              · rintro ⟨u, h5, h6⟩
                by_cases e : u = v
                · rw [e, ly_eq] at h6; exact Or.inr h6.symm
                · rw [ly_ne e] at h6; exact Or.inl ⟨u, by omega, h6⟩
            · unfold f_MapSums_sumInjective_J72
              refine w_let (w_let ?_)
              rw [nI_1]
              refine ih (_, m3) ⟨?_, f2.trans f3 (by omega) (by omega) (by omega) (by omega), fun u hu => by show m3.1 102 u = _; rw [i3 u (by omega)]; exact i2 u hu⟩
              show _ = zL _ t + FB X w g pin (ly a v t) v * _
              rw [hF, ← g1, show X.1 - (v + 1) = X.1 - v - 1 by omega]
        · rw [bI_n] at h3
          rw [h3] at hp
          exact w_t (by decide) (zero s.2 g2 g3 (if_neg (by rw [hp]; decide)))
    · refine w_f (nI_nlt h1 (by omega)) (w_ret ?_)
      have := hQ μ (Fr.refl _ _ _) (fun _ _ => rfl)
      rw [show X.1 - v = 0 by omega] at this
      exact this
theorem on_k : ∀ M, M < 9 → ∀ c, c ≤ M → ∀ n, n < 9 → ∀ v, v ≤ n → (nI M - nI c ≤ nI n - nI v ↔ M - c ≤ n - v) := by decide +kernel
theorem s_onto {X : HG} {M : Nat} {w : Nat → Int64} {g : Nat → Nat → Int64} (hn : X.1 ≤ 8) (hM : M ≤ 8) : ∀ (rd v : Nat) (a : Nat → Nat) (us : Int32) (μ : HMem), 9 ≤ rd + v → v ≤ X.1 → CM X M w g μ → (∀ u, u < v → μ.1 102 u = nI (a u) ∧ a u < M) → (∀ t, bt us t = imB a v t) → ∀ Q : Int64 → HMem → Prop, (∀ μ', Fr 102 103 μ μ' → (∀ u, u < v → μ'.1 102 u = μ.1 102 u) → Q (if fe X.1 M a v = true then ws (FB X w g (pon X.1 M)) M (X.1 - v) a v else 0) μ') → wp (f_MapSums_sumOnto rd (nI v) us μ) Q
  | 0, v, a, us, μ, h9, hv, _, _, _, _, _ => absurd h9 (by omega)
  | rd + 1, v, a, us, μ, h9, hv, hc, hi, hu, Q, hQ => by
    show wp (f_MapSums_sumOnto_0 (f_MapSums_sumOnto rd) (nI v) us μ) Q
    unfold f_MapSums_sumOnto_0
    have hlt : ∀ t, bt us t = true → t < M := fun t h => by
      rw [hu t] at h
      obtain ⟨p, h1, h2⟩ := imB_t.mp h
      rw [← h2]; exact (hi p h1).2
    have s8 : S8 us := fun t ht => by
      cases h : bt us t with
      | false => rfl
      | true => have := hlt t h; omega
    have ec : cn (bt us) 8 = ic a v := cn_ext (fun t _ => hu t)
    have hcM : ic a v ≤ M := by
      rw [← ec]
      exact cn_bd hlt
    rw [f_bitCount s8, ec, bd_some, hc.1.1, hc.1.2.1]
    have hfe : (nI M - nI (ic a v) ≤ nI X.1 - nI v) ↔ fe X.1 M a v = true := by
      rw [on_k M (by omega) _ hcM X.1 (by omega) v hv]
      unfold fe
      rw [decide_eq_true_iff]
      omega
    refine w_if (fun h0 => ?_) (fun h0 => ?_)
    · have hQ : ∀ μ', Fr 102 103 μ μ' → (∀ u, u < v → μ'.1 102 u = μ.1 102 u) → Q (ws (FB X w g (pon X.1 M)) M (X.1 - v) a v) μ' := fun μ' f i => by
        have := hQ μ' f i
        rw [if_pos (hfe.mp h0)] at this
        exact this
      rcases Nat.lt_or_ge v X.1 with h1 | h1
      · refine w_t (nI_lt h1 (by omega)) ?_
        have e0 : ∀ z, z = nI 0 → wp (f_MapSums_sumOnto_L35 (f_MapSums_sumOnto rd) h_fuel (nI v) us 0 z μ) Q := ?_
        · exact e0 0 rfl
        rintro z rfl
        refine w_for (fun f t (s : Int64 × HMem) => wp (f_MapSums_sumOnto_L35 (f_MapSums_sumOnto rd) f (nI v) us s.1 (nI t) s.2) Q) (fun t s => s.1 = zL (fun t => FB X w g (pon X.1 M) (ly a v t) v * ws (FB X w g (pon X.1 M)) M (X.1 - v - 1) (ly a v t) (v + 1)) t ∧ Fr 102 103 μ s.2 ∧ ∀ u, u < v → s.2.1 102 u = μ.1 102 u) M ?_ ?_ 0 (0, μ) (Nat.zero_le _) (by omega) ⟨rfl, Fr.refl _ _ _, fun _ _ => rfl⟩
        · intro f s ⟨g1, g2, g3⟩
          show wp (f_MapSums_sumOnto_L35_b _ _ _ _ _ _ _) Q
          unfold f_MapSums_sumOnto_L35_b
          rw [(hc.fr g2).1.2.1]
          refine w_t (nI_le (Nat.le_refl _) (by omega)) (w_ret ?_)
          have := hQ s.2 g2 g3
          rw [show X.1 - v = (X.1 - v - 1) + 1 by omega] at this
          rw [g1]
          exact this
        · intro f t s ht ⟨g1, g2, g3⟩ ih
          have c1 := hc.fr g2
          have hi1 : ∀ u, u < v → s.2.1 102 u = nI (a u) ∧ a u < M := fun u hu => by rw [g3 u hu]; exact hi u hu
          show wp (f_MapSums_sumOnto_L35_b _ _ _ _ _ _ _) Q
          unfold f_MapSums_sumOnto_L35_b f_MapSums_sumOnto_J79
          rw [c1.1.2.1]
          refine w_f (nI_ge ht (by omega)) ?_
          refine w_bdk (s_fac hn hM c1 h1 ht hi1 ?_)
          have f2 : Fr 102 103 μ (h_wi s.2 102 v (nI t)) := g2.trans (Fr.wi (a := 102) (b := 103) (by omega) (by omega)) (by omega) (by omega) (by omega) (by omega)
          have i2 : ∀ u, u < v → (h_wi s.2 102 v (nI t)).1 102 u = μ.1 102 u := fun u hu => by rw [wi_n _ _ (by omega)]; exact g3 u hu
          have j2 : (h_wi s.2 102 v (nI t)).1 102 v = nI t := wi_s _ _ _ _
          generalize h_wi s.2 102 v (nI t) = m2 at f2 i2 j2
          have hF : FB X w g (pon X.1 M) (ly a v t) v = if fe X.1 M (ly a v t) (v + 1) = true then fac X.1 (nr X) w g (ly a v t) v else 0 := rfl
          refine w_if (fun h4 => ?_) (fun h4 => ?_)
          · rw [cmp_z] at h4
            refine w_let ?_
            rw [nI_1]
            refine ih (s.1, m2) ⟨?_, f2, i2⟩
            show s.1 = zL _ t + FB X w g (pon X.1 M) (ly a v t) v * _
            have : FB X w g (pon X.1 M) (ly a v t) v = 0 := by
              rw [hF, h4]
              by_cases h : fe X.1 M (ly a v t) (v + 1) = true
              · rw [if_pos h]
              · rw [if_neg h]
            rw [this, Int64.zero_mul, Int64.add_zero]
            exact g1
          · rw [nI_1]
            refine w_bdk (s_onto hn hM rd (v + 1) (ly a v t) (us ||| h_ishl 1 (nI t)) m2 (by omega) (by omega) (hc.fr f2) (fun u hu => ?_) (fun t' => bqi ?_) _ (fun m3 f3 i3 => ?_))
            · by_cases e : u = v
              · rw [e, ly_eq]; exact ⟨j2, ht⟩
              · rw [ly_ne e, i2 u (by omega)]; exact hi u (by omega)
            · rw [b_or, b_one (by omega), Bool.or_eq_true, hu t', decide_eq_true_iff, imB_t, imB_t]
              constructor
              · rintro (⟨u, h5, h6⟩ | rfl)
                · exact ⟨u, by omega, by rw [ly_lt h5]; exact h6⟩
                · exact ⟨v, by omega, ly_eq⟩
              · rintro ⟨u, h5, h6⟩
                by_cases e : u = v
                · rw [e, ly_eq] at h6; exact Or.inr h6.symm
                · rw [ly_ne e] at h6; exact Or.inl ⟨u, by omega, h6⟩
            · refine w_let (w_let ?_)
              rw [nI_1]
              refine ih (_, m3) ⟨?_, f2.trans f3 (by omega) (by omega) (by omega) (by omega), fun u hu => by show m3.1 102 u = _; rw [i3 u (by omega)]; exact i2 u hu⟩
              show _ = zL _ t + FB X w g (pon X.1 M) (ly a v t) v * _
              rw [hF, ← g1, show X.1 - (v + 1) = X.1 - v - 1 by omega]
              by_cases h : fe X.1 M (ly a v t) (v + 1) = true
              · rw [if_pos h, if_pos h]
              · rw [if_neg h, if_neg h, Int64.mul_zero, Int64.zero_mul]
      · refine w_f (nI_nlt h1 (by omega)) (w_ret ?_)
        have := hQ μ (Fr.refl _ _ _) (fun _ _ => rfl)
        rw [show X.1 - v = 0 by omega] at this
        exact this
    · have := hQ μ (Fr.refl _ _ _) (fun _ _ => rfl)
      rw [if_neg (fun h => h0 (hfe.mpr h))] at this
      exact w_ret this
