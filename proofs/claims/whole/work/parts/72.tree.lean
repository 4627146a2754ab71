/-! 72: counting by going back -/
def tr (C : (Nat → Nat) → Nat → Bool) (M : Nat) : Nat → (Nat → Nat) → Nat → Nat
  | 0, _, _ => 1
  | r + 1, a, k => sm (fun t => if C (ly a k t) k then tr C M r (ly a k t) (k + 1) else 0) M
def Loc (C : (Nat → Nat) → Nat → Bool) : Prop := ∀ a b k, (∀ j, j ≤ k → a j = b j) → C a k = C b k
theorem tr_cg {C : (Nat → Nat) → Nat → Bool} (hC : Loc C) {M : Nat} : ∀ (r : Nat) (a b : Nat → Nat) (k : Nat), (∀ j, j < k → a j = b j) → tr C M r a k = tr C M r b k
  | 0, _, _, _, _ => rfl
  | r + 1, a, b, k, h => sm_ext (fun t _ => by
    have e : ∀ j, j < k + 1 → ly a k t j = ly b k t j := fun j hj => by
      by_cases e : j = k
      · rw [e, ly_eq, ly_eq]
      · rw [ly_lt (by omega), ly_lt (by omega)]
        exact h j (by omega)
    rw [hC (ly a k t) (ly b k t) k (fun j hj => e j (by omega)), tr_cg hC r _ _ (k + 1) e])
/-- the sum from a place on -/
def sf (g : Nat → Nat) (M s : Nat) : Nat := sm (fun t => if s ≤ t then g t else 0) M
theorem sf_0 {g : Nat → Nat} {M : Nat} : sf g M 0 = sm g M := sm_ext (fun t _ => if_pos (Nat.zero_le t))
theorem sf_e {g : Nat → Nat} {M s : Nat} (h : M ≤ s) : sf g M s = 0 := by
  have : sf g M s = sm (fun _ => 0) M := sm_ext (fun t ht => if_neg (by omega))
  rw [this, sm_0]
theorem sf_s {g : Nat → Nat} : ∀ {M s : Nat}, s < M → sf g M s = g s + sf g M (s + 1)
  | 0, s, h => absurd h (Nat.not_lt_zero _)
  | M + 1, s, h => by
    show sf g M s + (if s ≤ M then g M else 0) = g s + (sf g M (s + 1) + (if s + 1 ≤ M then g M else 0))
    rcases Nat.lt_or_ge s M with h1 | h1
    · rw [sf_s h1, if_pos (by omega), if_pos (by omega)]
      omega
    · have e : s = M := by omega
      subst e
      rw [sf_e (by omega), sf_e (by omega), if_pos (by omega), if_neg (by omega)]
      omega
theorem sf_skip {g : Nat → Nat} {M s : Nat} : ∀ d, s + d ≤ M → (∀ t, s ≤ t → t < s + d → g t = 0) → sf g M s = sf g M (s + d)
  | 0, _, _ => rfl
  | d + 1, h, hz => by
    rw [sf_skip (g := g) d (by omega) (fun t h1 h2 => hz t h1 (by omega)), sf_s (by omega), hz (s + d) (by omega) (by omega), Nat.zero_add]
    rfl
def tg (C : (Nat → Nat) → Nat → Bool) (M r : Nat) (a : Nat → Nat) (k t : Nat) : Nat := if C (ly a k t) k then tr C M r (ly a k t) (k + 1) else 0
theorem tg_cg {C : (Nat → Nat) → Nat → Bool} (hC : Loc C) {M r : Nat} {a b : Nat → Nat} {k : Nat} (h : ∀ j, j < k → a j = b j) : tg C M r a k = tg C M r b k := funext (fun t => by
  have e : ∀ j, j < k + 1 → ly a k t j = ly b k t j := fun j hj => by
    by_cases e : j = k
    · rw [e, ly_eq, ly_eq]
    · rw [ly_lt (by omega), ly_lt (by omega)]
      exact h j (by omega)
  unfold tg
  rw [hC (ly a k t) (ly b k t) k (fun j hj => e j (by omega)), tr_cg hC r _ _ (k + 1) e])
theorem tr_s {C : (Nat → Nat) → Nat → Bool} {M r : Nat} {a : Nat → Nat} {k : Nat} : tr C M (r + 1) a k = sf (tg C M r a k) M 0 := by
  rw [sf_0]
  rfl
/-- what is left behind a prefix -/
def rmP (C : (Nat → Nat) → Nat → Bool) (M n : Nat) (a : Nat → Nat) (k : Nat) : Nat := sm (fun p => sf (tg C M (n - p - 1) a p) M (a p + 1)) k
theorem rmP_cg {C : (Nat → Nat) → Nat → Bool} (hC : Loc C) {M n : Nat} {a b : Nat → Nat} {k : Nat} (h : ∀ j, j < k → a j = b j) : rmP C M n a k = rmP C M n b k := sm_ext (fun p hp => by
  rw [tg_cg hC (fun j hj => h j (by omega)), h p hp])
/-- what is left -/
def rm (C : (Nat → Nat) → Nat → Bool) (M n : Nat) (j : Nat) (a : Nat → Nat) (t : Nat) : Nat := match j with
  | 0 => 0
  | k + 1 => rmP C M n a k + (if k < n then sf (tg C M (n - k - 1) a k) M t else 1)
theorem rm_0 {C : (Nat → Nat) → Nat → Bool} {M n : Nat} {a : Nat → Nat} : rm C M n 1 a 0 = tr C M n a 0 := by
  show 0 + (if 0 < n then sf (tg C M (n - 0 - 1) a 0) M 0 else 1) = _
  cases n with
  | zero => rfl
  | succ n => rw [if_pos (by omega), tr_s]; simp
theorem rm_leaf {C : (Nat → Nat) → Nat → Bool} {M n : Nat} {a : Nat → Nat} {t : Nat} : rm C M n (n + 1) a t = rm C M n n a (a (n - 1) + 1) + 1 := by
  show rmP C M n a n + (if n < n then _ else 1) = _
  rw [if_neg (by omega)]
  cases n with
  | zero => rfl
  | succ n =>
    show rmP C M (n + 1) a n + sf (tg C M (n + 1 - n - 1) a n) M (a n + 1) + 1 = rmP C M (n + 1) a n + (if n < n + 1 then sf (tg C M (n + 1 - n - 1) a n) M (a n + 1) else 1) + 1
    rw [if_pos (by omega)]
theorem rm_up {C : (Nat → Nat) → Nat → Bool} {M n k t : Nat} {a : Nat → Nat} (hk : k < n) (ht : t ≤ M) (hz : ∀ s, t ≤ s → s < M → C (ly a k s) k = false) : rm C M n (k + 1) a t = rm C M n k a (a (k - 1) + 1) := by
  show rmP C M n a k + (if k < n then sf (tg C M (n - k - 1) a k) M t else 1) = _
  have e : sf (tg C M (n - k - 1) a k) M t = 0 := by
    have := sf_skip (g := tg C M (n - k - 1) a k) (M := M) (s := t) (M - t) (by omega) (fun s h1 h2 => by
      unfold tg
      rw [hz s h1 (by omega)]
      rfl)
    rw [this, sf_e (by omega)]
  rw [if_pos hk, e]
  cases k with
  | zero => rfl
  | succ k =>
    show rmP C M n a k + sf (tg C M (n - k - 1) a k) M (a k + 1) + 0 = rmP C M n a k + (if k < n then sf (tg C M (n - k - 1) a k) M (a k + 1) else 1)
    rw [if_pos (by omega)]
    omega
theorem rm_down {C : (Nat → Nat) → Nat → Bool} (hC : Loc C) {M n k t t' : Nat} {a : Nat → Nat} (hk : k < n) (ht : t ≤ t') (h' : t' < M) (hz : ∀ s, t ≤ s → s < t' → C (ly a k s) k = false) (hc : C (ly a k t') k = true) : rm C M n (k + 1) a t = rm C M n (k + 2) (ly a k t') 0 := by
  show rmP C M n a k + (if k < n then sf (tg C M (n - k - 1) a k) M t else 1) = rmP C M n (ly a k t') k + sf (tg C M (n - k - 1) (ly a k t') k) M (ly a k t' k + 1) + (if k + 1 < n then sf (tg C M (n - (k + 1) - 1) (ly a k t') (k + 1)) M 0 else 1)
  have e1 : rmP C M n (ly a k t') k = rmP C M n a k := rmP_cg hC (fun j hj => ly_lt hj)
  have e2 : tg C M (n - k - 1) (ly a k t') k = tg C M (n - k - 1) a k := tg_cg hC (fun j hj => ly_lt hj)
  have e3 : sf (tg C M (n - k - 1) a k) M t = tg C M (n - k - 1) a k t' + sf (tg C M (n - k - 1) a k) M (t' + 1) := by
    have := sf_skip (g := tg C M (n - k - 1) a k) (M := M) (s := t) (t' - t) (by omega) (fun s h1 h2 => by
      unfold tg
      rw [hz s h1 (by omega)]
      rfl)
    rw [show t + (t' - t) = t' by omega] at this
    rw [this, sf_s h']
  have e4 : tg C M (n - k - 1) a k t' = (if k + 1 < n then sf (tg C M (n - (k + 1) - 1) (ly a k t') (k + 1)) M 0 else 1) := by
    unfold tg
    rw [hc, if_pos rfl]
    by_cases e : k + 1 < n
    · rw [if_pos e, show n - k - 1 = (n - (k + 1) - 1) + 1 by omega, tr_s]
      rfl
    · rw [if_neg e, show n - k - 1 = 0 by omega]
      rfl
  rw [if_pos hk, e1, e2, e3, e4, ly_eq]
  omega
/-- a full answer -/
def Ful (C : (Nat → Nat) → Nat → Bool) (M n : Nat) (a : Nat → Nat) : Prop := ∀ k, k < n → a k < M ∧ C a k = true
theorem sm_pos {g : Nat → Nat} : ∀ {M : Nat}, 0 < sm g M ↔ ∃ t, t < M ∧ 0 < g t
  | 0 => ⟨fun h => absurd h (Nat.lt_irrefl 0), fun ⟨t, h, _⟩ => absurd h (Nat.not_lt_zero _)⟩
  | M + 1 => by
    show 0 < sm g M + g M ↔ _
    constructor
    · intro h
      rcases Nat.eq_zero_or_pos (g M) with h1 | h1
      · obtain ⟨t, h2, h3⟩ := sm_pos.mp (show 0 < sm g M by omega)
        exact ⟨t, by omega, h3⟩
      · exact ⟨M, by omega, h1⟩
    · rintro ⟨t, h1, h2⟩
      rcases Nat.lt_or_ge t M with h3 | h3
      · have := sm_pos.mpr ⟨t, h3, h2⟩
        omega
      · have : t = M := by omega
        subst this
        omega
theorem tr_pos {C : (Nat → Nat) → Nat → Bool} (hC : Loc C) {M : Nat} : ∀ (r : Nat) (a : Nat → Nat) (k : Nat), 0 < tr C M r a k ↔ ∃ b, (∀ j, j < k → b j = a j) ∧ ∀ j, k ≤ j → j < k + r → b j < M ∧ C b j = true
  | 0, a, k => ⟨fun _ => ⟨a, fun _ _ => rfl, fun j h1 h2 => by omega⟩, fun _ => Nat.lt_succ_self 0⟩
  | r + 1, a, k => by
    show 0 < sm (fun t => if C (ly a k t) k then tr C M r (ly a k t) (k + 1) else 0) M ↔ _
    rw [sm_pos]
    constructor
    · rintro ⟨t, h1, h2⟩
      by_cases hc : C (ly a k t) k = true
      · rw [if_pos hc, tr_pos hC r] at h2
        obtain ⟨b, h3, h4⟩ := h2
        have hbk : b k = t := by rw [h3 k (by omega), ly_eq]
        refine ⟨b, fun j hj => by rw [h3 j (by omega), ly_lt hj], fun j h5 h6 => ?_⟩
        rcases Nat.lt_or_ge k j with h7 | h7
        · exact h4 j (by omega) (by omega)
        · have : j = k := by omega
          rw [this]
          refine ⟨by omega, ?_⟩
          rw [hC b (ly a k t) k (fun i hi => h3 i (by omega))]
          exact hc
      · rw [if_neg hc] at h2
        exact absurd h2 (Nat.lt_irrefl 0)
    · rintro ⟨b, h1, h2⟩
      have e : ∀ i, i < k + 1 → b i = ly a k (b k) i := fun i hi => by
        by_cases e : i = k
        · rw [e, ly_eq]
        · rw [ly_lt (by omega), h1 i (by omega)]
      obtain ⟨h3, h4⟩ := h2 k (by omega) (by omega)
      refine ⟨b k, h3, ?_⟩
      rw [hC b (ly a k (b k)) k (fun i hi => e i (by omega))] at h4
      rw [if_pos h4, tr_pos hC r]
      exact ⟨b, e, fun j h5 h6 => h2 j (by omega) (by omega)⟩
theorem tr_ful {C : (Nat → Nat) → Nat → Bool} (hC : Loc C) {M n : Nat} {a : Nat → Nat} : 0 < tr C M n a 0 ↔ ∃ b, Ful C M n b := by
  rw [tr_pos hC]
  exact ⟨fun ⟨b, _, h⟩ => ⟨b, fun k hk => h k (by omega) (by omega)⟩, fun ⟨b, h⟩ => ⟨b, fun j hj => by omega, fun j _ hj => h j (by omega)⟩⟩
theorem tr_le {C : (Nat → Nat) → Nat → Bool} {M : Nat} : ∀ (r : Nat) (a : Nat → Nat) (k : Nat), tr C M r a k ≤ M ^ r
  | 0, _, _ => Nat.le_refl _
  | r + 1, a, k => by
    have := sm_le (f := fun t => if C (ly a k t) k then tr C M r (ly a k t) (k + 1) else 0) (b := M ^ r) (n := M) (fun t _ => by
      show (if C (ly a k t) k then tr C M r (ly a k t) (k + 1) else 0) ≤ M ^ r
      by_cases hc : C (ly a k t) k = true
      · rw [if_pos hc]; exact tr_le r _ _
      · rw [if_neg hc]; exact Nat.zero_le _)
    rw [Nat.pow_succ, Nat.mul_comm]
    exact this
