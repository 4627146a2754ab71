/-! 92: sums of longs by going back -/
def gL (C : (Nat → Nat) → Nat → Bool) (M : Nat) (W : (Nat → Nat) → Int64) : Nat → (Nat → Nat) → Nat → Int64
  | 0, a, _ => W a
  | r + 1, a, k => zL (fun t => if C (ly a k t) k = true then gL C M W r (ly a k t) (k + 1) else 0) M
def LocV (n : Nat) (W : (Nat → Nat) → Int64) : Prop := ∀ a b, (∀ j, j < n → a j = b j) → W a = W b
theorem gL_cg {C : (Nat → Nat) → Nat → Bool} {M : Nat} {W : (Nat → Nat) → Int64} {n : Nat} (hC : Loc C) (hW : LocV n W) : ∀ (r : Nat) (a b : Nat → Nat) (k : Nat), k + r = n → (∀ j, j < k → a j = b j) → gL C M W r a k = gL C M W r b k
  | 0, a, b, k, e, h => hW a b (fun j hj => h j (by omega))
  | r + 1, a, b, k, e, h => by
    refine zL_ext (fun t _ => ?_)
    rw [hC (ly a k t) (ly b k t) k (fun j hj => ly_cg h j (by omega)), gL_cg hC hW r _ _ (k + 1) (by omega) (ly_cg h)]
/-- the sum from a place on -/
def sfL (g : Nat → Int64) (M s : Nat) : Int64 := zL (fun t => if s ≤ t then g t else 0) M
theorem sfL_0 {g : Nat → Int64} {M : Nat} : sfL g M 0 = zL g M := zL_ext (fun t _ => if_pos (Nat.zero_le t))
theorem sfL_e {g : Nat → Int64} {M s : Nat} (h : M ≤ s) : sfL g M s = 0 := by
  have : sfL g M s = zL (fun _ => 0) M := zL_ext (fun t ht => if_neg (by omega))
  rw [this, zL_0]
theorem sfL_s {g : Nat → Int64} : ∀ {M s : Nat}, s < M → sfL g M s = g s + sfL g M (s + 1)
  | 0, s, h => absurd h (Nat.not_lt_zero _)
  | M + 1, s, h => by
    show sfL g M s + (if s ≤ M then g M else 0) = g s + (sfL g M (s + 1) + (if s + 1 ≤ M then g M else 0))
    rcases Nat.lt_or_ge s M with h1 | h1
    · rw [sfL_s h1, if_pos (by omega), if_pos (by omega), Int64.add_assoc]
    · have e : s = M := by omega
      subst e
      rw [sfL_e (by omega), sfL_e (by omega), if_pos (by omega), if_neg (by omega), Int64.zero_add, Int64.add_zero, Int64.add_zero]
theorem sfL_skip {g : Nat → Int64} {M s : Nat} : ∀ d, s + d ≤ M → (∀ t, s ≤ t → t < s + d → g t = 0) → sfL g M s = sfL g M (s + d)
  | 0, _, _ => rfl
  | d + 1, h, hz => by
    rw [sfL_skip (g := g) d (by omega) (fun t h1 h2 => hz t h1 (by omega)), sfL_s (by omega), hz (s + d) (by omega) (by omega), Int64.zero_add]
    rfl
def tL (C : (Nat → Nat) → Nat → Bool) (M : Nat) (W : (Nat → Nat) → Int64) (r : Nat) (a : Nat → Nat) (k t : Nat) : Int64 := if C (ly a k t) k = true then gL C M W r (ly a k t) (k + 1) else 0
theorem tL_cg {C : (Nat → Nat) → Nat → Bool} {M : Nat} {W : (Nat → Nat) → Int64} {n : Nat} (hC : Loc C) (hW : LocV n W) {a b : Nat → Nat} {k : Nat} (hk : k < n) (h : ∀ j, j < k → a j = b j) : tL C M W (n - k - 1) a k = tL C M W (n - k - 1) b k := funext (fun t => by
  unfold tL
  rw [hC (ly a k t) (ly b k t) k (fun j hj => ly_cg h j (by omega)), gL_cg hC hW _ _ _ (k + 1) (by omega) (ly_cg h)])
theorem gL_s {C : (Nat → Nat) → Nat → Bool} {M : Nat} {W : (Nat → Nat) → Int64} {r : Nat} {a : Nat → Nat} {k : Nat} : gL C M W (r + 1) a k = sfL (tL C M W r a k) M 0 := by
  rw [sfL_0]
  rfl
def rmPL (C : (Nat → Nat) → Nat → Bool) (M : Nat) (W : (Nat → Nat) → Int64) (n : Nat) (a : Nat → Nat) (k : Nat) : Int64 := zL (fun p => sfL (tL C M W (n - p - 1) a p) M (a p + 1)) k
/-- what is left -/
def rmL (C : (Nat → Nat) → Nat → Bool) (M : Nat) (W : (Nat → Nat) → Int64) (n : Nat) (j : Nat) (a : Nat → Nat) (t : Nat) : Int64 := match j with
  | 0 => 0
  | k + 1 => rmPL C M W n a k + (if k < n then sfL (tL C M W (n - k - 1) a k) M t else W a)
theorem rmL_0 {C : (Nat → Nat) → Nat → Bool} {M : Nat} {W : (Nat → Nat) → Int64} {n : Nat} {a : Nat → Nat} : rmL C M W n 1 a 0 = gL C M W n a 0 := by
  show 0 + (if 0 < n then sfL (tL C M W (n - 0 - 1) a 0) M 0 else W a) = _
  cases n with
  | zero => rw [if_neg (by omega), Int64.zero_add]; rfl
  | succ n => rw [if_pos (by omega), gL_s, Int64.zero_add]; rfl
theorem rmL_leaf {C : (Nat → Nat) → Nat → Bool} {M : Nat} {W : (Nat → Nat) → Int64} {n : Nat} {a : Nat → Nat} {t : Nat} : rmL C M W n (n + 1) a t = rmL C M W n n a (a (n - 1) + 1) + W a := by
  show rmPL C M W n a n + (if n < n then _ else W a) = _
  rw [if_neg (by omega)]
  cases n with
  | zero => rfl
  | succ n =>
    show rmPL C M W (n + 1) a n + sfL (tL C M W (n + 1 - n - 1) a n) M (a n + 1) + W a = rmPL C M W (n + 1) a n + (if n < n + 1 then sfL (tL C M W (n + 1 - n - 1) a n) M (a n + 1) else W a) + W a
    rw [if_pos (by omega)]
theorem rmL_up {C : (Nat → Nat) → Nat → Bool} {M : Nat} {W : (Nat → Nat) → Int64} {n k t : Nat} {a : Nat → Nat} (hk : k < n) (ht : t ≤ M) (hz : ∀ s, t ≤ s → s < M → C (ly a k s) k = false) : rmL C M W n (k + 1) a t = rmL C M W n k a (a (k - 1) + 1) := by
  show rmPL C M W n a k + (if k < n then sfL (tL C M W (n - k - 1) a k) M t else W a) = _
  have e : sfL (tL C M W (n - k - 1) a k) M t = 0 := by
    have := sfL_skip (g := tL C M W (n - k - 1) a k) (M := M) (s := t) (M - t) (by omega) (fun s h1 h2 => by
      unfold tL
      rw [hz s h1 (by omega)]
      rfl)
    rw [this, sfL_e (by omega)]
  rw [if_pos hk, e]
  cases k with
  | zero => rfl
  | succ k =>
    show rmPL C M W n a k + sfL (tL C M W (n - k - 1) a k) M (a k + 1) + 0 = rmPL C M W n a k + (if k < n then sfL (tL C M W (n - k - 1) a k) M (a k + 1) else W a)
    rw [if_pos (by omega), Int64.add_zero]
theorem rmL_down {C : (Nat → Nat) → Nat → Bool} {M : Nat} {W : (Nat → Nat) → Int64} {n k t t' : Nat} (hC : Loc C) (hW : LocV n W) {a : Nat → Nat} (hk : k < n) (ht : t ≤ t') (h' : t' < M) (hz : ∀ s, t ≤ s → s < t' → C (ly a k s) k = false) (hc : C (ly a k t') k = true) : rmL C M W n (k + 1) a t = rmL C M W n (k + 2) (ly a k t') 0 := by
  show rmPL C M W n a k + (if k < n then sfL (tL C M W (n - k - 1) a k) M t else W a) = rmPL C M W n (ly a k t') k + sfL (tL C M W (n - k - 1) (ly a k t') k) M (ly a k t' k + 1) + (if k + 1 < n then sfL (tL C M W (n - (k + 1) - 1) (ly a k t') (k + 1)) M 0 else W (ly a k t'))
  have e1 : rmPL C M W n (ly a k t') k = rmPL C M W n a k := zL_ext (fun p hp => by
    rw [tL_cg hC hW (by omega) (fun j hj => ly_lt (by omega)), ly_lt hp])
  have e2 : tL C M W (n - k - 1) (ly a k t') k = tL C M W (n - k - 1) a k := tL_cg hC hW hk (fun j hj => ly_lt hj)
  have e3 : sfL (tL C M W (n - k - 1) a k) M t = tL C M W (n - k - 1) a k t' + sfL (tL C M W (n - k - 1) a k) M (t' + 1) := by
    have := sfL_skip (g := tL C M W (n - k - 1) a k) (M := M) (s := t) (t' - t) (by omega) (fun s h1 h2 => by
      unfold tL
      rw [hz s h1 (by omega)]
      rfl)
    rw [show t + (t' - t) = t' by omega] at this
    rw [this, sfL_s h']
  have e4 : tL C M W (n - k - 1) a k t' = (if k + 1 < n then sfL (tL C M W (n - (k + 1) - 1) (ly a k t') (k + 1)) M 0 else W (ly a k t')) := by
    unfold tL
    rw [hc, if_pos rfl]
    by_cases e : k + 1 < n
    · rw [if_pos e, show n - k - 1 = (n - (k + 1) - 1) + 1 by omega, gL_s]
      rfl
    · rw [if_neg e, show n - k - 1 = 0 by omega]
      rfl
  rw [if_pos hk, e1, e2, e3, e4, ly_eq, Int64.add_comm (if k + 1 < n then _ else _), Int64.add_assoc]
theorem gL_SS {C : (Nat → Nat) → Nat → Bool} (hC : Loc C) {M n : Nat} {W Wf : (Nat → Nat) → Int64} (h1 : ∀ b, (∀ j, j < n → b j < M ∧ C b j = true) → Wf b = W b) (h0 : ∀ b j, j < n → C b j = false → Wf b = 0) : ∀ (r : Nat) (a : Nat → Nat) (k : Nat), k + r = n → (∀ j, j < k → a j < M ∧ C a j = true) → gL C M W r a k = SS M Wf (fun v => decide (k ≤ v)) n a
  | 0, a, k, e, ha => by
    have e : k = n := by omega
    subst e
    rw [SS_none (fun v hv => decide_eq_false (by omega)), h1 a ha]
    rfl
  | r + 1, a, k, e, ha => by
    have hk : k < n := by omega
    show zL (fun t => if C (ly a k t) k = true then gL C M W r (ly a k t) (k + 1) else 0) M = _
    rw [SS_pull (r := k) (decide_eq_true (Nat.le_refl _)) hk]
    refine zL_ext (fun t ht => ?_)
    have e2 : SS M Wf (ko (fun v => decide (k ≤ v)) k) n (ly a k t) = SS M Wf (fun v => decide (k + 1 ≤ v)) n (ly a k t) := SS_S (fun v _ => by
      show (decide (k ≤ v) && !decide (v = k)) = decide (k + 1 ≤ v)
      rcases Nat.lt_trichotomy v k with h | h | h
      · rw [decide_eq_false (show ¬ k ≤ v by omega), decide_eq_false (show ¬ k + 1 ≤ v by omega)]; rfl
      · rw [decide_eq_true h, decide_eq_false (show ¬ k + 1 ≤ v by omega)]; simp
      · rw [decide_eq_true (show k ≤ v by omega), decide_eq_true (show k + 1 ≤ v by omega), decide_eq_false (show ¬ v = k by omega)]; rfl)
    rw [e2]
    by_cases hc : C (ly a k t) k = true
    · rw [if_pos hc]
      refine gL_SS hC h1 h0 r (ly a k t) (k + 1) (by omega) (fun j hj => ?_)
      by_cases e3 : j = k
      · rw [e3, ly_eq]; exact ⟨ht, hc⟩
      · have := ha j (by omega)
        rw [ly_lt (by omega), hC (ly a k t) a j (fun i hi => ly_lt (by omega))]
        exact this
    · rw [if_neg hc]
      have e4 : SS M Wf (fun v => decide (k + 1 ≤ v)) n (ly a k t) = SS M (fun _ => 0) (fun v => decide (k + 1 ≤ v)) n (ly a k t) := SS_W (fun b hb _ => by
        refine h0 b k hk ?_
        rw [hC b (ly a k t) k (fun i hi => hb i (Or.inl (decide_eq_false (by omega))))]
        cases hcc : C (ly a k t) k with
        | false => rfl
        | true => exact absurd hcc hc)
      rw [e4, SS_0]
