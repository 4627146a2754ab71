/-! 78: counting by going back, with bounds and values of its own; colorings and partitions -/
def gt (C : (Nat → Nat) → Nat → Bool) (Mf : (Nat → Nat) → Nat → Nat) (W : (Nat → Nat) → Nat) : Nat → (Nat → Nat) → Nat → Nat
  | 0, a, _ => W a
  | r + 1, a, k => sm (fun t => if C (ly a k t) k then gt C Mf W r (ly a k t) (k + 1) else 0) (Mf a k)
def LocM (Mf : (Nat → Nat) → Nat → Nat) : Prop := ∀ a b k, (∀ j, j < k → a j = b j) → Mf a k = Mf b k
def LocW (n : Nat) (W : (Nat → Nat) → Nat) : Prop := ∀ a b, (∀ j, j < n → a j = b j) → W a = W b
theorem ly_cg {a b : Nat → Nat} {k t : Nat} (h : ∀ j, j < k → a j = b j) : ∀ j, j < k + 1 → ly a k t j = ly b k t j := fun j hj => by
  by_cases e : j = k
  · rw [e, ly_eq, ly_eq]
  · rw [ly_lt (by omega), ly_lt (by omega)]
    exact h j (by omega)
theorem gt_cg {C : (Nat → Nat) → Nat → Bool} {Mf : (Nat → Nat) → Nat → Nat} {W : (Nat → Nat) → Nat} {n : Nat} (hC : Loc C) (hM : LocM Mf) (hW : LocW n W) : ∀ (r : Nat) (a b : Nat → Nat) (k : Nat), k + r = n → (∀ j, j < k → a j = b j) → gt C Mf W r a k = gt C Mf W r b k
  | 0, a, b, k, e, h => hW a b (fun j hj => h j (by omega))
  | r + 1, a, b, k, e, h => by
    show sm (fun t => if C (ly a k t) k then gt C Mf W r (ly a k t) (k + 1) else 0) (Mf a k) = sm (fun t => if C (ly b k t) k then gt C Mf W r (ly b k t) (k + 1) else 0) (Mf b k)
    rw [hM a b k h]
    refine sm_ext (fun t _ => ?_)
    rw [hC (ly a k t) (ly b k t) k (fun j hj => ly_cg h j (by omega)), gt_cg hC hM hW r _ _ (k + 1) (by omega) (ly_cg h)]
def tgg (C : (Nat → Nat) → Nat → Bool) (Mf : (Nat → Nat) → Nat → Nat) (W : (Nat → Nat) → Nat) (r : Nat) (a : Nat → Nat) (k t : Nat) : Nat := if C (ly a k t) k then gt C Mf W r (ly a k t) (k + 1) else 0
theorem tgg_cg {C : (Nat → Nat) → Nat → Bool} {Mf : (Nat → Nat) → Nat → Nat} {W : (Nat → Nat) → Nat} {n : Nat} (hC : Loc C) (hM : LocM Mf) (hW : LocW n W) {a b : Nat → Nat} {k : Nat} (hk : k < n) (h : ∀ j, j < k → a j = b j) : tgg C Mf W (n - k - 1) a k = tgg C Mf W (n - k - 1) b k := funext (fun t => by
  unfold tgg
  rw [hC (ly a k t) (ly b k t) k (fun j hj => ly_cg h j (by omega)), gt_cg hC hM hW _ _ _ (k + 1) (by omega) (ly_cg h)])
def rmPg (C : (Nat → Nat) → Nat → Bool) (Mf : (Nat → Nat) → Nat → Nat) (W : (Nat → Nat) → Nat) (n : Nat) (a : Nat → Nat) (k : Nat) : Nat := sm (fun p => sf (tgg C Mf W (n - p - 1) a p) (Mf a p) (a p + 1)) k
def rmg (C : (Nat → Nat) → Nat → Bool) (Mf : (Nat → Nat) → Nat → Nat) (W : (Nat → Nat) → Nat) (n : Nat) (j : Nat) (a : Nat → Nat) (t : Nat) : Nat := match j with
  | 0 => 0
  | k + 1 => rmPg C Mf W n a k + (if k < n then sf (tgg C Mf W (n - k - 1) a k) (Mf a k) t else W a)
theorem gt_s {C : (Nat → Nat) → Nat → Bool} {Mf : (Nat → Nat) → Nat → Nat} {W : (Nat → Nat) → Nat} {r : Nat} {a : Nat → Nat} {k : Nat} : gt C Mf W (r + 1) a k = sf (tgg C Mf W r a k) (Mf a k) 0 := by
  rw [sf_0]
  rfl
theorem rmg_0 {C : (Nat → Nat) → Nat → Bool} {Mf : (Nat → Nat) → Nat → Nat} {W : (Nat → Nat) → Nat} {n : Nat} {a : Nat → Nat} : rmg C Mf W n 1 a 0 = gt C Mf W n a 0 := by
  show 0 + (if 0 < n then sf (tgg C Mf W (n - 0 - 1) a 0) (Mf a 0) 0 else W a) = _
  cases n with
  | zero => rw [if_neg (by omega), Nat.zero_add]; rfl
  | succ n => rw [if_pos (by omega), gt_s]; simp
theorem rmg_leaf {C : (Nat → Nat) → Nat → Bool} {Mf : (Nat → Nat) → Nat → Nat} {W : (Nat → Nat) → Nat} {n : Nat} {a : Nat → Nat} {t : Nat} : rmg C Mf W n (n + 1) a t = rmg C Mf W n n a (a (n - 1) + 1) + W a := by
  show rmPg C Mf W n a n + (if n < n then _ else W a) = _
  rw [if_neg (by omega)]
  cases n with
  | zero => rfl
  | succ n =>
    show rmPg C Mf W (n + 1) a n + sf (tgg C Mf W (n + 1 - n - 1) a n) (Mf a n) (a n + 1) + W a = rmPg C Mf W (n + 1) a n + (if n < n + 1 then sf (tgg C Mf W (n + 1 - n - 1) a n) (Mf a n) (a n + 1) else W a) + W a
    rw [if_pos (by omega)]
theorem rmg_up {C : (Nat → Nat) → Nat → Bool} {Mf : (Nat → Nat) → Nat → Nat} {W : (Nat → Nat) → Nat} {n k t : Nat} {a : Nat → Nat} (hk : k < n) (ht : t ≤ Mf a k) (hz : ∀ s, t ≤ s → s < Mf a k → C (ly a k s) k = false) : rmg C Mf W n (k + 1) a t = rmg C Mf W n k a (a (k - 1) + 1) := by
  show rmPg C Mf W n a k + (if k < n then sf (tgg C Mf W (n - k - 1) a k) (Mf a k) t else W a) = _
  have e : sf (tgg C Mf W (n - k - 1) a k) (Mf a k) t = 0 := by
    have := sf_skip (g := tgg C Mf W (n - k - 1) a k) (M := Mf a k) (s := t) (Mf a k - t) (by omega) (fun s h1 h2 => by
      unfold tgg
      rw [hz s h1 (by omega)]
      rfl)
    rw [this, sf_e (by omega)]
  rw [if_pos hk, e]
  cases k with
  | zero => rfl
  | succ k =>
    show rmPg C Mf W n a k + sf (tgg C Mf W (n - k - 1) a k) (Mf a k) (a k + 1) + 0 = rmPg C Mf W n a k + (if k < n then sf (tgg C Mf W (n - k - 1) a k) (Mf a k) (a k + 1) else W a)
    rw [if_pos (by omega)]
    omega
theorem rmg_down {C : (Nat → Nat) → Nat → Bool} {Mf : (Nat → Nat) → Nat → Nat} {W : (Nat → Nat) → Nat} {n k t t' : Nat} (hC : Loc C) (hM : LocM Mf) (hW : LocW n W) {a : Nat → Nat} (hk : k < n) (ht : t ≤ t') (h' : t' < Mf a k) (hz : ∀ s, t ≤ s → s < t' → C (ly a k s) k = false) (hc : C (ly a k t') k = true) : rmg C Mf W n (k + 1) a t = rmg C Mf W n (k + 2) (ly a k t') 0 := by
  show rmPg C Mf W n a k + (if k < n then sf (tgg C Mf W (n - k - 1) a k) (Mf a k) t else W a) = rmPg C Mf W n (ly a k t') k + sf (tgg C Mf W (n - k - 1) (ly a k t') k) (Mf (ly a k t') k) (ly a k t' k + 1) + (if k + 1 < n then sf (tgg C Mf W (n - (k + 1) - 1) (ly a k t') (k + 1)) (Mf (ly a k t') (k + 1)) 0 else W (ly a k t'))
  have e1 : rmPg C Mf W n (ly a k t') k = rmPg C Mf W n a k := sm_ext (fun p hp => by
    rw [tgg_cg hC hM hW (by omega) (fun j hj => ly_lt (by omega)), hM (ly a k t') a p (fun j hj => ly_lt (by omega)), ly_lt hp])
  have e2 : tgg C Mf W (n - k - 1) (ly a k t') k = tgg C Mf W (n - k - 1) a k := tgg_cg hC hM hW hk (fun j hj => ly_lt hj)
  have e5 : Mf (ly a k t') k = Mf a k := hM _ _ _ (fun j hj => ly_lt hj)
  have e3 : sf (tgg C Mf W (n - k - 1) a k) (Mf a k) t = tgg C Mf W (n - k - 1) a k t' + sf (tgg C Mf W (n - k - 1) a k) (Mf a k) (t' + 1) := by
    have := sf_skip (g := tgg C Mf W (n - k - 1) a k) (M := Mf a k) (s := t) (t' - t) (by omega) (fun s h1 h2 => by
      unfold tgg
      rw [hz s h1 (by omega)]
      rfl)
    rw [show t + (t' - t) = t' by omega] at this
    rw [this, sf_s h']
  have e4 : tgg C Mf W (n - k - 1) a k t' = (if k + 1 < n then sf (tgg C Mf W (n - (k + 1) - 1) (ly a k t') (k + 1)) (Mf (ly a k t') (k + 1)) 0 else W (ly a k t')) := by
    unfold tgg
    rw [hc, if_pos rfl]
    by_cases e : k + 1 < n
    · rw [if_pos e, show n - k - 1 = (n - (k + 1) - 1) + 1 by omega, gt_s]
      rfl
    · rw [if_neg e, show n - k - 1 = 0 by omega]
      rfl
  rw [if_pos hk, e1, e2, e5, e3, e4, ly_eq]
  omega
/-- how many classes the first so many have -/
def mn (a : Nat → Nat) : Nat → Nat
  | 0 => 0
  | p + 1 => if a p = mn a p then mn a p + 1 else mn a p
theorem mn_cg {a b : Nat → Nat} : ∀ {k : Nat}, (∀ j, j < k → a j = b j) → mn a k = mn b k
  | 0, _ => rfl
  | k + 1, h => by
    show (if a k = mn a k then mn a k + 1 else mn a k) = (if b k = mn b k then mn b k + 1 else mn b k)
    rw [mn_cg (k := k) (fun j hj => h j (by omega)), h k (by omega)]
theorem mn_le {a : Nat → Nat} : ∀ k, mn a k ≤ k
  | 0 => Nat.le_refl _
  | k + 1 => by
    have := mn_le (a := a) k
    show (if a k = mn a k then mn a k + 1 else mn a k) ≤ k + 1
    by_cases e : a k = mn a k
    · rw [if_pos e]; omega
    · rw [if_neg e]; omega
/-- apart from all before in its class, and no loop -/
noncomputable def aP (X : HG) (a : Nat → Nat) (k : Nat) : Bool := @decide (X.2.2 k k = 0 ∧ ∀ j, j < k → a j = a k → X.2.2 k j = 0) (Classical.propDecidable _)
theorem aP_t {X : HG} {a : Nat → Nat} {k : Nat} : aP X a k = true ↔ X.2.2 k k = 0 ∧ ∀ j, j < k → a j = a k → X.2.2 k j = 0 := ⟨fun h => @of_decide_eq_true _ (Classical.propDecidable _) h, fun h => @decide_eq_true _ (Classical.propDecidable _) h⟩
theorem aP_loc (X : HG) : Loc (aP X) := fun a b k h => by
  have key : ∀ a b : Nat → Nat, (∀ j, j ≤ k → a j = b j) → aP X a k = true → aP X b k = true := fun a b h h1 => by
    rw [aP_t] at h1 ⊢
    refine ⟨h1.1, fun j hj e => h1.2 j hj ?_⟩
    rw [h j (by omega), h k (Nat.le_refl _), e]
  cases h1 : aP X a k with
  | true => exact (key a b h h1).symm
  | false =>
    cases h2 : aP X b k with
    | false => rfl
    | true => rw [key b a (fun j hj => (h j hj).symm) h2] at h1; cases h1
def mP (a : Nat → Nat) (k : Nat) : Nat := mn a k + 1
theorem mP_loc : LocM mP := fun a b k h => by unfold mP; rw [mn_cg h]
def wP (n K : Nat) (a : Nat → Nat) : Nat := if mn a n = K then 1 else 0
theorem wP_loc (n K : Nat) : LocW n (wP n K) := fun a b h => by unfold wP; rw [mn_cg h]
/-- falling powers -/
def ff (q : Nat) : Nat → Nat
  | 0 => 1
  | k + 1 => ff q k * (q - k)
theorem sm_mulr (f : Nat → Nat) (m : Nat) : ∀ n, sm f n * m = sm (fun i => f i * m) n
  | 0 => Nat.zero_mul m
  | n + 1 => by
    show (sm f n + f n) * m = sm (fun i => f i * m) n + f n * m
    rw [Nat.add_mul, sm_mulr f m n]
theorem col_id {X : HG} (hn : X.1 ≤ 8) (hl : ∀ v, v < X.1 → X.2.2 v v = 0) (q : Nat) : ∀ (r : Nat) (a : Nat → Nat) (k : Nat), k + r = X.1 → (∀ j, j < k → a j < mn a k) → cr X q r a k (mn a k) * ff q (mn a k) = sm (fun K => gt (aP X) mP (wP X.1 K) r a k * ff q K) 9
  | 0, a, k, e, ha => by
    have hk : k = X.1 := by omega
    have hle := mn_le (a := a) k
    show 1 * ff q (mn a k) = sm (fun K => wP X.1 K a * ff q K) 9
    have e1 : sm (fun K => wP X.1 K a * ff q K) 9 = sm (fun K => if decide (K = mn a k) = true then ff q K else 0) 9 := sm_ext (fun K _ => by
      unfold wP
      rw [← hk]
      by_cases h : mn a k = K
      · rw [if_pos h, if_pos (decide_eq_true h.symm), Nat.one_mul]
      · rw [if_neg h, if_neg (by rw [decide_eq_true_iff]; exact fun h' => h h'.symm), Nat.zero_mul])
    rw [e1, sm_one (by omega), Nat.one_mul]
  | r + 1, a, k, e, ha => by
    have hk : k < X.1 := by omega
    have e1 : ∀ c, c < mn a k → mn (ly a k c) (k + 1) = mn a k := fun c hc => by
      show (if ly a k c k = mn (ly a k c) k then _ + 1 else _) = _
      rw [mn_cg (a := ly a k c) (b := a) (fun j hj => ly_lt hj), ly_eq, if_neg (by omega)]
    have e2 : mn (ly a k (mn a k)) (k + 1) = mn a k + 1 := by
      show (if ly a k (mn a k) k = mn (ly a k (mn a k)) k then _ + 1 else _) = _
      rw [mn_cg (a := ly a k (mn a k)) (b := a) (fun j hj => ly_lt hj), ly_eq, if_pos rfl]
    have hin : ∀ c, c ≤ mn a k → ∀ j, j < k + 1 → ly a k c j < mn (ly a k c) (k + 1) := fun c hc j hj => by
      by_cases h : c = mn a k
      · rw [h, e2]
        by_cases e : j = k
        · rw [e, ly_eq]; omega
        · rw [ly_lt (by omega)]
          have := ha j (by omega)
          omega
      · rw [e1 c (by omega)]
        by_cases e : j = k
        · rw [e, ly_eq]; omega
        · rw [ly_lt (by omega)]
          exact ha j (by omega)
    have eP : ∀ c, aP X (ly a k c) k = cP X a k c := fun c => by
      have : aP X (ly a k c) k = true ↔ cP X a k c = true := by
        rw [aP_t, cP_t, ly_eq]
        exact ⟨fun h j hj e => h.2 j hj (by rw [ly_lt hj]; exact e), fun h => ⟨hl k hk, fun j hj e => h j hj (by rw [ly_lt hj] at e; exact e)⟩⟩
      cases h1 : cP X a k c with
      | true => exact this.mpr h1
      | false =>
        cases h2 : aP X (ly a k c) k with
        | false => rfl
        | true => rw [this.mp h2] at h1; cases h1
    have eN : cP X a k (mn a k) = true := cP_t.mpr (fun j hj e => by have := ha j hj; omega)
    have ih : ∀ c, c ≤ mn a k → cr X q r (ly a k c) (k + 1) (mn (ly a k c) (k + 1)) * ff q (mn (ly a k c) (k + 1)) = sm (fun K => gt (aP X) mP (wP X.1 K) r (ly a k c) (k + 1) * ff q K) 9 := fun c hc => col_id hn hl q r (ly a k c) (k + 1) (by omega) (hin c hc)
    /- the right side, class by class -/
    have e3 : sm (fun K => gt (aP X) mP (wP X.1 K) (r + 1) a k * ff q K) 9 = sm (fun c => if cP X a k c = true then cr X q r (ly a k c) (k + 1) (mn (ly a k c) (k + 1)) * ff q (mn (ly a k c) (k + 1)) else 0) (mn a k + 1) := by
      have e4 : sm (fun K => gt (aP X) mP (wP X.1 K) (r + 1) a k * ff q K) 9 = sm (fun K => sm (fun c => (if aP X (ly a k c) k = true then gt (aP X) mP (wP X.1 K) r (ly a k c) (k + 1) else 0) * ff q K) (mn a k + 1)) 9 := sm_ext (fun K _ => sm_mulr _ _ _)
      rw [e4, sm_comm (fun K c => (if aP X (ly a k c) k = true then gt (aP X) mP (wP X.1 K) r (ly a k c) (k + 1) else 0) * ff q K) (mn a k + 1) 9]
      refine sm_ext (fun c hc => ?_)
      rw [eP c]
      by_cases h : cP X a k c = true
      · rw [if_pos h, ih c (by omega)]
        exact sm_ext (fun K _ => by rw [if_pos h])
      · rw [if_neg h]
        have : sm (fun K => (if cP X a k c = true then gt (aP X) mP (wP X.1 K) r (ly a k c) (k + 1) else 0) * ff q K) 9 = sm (fun _ => 0) 9 := sm_ext (fun K _ => by rw [if_neg h, Nat.zero_mul])
        rw [this, sm_0]
    rw [e3]
    show (sm (fun c => if cP X a k c = true then cr X q r (ly a k c) (k + 1) (mn a k) else 0) (mn a k) + (if mn a k < q then (q - mn a k) * cr X q r (ly a k (mn a k)) (k + 1) (mn a k + 1) else 0)) * ff q (mn a k) = sm (fun c => if cP X a k c = true then cr X q r (ly a k c) (k + 1) (mn (ly a k c) (k + 1)) * ff q (mn (ly a k c) (k + 1)) else 0) (mn a k) + (if cP X a k (mn a k) = true then cr X q r (ly a k (mn a k)) (k + 1) (mn (ly a k (mn a k)) (k + 1)) * ff q (mn (ly a k (mn a k)) (k + 1)) else 0)
    rw [if_pos eN, e2, Nat.add_mul, sm_mulr]
    have e5 : sm (fun c => (if cP X a k c = true then cr X q r (ly a k c) (k + 1) (mn a k) else 0) * ff q (mn a k)) (mn a k) = sm (fun c => if cP X a k c = true then cr X q r (ly a k c) (k + 1) (mn (ly a k c) (k + 1)) * ff q (mn (ly a k c) (k + 1)) else 0) (mn a k) := sm_ext (fun c hc => by
      by_cases h : cP X a k c = true
      · rw [if_pos h, if_pos h, e1 c hc]
      · rw [if_neg h, if_neg h, Nat.zero_mul])
    rw [e5]
    show _ = _ + cr X q r (ly a k (mn a k)) (k + 1) (mn a k + 1) * (ff q (mn a k) * (q - mn a k))
    by_cases h : mn a k < q
    · rw [if_pos h, Nat.mul_comm (ff q (mn a k)) (q - mn a k), ← Nat.mul_assoc, Nat.mul_comm (q - mn a k) (cr X q r (ly a k (mn a k)) (k + 1) (mn a k + 1))]
    · rw [if_neg h, show q - mn a k = 0 by omega]
      simp
