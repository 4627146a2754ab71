/-! 90: sums and products of longs; sums over the images of a set of vertices -/
theorem ly_ne {a : Nat → Nat} {k t u : Nat} (h : ¬ u = k) : ly a k t u = a u := if_neg h
def zL (f : Nat → Int64) : Nat → Int64
  | 0 => 0
  | n + 1 => zL f n + f n
def pL (f : Nat → Int64) : Nat → Int64
  | 0 => 1
  | n + 1 => pL f n * f n
theorem zL_ext {f g : Nat → Int64} : ∀ {n : Nat}, (∀ i, i < n → f i = g i) → zL f n = zL g n
  | 0, _ => rfl
  | n + 1, h => by
    show zL f n + f n = zL g n + g n
    rw [zL_ext (fun i hi => h i (by omega)), h n (by omega)]
theorem pL_ext {f g : Nat → Int64} : ∀ {n : Nat}, (∀ i, i < n → f i = g i) → pL f n = pL g n
  | 0, _ => rfl
  | n + 1, h => by
    show pL f n * f n = pL g n * g n
    rw [pL_ext (fun i hi => h i (by omega)), h n (by omega)]
theorem a4L (a b c d : Int64) : (a + b) + (c + d) = (a + c) + (b + d) := by
  rw [Int64.add_assoc, ← Int64.add_assoc b c d, Int64.add_comm b c, Int64.add_assoc c b d, ← Int64.add_assoc]
theorem m4L (a b c d : Int64) : (a * b) * (c * d) = (a * c) * (b * d) := by
  rw [Int64.mul_assoc, ← Int64.mul_assoc b c d, Int64.mul_comm b c, Int64.mul_assoc c b d, ← Int64.mul_assoc]
theorem zL_add (f g : Nat → Int64) : ∀ n, zL (fun i => f i + g i) n = zL f n + zL g n
  | 0 => rfl
  | n + 1 => by
    show zL (fun i => f i + g i) n + (f n + g n) = (zL f n + f n) + (zL g n + g n)
    rw [zL_add f g n, a4L]
theorem pL_mul (f g : Nat → Int64) : ∀ n, pL (fun i => f i * g i) n = pL f n * pL g n
  | 0 => rfl
  | n + 1 => by
    show pL (fun i => f i * g i) n * (f n * g n) = (pL f n * f n) * (pL g n * g n)
    rw [pL_mul f g n, m4L]
theorem zL_0 : ∀ n, zL (fun _ => 0) n = 0
  | 0 => rfl
  | n + 1 => by
    show zL (fun _ => 0) n + 0 = 0
    rw [zL_0 n]
    rfl
theorem pL_1 : ∀ n, pL (fun _ => 1) n = 1
  | 0 => rfl
  | n + 1 => by
    show pL (fun _ => 1) n * 1 = 1
    rw [pL_1 n]
    rfl
theorem zL_comm (f : Nat → Nat → Int64) (m : Nat) : ∀ n, zL (fun u => zL (fun v => f u v) m) n = zL (fun v => zL (fun u => f u v) n) m
  | 0 => (zL_0 m).symm
  | n + 1 => by
    show zL (fun u => zL (fun v => f u v) m) n + zL (fun v => f n v) m = zL (fun v => zL (fun u => f u v) n + f n v) m
    rw [zL_add, zL_comm f m n]
theorem zL_mulr (f : Nat → Int64) (c : Int64) : ∀ n, zL f n * c = zL (fun i => f i * c) n
  | 0 => Int64.zero_mul
  | n + 1 => by
    show (zL f n + f n) * c = zL (fun i => f i * c) n + f n * c
    rw [Int64.add_mul, zL_mulr f c n]
theorem zL_mull (f : Nat → Int64) (c : Int64) (n : Nat) : c * zL f n = zL (fun i => c * f i) n := by
  rw [Int64.mul_comm, zL_mulr]
  exact zL_ext (fun i _ => Int64.mul_comm _ _)
theorem pL_zero {f : Nat → Int64} {i : Nat} (h : f i = 0) : ∀ {n : Nat}, i < n → pL f n = 0
  | 0, hi => absurd hi (Nat.not_lt_zero _)
  | n + 1, hi => by
    show pL f n * f n = 0
    rcases Nat.lt_or_ge i n with h1 | h1
    · rw [pL_zero h h1, Int64.zero_mul]
    · have : i = n := by omega
      rw [← this, h, Int64.mul_zero]
theorem pL_one {f : Nat → Int64} {r : Nat} : ∀ {n : Nat}, r < n → (∀ i, i < n → i ≠ r → f i = 1) → pL f n = f r
  | 0, hi, _ => absurd hi (Nat.not_lt_zero _)
  | n + 1, hi, h => by
    show pL f n * f n = f r
    rcases Nat.lt_or_ge r n with h1 | h1
    · rw [pL_one h1 (fun i h2 h3 => h i (by omega) h3), h n (by omega) (by omega), Int64.mul_one]
    · have e : r = n := by omega
      subst e
      rw [pL_ext (g := fun _ => 1) (fun i hi => h i (by omega) (by omega)), pL_1, Int64.one_mul]
/-- a product that is 0 stays so -/
theorem pL_up {f : Nat → Int64} {c : Int64} {i : Nat} (h : c * pL f i = 0) : ∀ d, c * pL f (i + d) = 0
  | 0 => h
  | d + 1 => by
    show c * (pL f (i + d) * f (i + d)) = 0
    rw [← Int64.mul_assoc, pL_up h d, Int64.zero_mul]
theorem pL_up' {f : Nat → Int64} {c : Int64} {i n : Nat} (hi : i ≤ n) (h : c * pL f i = 0) : c * pL f n = 0 := by
  have := pL_up h (n - i)
  rw [show i + (n - i) = n by omega] at this
  exact this
theorem pL_cut {f : Nat → Int64} {k : Nat} : ∀ d, (∀ i, k ≤ i → f i = 1) → pL f (k + d) = pL f k
  | 0, _ => rfl
  | d + 1, h => by
    show pL f (k + d) * f (k + d) = pL f k
    rw [pL_cut d h, h (k + d) (by omega), Int64.mul_one]
/-- the sum over the images of the vertices of a set -/
def SS (M : Nat) (W : (Nat → Nat) → Int64) (S : Nat → Bool) : Nat → (Nat → Nat) → Int64
  | 0, a => W a
  | k + 1, a => if S k = true then zL (fun t => SS M W S k (ly a k t)) M else SS M W S k a
theorem ly_cm {a : Nat → Nat} {k r s t : Nat} (h : ¬ k = r) : ly (ly a k s) r t = ly (ly a r t) k s := by
  funext u
  unfold ly
  by_cases h1 : u = r
  · rw [if_pos h1, if_neg (by omega), if_pos h1]
  · rw [if_neg h1]
    by_cases h2 : u = k
    · rw [if_pos h2, if_pos h2]
    · rw [if_neg h2, if_neg h2, if_neg h1]
theorem ly_id {a : Nat → Nat} {k s t : Nat} : ly (ly a k s) k t = ly a k t := by
  funext u
  unfold ly
  by_cases h1 : u = k
  · rw [if_pos h1, if_pos h1]
  · rw [if_neg h1, if_neg h1, if_neg h1]
theorem SS_S {M : Nat} {W : (Nat → Nat) → Int64} {S S' : Nat → Bool} : ∀ {K : Nat} {a : Nat → Nat}, (∀ v, v < K → S v = S' v) → SS M W S K a = SS M W S' K a
  | 0, _, _ => rfl
  | K + 1, a, h => by
    unfold SS
    rw [h K (by omega), SS_S (K := K) (fun v hv => h v (by omega))]
    by_cases e : S' K = true
    · rw [if_pos e, if_pos e]
      exact zL_ext (fun t _ => SS_S (fun v hv => h v (by omega)))
    · rw [if_neg e, if_neg e]
theorem SS_W {M : Nat} {W W' : (Nat → Nat) → Int64} {S : Nat → Bool} : ∀ {K : Nat} {a : Nat → Nat}, (∀ b, (∀ v, (S v = false ∨ K ≤ v) → b v = a v) → (∀ v, v < K → S v = true → b v < M) → W b = W' b) → SS M W S K a = SS M W' S K a
  | 0, a, h => h a (fun _ _ => rfl) (fun v hv => absurd hv (Nat.not_lt_zero _))
  | K + 1, a, h => by
    unfold SS
    by_cases e : S K = true
    · rw [if_pos e, if_pos e]
      refine zL_ext (fun t ht => SS_W (fun b h1 h2 => h b (fun v hv => ?_) (fun v hv hs => ?_)))
      · rw [h1 v (by rcases hv with h | h; exact Or.inl h; exact Or.inr (by omega))]
        refine ly_ne (fun e2 => ?_)
        subst e2
        rcases hv with h | h
        · rw [h] at e; cases e
        · omega
      · rcases Nat.lt_or_ge v K with h3 | h3
        · exact h2 v h3 hs
        · have e3 : v = K := by omega
          rw [e3, h1 K (Or.inr (Nat.le_refl _)), ly_eq]
          exact ht
    · rw [if_neg e, if_neg e]
      refine SS_W (fun b h1 h2 => h b (fun v hv => ?_) (fun v hv hs => ?_))
      · exact h1 v (by rcases hv with h | h; exact Or.inl h; exact Or.inr (by omega))
      · rcases Nat.lt_or_ge v K with h3 | h3
        · exact h2 v h3 hs
        · have e3 : v = K := by omega
          rw [e3] at hs
          exact absurd hs e
theorem SS_0 {M : Nat} {S : Nat → Bool} : ∀ {K : Nat} {a : Nat → Nat}, SS M (fun _ => 0) S K a = 0
  | 0, _ => rfl
  | K + 1, a => by
    unfold SS
    by_cases e : S K = true
    · rw [if_pos e, zL_ext (g := fun _ => 0) (fun t _ => SS_0), zL_0]
    · rw [if_neg e, SS_0]
theorem SS_none {M : Nat} {W : (Nat → Nat) → Int64} {S : Nat → Bool} : ∀ {K : Nat} {a : Nat → Nat}, (∀ v, v < K → S v = false) → SS M W S K a = W a
  | 0, _, _ => rfl
  | K + 1, a, h => by
    unfold SS
    rw [if_neg (by rw [h K (by omega)]; decide), SS_none (fun v hv => h v (by omega))]
theorem SS_pull {M : Nat} {W : (Nat → Nat) → Int64} {S : Nat → Bool} {r : Nat} (hr : S r = true) : ∀ {K : Nat} {a : Nat → Nat}, r < K → SS M W S K a = zL (fun t => SS M W (ko S r) K (ly a r t)) M
  | 0, _, h => absurd h (Nat.not_lt_zero _)
  | K + 1, a, h => by
    by_cases e : r = K
    · subst e
      have e1 : ko S r r = false := by
        cases hh : ko S r r with
        | false => rfl
        | true => exact absurd rfl (ko_t.mp hh).2
      show (if S r = true then zL (fun t => SS M W S r (ly a r t)) M else SS M W S r a) = zL (fun t => if ko S r r = true then zL (fun t' => SS M W (ko S r) r (ly (ly a r t) r t')) M else SS M W (ko S r) r (ly a r t)) M
      rw [if_pos hr]
      refine zL_ext (fun t _ => ?_)
      rw [e1, if_neg (by decide)]
      refine SS_S (fun v hv => ?_)
      show S v = (S v && !decide (v = r))
      rw [decide_eq_false (by omega)]
      simp
    · have h1 : r < K := by omega
      have e1 : ko S r K = S K := by
        show (S K && !decide (K = r)) = S K
        rw [decide_eq_false (by omega)]
        simp
      show (if S K = true then zL (fun s => SS M W S K (ly a K s)) M else SS M W S K a) = zL (fun t => if ko S r K = true then zL (fun s => SS M W (ko S r) K (ly (ly a r t) K s)) M else SS M W (ko S r) K (ly a r t)) M
      rw [e1]
      by_cases hk : S K = true
      · rw [if_pos hk]
        have e2 : zL (fun s => SS M W S K (ly a K s)) M = zL (fun s => zL (fun t => SS M W (ko S r) K (ly (ly a r t) K s)) M) M := zL_ext (fun s _ => by
          rw [SS_pull hr h1]
          exact zL_ext (fun t _ => by rw [ly_cm (fun h => e h.symm)]))
        rw [e2, zL_comm]
        exact zL_ext (fun t _ => by rw [if_pos hk])
      · rw [if_neg hk, SS_pull hr h1]
        exact zL_ext (fun t _ => by rw [if_neg hk])
def Ig (W : (Nat → Nat) → Int64) (j : Nat) : Prop := ∀ b t, W (ly b j t) = W b
theorem SS_ig {M : Nat} {W : (Nat → Nat) → Int64} {S : Nat → Bool} {j t : Nat} (h : Ig W j) : ∀ {K : Nat} {a : Nat → Nat}, SS M W S K (ly a j t) = SS M W S K a
  | 0, a => h a t
  | K + 1, a => by
    unfold SS
    by_cases e : S K = true
    · rw [if_pos e, if_pos e]
      refine zL_ext (fun s _ => ?_)
      by_cases e2 : j = K
      · rw [e2, ly_id]
      · rw [ly_cm e2, SS_ig h]
    · rw [if_neg e, if_neg e, SS_ig h]
theorem SS_mul {M : Nat} {W1 W2 : (Nat → Nat) → Int64} {S S1 S2 : Nat → Bool} : ∀ {K : Nat} {a : Nat → Nat}, (∀ v, v < K → S v = (S1 v || S2 v)) → (∀ v, v < K → S1 v = true → S2 v = false) → (∀ v, v < K → S1 v = true → Ig W2 v) → (∀ v, v < K → S2 v = true → Ig W1 v) → SS M (fun b => W1 b * W2 b) S K a = SS M W1 S1 K a * SS M W2 S2 K a
  | 0, _, _, _, _, _ => rfl
  | K + 1, a, hS, hd, h2, h1 => by
    have ih : ∀ a, SS M (fun b => W1 b * W2 b) S K a = SS M W1 S1 K a * SS M W2 S2 K a := fun a => SS_mul (fun v hv => hS v (by omega)) (fun v hv => hd v (by omega)) (fun v hv => h2 v (by omega)) (fun v hv => h1 v (by omega))
    show (if S K = true then zL (fun t => SS M (fun b => W1 b * W2 b) S K (ly a K t)) M else SS M (fun b => W1 b * W2 b) S K a) = (if S1 K = true then zL (fun t => SS M W1 S1 K (ly a K t)) M else SS M W1 S1 K a) * (if S2 K = true then zL (fun t => SS M W2 S2 K (ly a K t)) M else SS M W2 S2 K a)
    rw [hS K (by omega)]
    cases e1 : S1 K with
    | true =>
      rw [hd K (by omega) e1, Bool.or_false, if_pos rfl, if_pos rfl, if_neg (by decide), zL_mulr]
      exact zL_ext (fun t _ => by rw [ih, SS_ig (h2 K (by omega) e1)])
    | false =>
      cases e2 : S2 K with
      | true =>
        rw [Bool.or_true, if_pos rfl, if_neg (by decide), if_pos rfl, zL_mull]
        exact zL_ext (fun t _ => by rw [ih, SS_ig (h1 K (by omega) e2)])
      | false => rw [Bool.or_false, if_neg (by decide), if_neg (by decide), if_neg (by decide), ih]
