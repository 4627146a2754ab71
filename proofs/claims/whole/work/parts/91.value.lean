/-! 91: the value of a map, set by set -/
def qq (nb : Nat → Nat → Bool) (S A : Nat → Bool) (v u : Nat) : Bool := decide (u ≤ v) && nb v u && ((S v && (S u || A u)) || (A v && S u))
def Wt (n : Nat) (nb : Nat → Nat → Bool) (w : Nat → Int64) (g : Nat → Nat → Int64) (S A : Nat → Bool) (a : Nat → Nat) : Int64 := pL (fun v => (if S v = true then w (a v) else 1) * pL (fun u => if qq nb S A v u = true then g (a v) (a u) else 1) n) n
theorem qb1 : ∀ d e s1v s2v s1u s2u av au : Bool, (s1v && s2v) = false → (s1u && s2u) = false → (e && (s1v && s2u)) = false → (e && (s2v && s1u)) = false → ((s1v || s2v) && av) = false → ((s1u || s2u) && au) = false → (d && e && (((s1v || s2v) && ((s1u || s2u) || au)) || (av && (s1u || s2u)))) = ((d && e && ((s1v && (s1u || au)) || (av && s1u))) || (d && e && ((s2v && (s2u || au)) || (av && s2u)))) ∧ ((d && e && ((s1v && (s1u || au)) || (av && s1u))) && (d && e && ((s2v && (s2u || au)) || (av && s2u)))) = false := by decide +kernel
theorem ifm {p q r : Bool} {x : Int64} (h1 : p = (q || r)) (h2 : (q && r) = false) : (if p = true then x else 1) = (if q = true then x else 1) * (if r = true then x else 1) := by
  subst h1
  cases q <;> cases r <;> simp at h2 ⊢
theorem Wt_mul {n : Nat} {nb : Nat → Nat → Bool} {w : Nat → Int64} {g : Nat → Nat → Int64} {S S1 S2 A : Nat → Bool} {a : Nat → Nat} (hs : ∀ v u, nb v u = nb u v) (hS : ∀ v, S v = (S1 v || S2 v)) (hd : ∀ v, (S1 v && S2 v) = false) (hA : ∀ v, ((S1 v || S2 v) && A v) = false) (hn : ∀ v u, (nb v u && (S1 v && S2 u)) = false) : Wt n nb w g S A a = Wt n nb w g S1 A a * Wt n nb w g S2 A a := by
  unfold Wt
  rw [← pL_mul]
  refine pL_ext (fun v _ => ?_)
  rw [m4L, ← pL_mul, ← ifm (hS v) (hd v)]
  congr 1
  refine pL_ext (fun u _ => ?_)
  have e := qb1 (decide (u ≤ v)) (nb v u) (S1 v) (S2 v) (S1 u) (S2 u) (A v) (A u) (hd v) (hd u) (hn v u) (by rw [hs v u, Bool.and_comm (S2 v)]; exact hn u v) (hA v) (hA u)
  refine ifm ?_ e.2
  unfold qq
  rw [hS v, hS u]
  exact e.1
def aO (A : Nat → Bool) (r : Nat) (v : Nat) : Bool := A v || decide (v = r)
def fR (n : Nat) (nb : Nat → Nat → Bool) (w : Nat → Int64) (g : Nat → Nat → Int64) (A : Nat → Bool) (r : Nat) (a : Nat → Nat) : Int64 := w (a r) * pL (fun u => if (nb r u && aO A r u) = true then g (a r) (a u) else 1) n
theorem qb2 : ∀ d e cv cu av au vr ur : Bool, (cv && av) = false → (cu && au) = false → (vr && !cv) = false → (ur && !cu) = false → (d && e && ((cv && (cu || au)) || (av && cu))) = (((vr && (d && e && (au || ur))) || (ur && (d && e && av))) || (d && e && (((cv && !vr) && ((cu && !ur) || (au || ur))) || ((av || vr) && (cu && !ur))))) ∧ ((vr && (d && e && (au || ur))) && (ur && (d && e && av))) = false ∧ (((vr && (d && e && (au || ur))) || (ur && (d && e && av))) && (d && e && (((cv && !vr) && ((cu && !ur) || (au || ur))) || ((av || vr) && (cu && !ur))))) = false := by decide +kernel
theorem Wt_root {n : Nat} {nb : Nat → Nat → Bool} {w : Nat → Int64} {g : Nat → Nat → Int64} {C A : Nat → Bool} {r : Nat} {a : Nat → Nat} (hs : ∀ v u, nb v u = nb u v) (hg : ∀ s t, g s t = g t s) (hr : C r = true) (hrn : r < n) (hA : ∀ v, (C v && A v) = false) : Wt n nb w g C A a = fR n nb w g A r a * Wt n nb w g (ko C r) (aO A r) a := by
  have hAr : A r = false := by have := hA r; rw [hr] at this; simpa using this
  have hv : ∀ v, (decide (v = r) && !C v) = false := fun v => by
    by_cases e : v = r
    · rw [e, hr]; simp
    · rw [decide_eq_false e]; rfl
  -- term by term
  have e1 : Wt n nb w g C A a = pL (fun v => (if v = r then w (a r) else 1) * ((pL (fun u => if (decide (v = r) && (decide (u ≤ v) && nb v u && (A u || decide (u = r)))) = true then g (a v) (a u) else 1) n * pL (fun u => if (decide (u = r) && (decide (u ≤ v) && nb v u && A v)) = true then g (a v) (a u) else 1) n)) * ((if ko C r v = true then w (a v) else 1) * pL (fun u => if qq nb (ko C r) (aO A r) v u = true then g (a v) (a u) else 1) n)) n := by
    refine pL_ext (fun v _ => ?_)
    rw [m4L, ← pL_mul, ← pL_mul]
    congr 1
    · by_cases e : v = r
      · have : ko C r v = false := by
          show (C v && !decide (v = r)) = false
          rw [e]; simp
        rw [if_pos e, this, e, if_pos hr, if_neg (show ¬ false = true by decide), Int64.mul_one]
      · have : ko C r v = C v := by
          show (C v && !decide (v = r)) = C v
          rw [decide_eq_false e]; simp
        rw [if_neg e, this, Int64.one_mul]
    · refine pL_ext (fun u _ => ?_)
      obtain ⟨q1, q2, q3⟩ := qb2 (decide (u ≤ v)) (nb v u) (C v) (C u) (A v) (A u) (decide (v = r)) (decide (u = r)) (hA v) (hA u) (hv v) (hv u)
      rw [← ifm rfl q2]
      exact ifm q1 q3
  rw [e1, pL_mul]
  show _ = fR n nb w g A r a * pL (fun v => (if ko C r v = true then w (a v) else 1) * pL (fun u => if qq nb (ko C r) (aO A r) v u = true then g (a v) (a u) else 1) n) n
  congr 1
  rw [pL_mul, pL_mul]
  unfold fR
  congr 1
  · rw [pL_one hrn (fun i _ h => if_neg h), if_pos rfl]
  · have e2 : pL (fun v => pL (fun u => if (decide (v = r) && (decide (u ≤ v) && nb v u && (A u || decide (u = r)))) = true then g (a v) (a u) else 1) n) n = pL (fun u => if (decide (u ≤ r) && nb r u && (A u || decide (u = r))) = true then g (a r) (a u) else 1) n := by
      rw [pL_one hrn (fun i _ h => ?_)]
      · refine pL_ext (fun u _ => ?_)
        rw [decide_eq_true (rfl : r = r), Bool.true_and]
      · rw [pL_ext (g := fun _ => 1) (fun u _ => ?_), pL_1]
        rw [decide_eq_false h, Bool.false_and, if_neg (by decide)]
    have e3 : pL (fun v => pL (fun u => if (decide (u = r) && (decide (u ≤ v) && nb v u && A v)) = true then g (a v) (a u) else 1) n) n = pL (fun v => if (decide (r ≤ v) && nb v r && A v) = true then g (a v) (a r) else 1) n := by
      refine pL_ext (fun v _ => ?_)
      rw [pL_one hrn (fun i _ h => ?_)]
      · rw [decide_eq_true (rfl : r = r), Bool.true_and]
      · rw [decide_eq_false h, Bool.false_and, if_neg (by decide)]
    rw [e2, e3, ← pL_mul]
    refine pL_ext (fun u _ => ?_)
    unfold aO
    rw [hs u r, hg (a u) (a r)]
    refine (ifm ?_ ?_).symm
    · by_cases e : u = r
      · rw [e, hAr]; simp
      · rw [decide_eq_false e]
        rcases Nat.lt_or_ge u r with h | h
        · rw [decide_eq_true (show u ≤ r by omega), decide_eq_false (show ¬ r ≤ u by omega)]; simp
        · rw [decide_eq_false (show ¬ u ≤ r by omega), decide_eq_true (show r ≤ u by omega)]; simp
    · by_cases e : u = r
      · rw [e, hAr]; simp
      · rcases Nat.lt_or_ge u r with h | h
        · rw [decide_eq_false (show ¬ r ≤ u by omega)]; simp
        · rw [decide_eq_false (show ¬ u ≤ r by omega)]; simp
theorem Wt_ig {n : Nat} {nb : Nat → Nat → Bool} {w : Nat → Int64} {g : Nat → Nat → Int64} {S A : Nat → Bool} {j : Nat} (h1 : S j = false) (h2 : A j = false) : Ig (Wt n nb w g S A) j := fun b t => by
  unfold Wt
  have ne : ∀ v, (S v || A v) = true → ¬ v = j := fun v hv e => by
    rw [e, h1, h2] at hv
    cases hv
  refine pL_ext (fun v _ => ?_)
  congr 1
  · by_cases e : S v = true
    · rw [if_pos e, if_pos e, ly_ne (ne v (by rw [e]; rfl))]
    · rw [if_neg e, if_neg e]
  · refine pL_ext (fun u _ => ?_)
    by_cases e : qq nb S A v u = true
    · rw [if_pos e, if_pos e]
      have e2 : (S v || A v) = true ∧ (S u || A u) = true := by
        revert e
        unfold qq
        cases S v <;> cases S u <;> cases A v <;> cases A u <;> simp
      rw [ly_ne (ne v e2.1), ly_ne (ne u e2.2)]
    · rw [if_neg e, if_neg e]
theorem fR_ig {n : Nat} {nb : Nat → Nat → Bool} {w : Nat → Int64} {g : Nat → Nat → Int64} {A : Nat → Bool} {r j : Nat} (h1 : ¬ j = r) (h2 : A j = false) : Ig (fR n nb w g A r) j := fun b t => by
  unfold fR
  rw [ly_ne (fun e => h1 e.symm)]
  congr 1
  refine pL_ext (fun u _ => ?_)
  by_cases e : (nb r u && aO A r u) = true
  · rw [if_pos e, if_pos e, ly_ne (fun e2 => ?_)]
    subst e2
    unfold aO at e
    rw [h2, decide_eq_false h1] at e
    simp at e
  · rw [if_neg e, if_neg e]
/-- the sum over all images of a set, those of another being given -/
def TT (n M : Nat) (nb : Nat → Nat → Bool) (w : Nat → Int64) (g : Nat → Nat → Int64) (S A : Nat → Bool) (a : Nat → Nat) : Int64 := SS M (Wt n nb w g S A) S n a
theorem TT_mul {n M : Nat} {nb : Nat → Nat → Bool} {w : Nat → Int64} {g : Nat → Nat → Int64} {S S1 S2 A : Nat → Bool} {a : Nat → Nat} (hs : ∀ v u, nb v u = nb u v) (hS : ∀ v, S v = (S1 v || S2 v)) (hd : ∀ v, (S1 v && S2 v) = false) (hA : ∀ v, ((S1 v || S2 v) && A v) = false) (hn : ∀ v u, (nb v u && (S1 v && S2 u)) = false) : TT n M nb w g S A a = TT n M nb w g S1 A a * TT n M nb w g S2 A a := by
  unfold TT
  rw [SS_W (W' := fun b => Wt n nb w g S1 A b * Wt n nb w g S2 A b) (fun b _ _ => Wt_mul hs hS hd hA hn)]
  refine SS_mul (fun v _ => hS v) (fun v _ h => ?_) (fun v _ h => Wt_ig ?_ ?_) (fun v _ h => Wt_ig ?_ ?_)
  · have := hd v; rw [h] at this; simpa using this
  · have := hd v; rw [h] at this; simpa using this
  · have := hA v; rw [h] at this; simpa using this
  · have := hd v; rw [h] at this; simpa using this
  · have := hA v; rw [h] at this; simpa using this
theorem TT_root {n M : Nat} {nb : Nat → Nat → Bool} {w : Nat → Int64} {g : Nat → Nat → Int64} {C A : Nat → Bool} {r : Nat} {a : Nat → Nat} (hs : ∀ v u, nb v u = nb u v) (hg : ∀ s t, g s t = g t s) (hr : C r = true) (hrn : r < n) (hA : ∀ v, (C v && A v) = false) : TT n M nb w g C A a = zL (fun t => fR n nb w g A r (ly a r t) * TT n M nb w g (ko C r) (aO A r) (ly a r t)) M := by
  unfold TT
  rw [SS_pull hr hrn]
  refine zL_ext (fun t _ => ?_)
  rw [SS_W (W' := fun b => fR n nb w g A r b * Wt n nb w g (ko C r) (aO A r) b) (fun b _ _ => Wt_root hs hg hr hrn hA), SS_mul (S1 := fun _ => false) (S2 := ko C r) (fun v _ => (Bool.false_or _).symm) (fun v _ h => (by cases h)) (fun v _ h => (by cases h)) (fun v _ h => fR_ig (ko_t.mp h).2 ?_), SS_none (fun v _ => rfl)]
  have := hA v
  rw [(ko_t.mp h).1] at this
  simpa using this
theorem TT_none {n M : Nat} {nb : Nat → Nat → Bool} {w : Nat → Int64} {g : Nat → Nat → Int64} {S A : Nat → Bool} {a : Nat → Nat} (h : ∀ v, v < n → S v = false) : TT n M nb w g S A a = 1 := by
  unfold TT
  rw [SS_none h]
  unfold Wt
  rw [pL_ext (g := fun _ => 1) (fun v hv => ?_), pL_1]
  rw [h v hv, if_neg (by decide), Int64.one_mul, pL_ext (g := fun _ => 1) (fun u hu => ?_), pL_1]
  unfold qq
  rw [h v hv, h u hu]
  rw [if_neg (by simp)]
/-- a vertex's part of the value, in the order of the numbers -/
def fac (n : Nat) (nb : Nat → Nat → Bool) (w : Nat → Int64) (g : Nat → Nat → Int64) (b : Nat → Nat) (v : Nat) : Int64 := w (b v) * pL (fun u => if (nb v u && decide (u ≤ v)) = true then g (b v) (b u) else 1) n
def vaL (n : Nat) (nb : Nat → Nat → Bool) (w : Nat → Int64) (g : Nat → Nat → Int64) (b : Nat → Nat) : Int64 := pL (fac n nb w g b) n
theorem Wt_al {n : Nat} {nb : Nat → Nat → Bool} {w : Nat → Int64} {g : Nat → Nat → Int64} {S : Nat → Bool} {a : Nat → Nat} (h : ∀ v, v < n → S v = true) : Wt n nb w g S (fun _ => false) a = vaL n nb w g a := by
  unfold Wt vaL fac
  refine pL_ext (fun v hv => ?_)
  rw [h v hv, if_pos rfl]
  congr 1
  refine pL_ext (fun u hu => ?_)
  unfold qq
  rw [h v hv, h u hu, Bool.and_comm (decide (u ≤ v))]
  simp
/-- sums in the order of the numbers -/
def ws (F : (Nat → Nat) → Nat → Int64) (M : Nat) : Nat → (Nat → Nat) → Nat → Int64
  | 0, _, _ => 1
  | r + 1, a, k => zL (fun t => F (ly a k t) k * ws F M r (ly a k t) (k + 1)) M
def LocF (F : (Nat → Nat) → Nat → Int64) : Prop := ∀ a b k, (∀ j, j ≤ k → a j = b j) → F a k = F b k
theorem ws_SS {F : (Nat → Nat) → Nat → Int64} (hF : LocF F) {M n : Nat} {W : (Nat → Nat) → Int64} (hW : ∀ b, (∀ j, j < n → b j < M) → W b = pL (F b) n) : ∀ (r : Nat) (a : Nat → Nat) (k : Nat), k + r = n → (∀ j, j < k → a j < M) → pL (F a) k * ws F M r a k = SS M W (fun v => decide (k ≤ v)) n a
  | 0, a, k, e, ha => by
    have e : k = n := by omega
    subst e
    show pL (F a) k * 1 = _
    rw [Int64.mul_one, SS_none (fun v hv => decide_eq_false (by omega)), hW a ha]
  | r + 1, a, k, e, ha => by
    have hk : k < n := by omega
    show pL (F a) k * zL (fun t => F (ly a k t) k * ws F M r (ly a k t) (k + 1)) M = _
    rw [zL_mull, SS_pull (r := k) (decide_eq_true (Nat.le_refl _)) hk]
    refine zL_ext (fun t ht => ?_)
    have ih := ws_SS hF hW r (ly a k t) (k + 1) (by omega) (fun j hj => ?_)
    · rw [← Int64.mul_assoc]
      have e1 : pL (F a) k = pL (F (ly a k t)) k := pL_ext (fun j hj => hF _ _ _ (fun i hi => (ly_lt (by omega)).symm))
      rw [e1]
      have e2 : SS M W (ko (fun v => decide (k ≤ v)) k) n (ly a k t) = SS M W (fun v => decide (k + 1 ≤ v)) n (ly a k t) := SS_S (fun v _ => by
        show (decide (k ≤ v) && !decide (v = k)) = decide (k + 1 ≤ v)
        rcases Nat.lt_trichotomy v k with h | h | h
        · rw [decide_eq_false (show ¬ k ≤ v by omega), decide_eq_false (show ¬ k + 1 ≤ v by omega)]; rfl
        · rw [decide_eq_true h, decide_eq_false (show ¬ k + 1 ≤ v by omega)]; simp
        · rw [decide_eq_true (show k ≤ v by omega), decide_eq_true (show k + 1 ≤ v by omega), decide_eq_false (show ¬ v = k by omega)]; rfl)
      rw [e2]
      exact ih
    · by_cases e3 : j = k
      · rw [e3, ly_eq]; exact ht
      · rw [ly_lt (by omega)]; exact ha j (by omega)
theorem ws_all {F : (Nat → Nat) → Nat → Int64} (hF : LocF F) {M n : Nat} {W : (Nat → Nat) → Int64} (hW : ∀ b, (∀ j, j < n → b j < M) → W b = pL (F b) n) {a : Nat → Nat} : ws F M n a 0 = SS M W (fun _ => true) n a := by
  have := ws_SS hF hW n a 0 (by omega) (fun j hj => absurd hj (Nat.not_lt_zero _))
  rw [show pL (F a) 0 = 1 from rfl, Int64.one_mul] at this
  rw [this]
  exact SS_S (fun v _ => decide_eq_true (Nat.zero_le _))
