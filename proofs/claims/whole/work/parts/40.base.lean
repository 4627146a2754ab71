/-! THE MATH. 40: what holds behind a pure program (wp), its rules; frames; small numbers; bits; graphs in the memory -/
def wp {R : Type} (m : Option (R × HMem)) (Q : R → HMem → Prop) : Prop := ∃ r μ, m = some (r, μ) ∧ Q r μ
theorem w_ret {R : Type} {r : R} {μ : HMem} {Q : R → HMem → Prop} (h : Q r μ) : wp (some (r, μ)) Q := ⟨r, μ, rfl, h⟩
theorem w_mono {R : Type} {m : Option (R × HMem)} {Q Q' : R → HMem → Prop} (h : wp m Q) (k : ∀ r μ, Q r μ → Q' r μ) : wp m Q' := by
  obtain ⟨r, μ, e, hq⟩ := h
  exact ⟨r, μ, e, k r μ hq⟩
theorem w_bd {R R' : Type} {F : Option (R' × HMem)} {K : R' → HMem → Option (R × HMem)} {Q1 : R' → HMem → Prop} {Q : R → HMem → Prop} (h : wp F Q1) (k : ∀ r μ, Q1 r μ → wp (K r μ) Q) : wp (h_bd F K) Q := by
  obtain ⟨r, μ, e, hq⟩ := h
  have := k r μ hq
  rw [e]
  exact this
theorem w_let {R α : Type} {x : α} {f : α → Option (R × HMem)} {Q : R → HMem → Prop} (k : wp (f x) Q) : wp (h_let x f) Q := k
theorem w_chk {R : Type} {i : Int32} {n : Nat} {F : Option (R × HMem)} {Q : R → HMem → Prop} (h : vp_in i n) (k : wp F Q) : wp (h_chk i n F) Q := by
  unfold h_chk
  rw [if_neg h]
  exact k
theorem w_chk2 {R : Type} {sp dp n : Int32} {n0 n1 : Nat} {F : Option (R × HMem)} {Q : R → HMem → Prop} (h : ¬ (sp < 0 ∨ dp < 0 ∨ n < 0 ∨ n0 < sp.toNatClampNeg + n.toNatClampNeg ∨ n1 < dp.toNatClampNeg + n.toNatClampNeg)) (k : wp F Q) : wp (h_chk2 sp dp n n0 n1 F) Q := by
  unfold h_chk2
  rw [if_neg h]
  exact k
theorem w_if {R : Type} {c : Prop} [Decidable c] {A B : Option (R × HMem)} {Q : R → HMem → Prop} (a : c → wp A Q) (b : ¬ c → wp B Q) : wp (if c then A else B) Q := by
  by_cases h : c
  · rw [if_pos h]; exact a h
  · rw [if_neg h]; exact b h
theorem w_t {R : Type} {c : Prop} [Decidable c] {A B : Option (R × HMem)} {Q : R → HMem → Prop} (h : c) (a : wp A Q) : wp (if c then A else B) Q := by rw [if_pos h]; exact a
theorem w_f {R : Type} {c : Prop} [Decidable c] {A B : Option (R × HMem)} {Q : R → HMem → Prop} (h : ¬ c) (a : wp B Q) : wp (if c then A else B) Q := by rw [if_neg h]; exact a
/-- throwing calls -/
theorem w_bdx {R R' : Type} {F : Option ((R' ⊕ Nat) × HMem)} {K : R' → HMem → Option ((R ⊕ Nat) × HMem)} {Q1 : (R' ⊕ Nat) → HMem → Prop} {Q : (R ⊕ Nat) → HMem → Prop} (h : wp F Q1) (k : ∀ r μ, Q1 (.inl r) μ → wp (K r μ) Q) (kx : ∀ e μ, Q1 (.inr e) μ → Q (.inr e) μ) : wp (h_bdx F K) Q := by
  obtain ⟨r, μ, e, hq⟩ := h
  cases r with
  | inl r =>
    have := k r μ hq
    rw [e]
    exact this
  | inr x =>
    rw [e]
    exact ⟨_, _, rfl, kx x μ hq⟩
theorem w_bdt {R R' : Type} {F : Option ((R' ⊕ Nat) × HMem)} {hd : Nat → Option R} {K : R' → HMem → Option (R × HMem)} {Q1 : (R' ⊕ Nat) → HMem → Prop} {Q : R → HMem → Prop} (h : wp F Q1) (k : ∀ r μ, Q1 (.inl r) μ → wp (K r μ) Q) (kx : ∀ e μ, Q1 (.inr e) μ → ∃ r, hd e = some r ∧ Q r μ) : wp (h_bdt F hd K) Q := by
  obtain ⟨r, μ, e, hq⟩ := h
  cases r with
  | inl r =>
    have := k r μ hq
    rw [e]
    exact this
  | inr x =>
    obtain ⟨r, h1, h2⟩ := kx x μ hq
    rw [e]
    refine ⟨r, μ, ?_, h2⟩
    show (hd x).map (fun r => (r, μ)) = _
    rw [h1]
    rfl
/-- a loop: by a measure that falls -/
theorem w_loop {σ : Type} (P : Nat → σ → Prop) (I : σ → Prop) (m : σ → Nat) (hs : ∀ k s, I s → (∀ s', I s' → m s' < m s → P k s') → P (k + 1) s) : ∀ k s, I s → m s < k → P k s := by
  intro k
  induction k with
  | zero => intro s _ h; exact absurd h (Nat.not_lt_zero _)
  | succ k ih => exact fun s hI hm => hs k s hI (fun s' hI' hm' => ih s' hI' (by omega))
/-- a loop that counts up to N -/
theorem w_for {σ : Type} (P : Nat → Nat → σ → Prop) (I : Nat → σ → Prop) (N : Nat) (he : ∀ k s, I N s → P (k + 1) N s) (hs : ∀ k i s, i < N → I i s → (∀ s', I (i + 1) s' → P k (i + 1) s') → P (k + 1) i s) (i0 : Nat) (s0 : σ) (hi : i0 ≤ N) (hf : N < 1000000000000) (h0 : I i0 s0) : P h_fuel i0 s0 := by
  have key : ∀ k i s, i ≤ N → N - i < k → I i s → P k i s := by
    intro k
    induction k with
    | zero => intro i s _ h; exact absurd h (Nat.not_lt_zero _)
    | succ k ih =>
      intro i s hi hk hI
      rcases Nat.lt_or_ge i N with h | h
      · exact hs k i s h hI (fun s' hI' => ih (i + 1) s' h (by omega) hI')
      · have : i = N := by omega
        subst this
        exact he k s hI
  exact key h_fuel i0 s0 hi (by unfold h_fuel; omega) h0
theorem w_loopF {σ : Type} (P : Nat → σ → Prop) (I : σ → Prop) (m : σ → Nat) (hs : ∀ k s, I s → (∀ s', I s' → m s' < m s → P k s') → P (k + 1) s) (s : σ) (h : I s) (hm : m s < 1000000000000) : P h_fuel s := w_loop P I m hs h_fuel s h hm
/-- frames: all cells but those from a to b are as before -/
def Fr (a b : Nat) (μ μ' : HMem) : Prop := ∀ c, (c < a ∨ b ≤ c) → μ'.1 c = μ.1 c ∧ μ'.2 c = μ.2 c
theorem Fr.refl (a b : Nat) (μ : HMem) : Fr a b μ μ := fun _ _ => ⟨rfl, rfl⟩
theorem Fr.trans {a b a1 b1 a2 b2 : Nat} {μ μ1 μ2 : HMem} (h1 : Fr a1 b1 μ μ1) (h2 : Fr a2 b2 μ1 μ2) (e1 : a ≤ a1) (e2 : b1 ≤ b) (e3 : a ≤ a2) (e4 : b2 ≤ b) : Fr a b μ μ2 := by
  intro c hc
  obtain ⟨p, q⟩ := h1 c (by omega)
  obtain ⟨p', q'⟩ := h2 c (by omega)
  exact ⟨p'.trans p, q'.trans q⟩
theorem Fr.wide {a b a1 b1 : Nat} {μ μ1 : HMem} (h1 : Fr a1 b1 μ μ1) (e1 : a ≤ a1) (e2 : b1 ≤ b) : Fr a b μ μ1 := fun c hc => h1 c (by omega)
theorem Fr.wi {a b c i : Nat} {x : Int32} {μ : HMem} (h1 : a ≤ c) (h2 : c < b) : Fr a b μ (h_wi μ c i x) := by
  intro d hd
  have : d ≠ c := by omega
  exact ⟨by simp [h_wi, this], rfl⟩
theorem Fr.wl {a b c i : Nat} {x : Int64} {μ : HMem} (h1 : a ≤ c) (h2 : c < b) : Fr a b μ (h_wl μ c i x) := by
  intro d hd
  have : d ≠ c := by omega
  exact ⟨rfl, by simp [h_wl, this]⟩
theorem Fr.i {a b c : Nat} {μ μ' : HMem} (h : Fr a b μ μ') (hc : c < a ∨ b ≤ c) : μ'.1 c = μ.1 c := (h c hc).1
theorem Fr.l {a b c : Nat} {μ μ' : HMem} (h : Fr a b μ μ') (hc : c < a ∨ b ≤ c) : μ'.2 c = μ.2 c := (h c hc).2
/-- what is written is read -/
theorem wi_s (μ : HMem) (c i : Nat) (x : Int32) : (h_wi μ c i x).1 c i = x := by simp [h_wi, upd]
theorem wi_n (μ : HMem) {c i d j : Nat} (x : Int32) (h : d ≠ c ∨ j ≠ i) : (h_wi μ c i x).1 d j = μ.1 d j := by
  by_cases hd : d = c
  · subst hd
    have : j ≠ i := by omega
    simp [h_wi, upd, this]
  · simp [h_wi, hd]
theorem wi_e (μ : HMem) (c i d j : Nat) (x : Int32) : (h_wi μ c i x).1 d j = if d = c ∧ j = i then x else μ.1 d j := by
  by_cases h : d = c ∧ j = i
  · obtain ⟨rfl, rfl⟩ := h; rw [if_pos ⟨rfl, rfl⟩]; exact wi_s ..
  · rw [if_neg h]; exact wi_n μ x (by omega)
theorem wi_o (μ : HMem) {c i d : Nat} (x : Int32) (h : d ≠ c) : (h_wi μ c i x).1 d = μ.1 d := by simp [h_wi, h]
theorem wi_l (μ : HMem) (c i : Nat) (x : Int32) : (h_wi μ c i x).2 = μ.2 := rfl
theorem wl_i (μ : HMem) (c i : Nat) (x : Int64) : (h_wl μ c i x).1 = μ.1 := rfl
theorem wl_e (μ : HMem) (c i d j : Nat) (x : Int64) : (h_wl μ c i x).2 d j = if d = c ∧ j = i then x else μ.2 d j := by
  by_cases hd : d = c
  · subst hd
    by_cases hj : j = i
    · simp [h_wl, vp_updL, hj]
    · simp [h_wl, vp_updL, hj]
  · simp [h_wl, hd]
/-- bits of an int -/
def bt (x : Int32) (i : Nat) : Bool := x.toBitVec.getLsbD i
theorem b_ext {x y : Int32} (h : ∀ i, i < 32 → bt x i = bt y i) : x = y := Int32.toBitVec_inj.mp (BitVec.eq_of_getLsbD_eq (fun i hi => h i hi))
theorem b_or (x y : Int32) (i : Nat) : bt (x ||| y) i = (bt x i || bt y i) := by unfold bt; rw [Int32.toBitVec_or, BitVec.getLsbD_or]
theorem b_and (x y : Int32) (i : Nat) : bt (x &&& y) i = (bt x i && bt y i) := by unfold bt; rw [Int32.toBitVec_and, BitVec.getLsbD_and]
theorem b_xor (x y : Int32) (i : Nat) : bt (x ^^^ y) i = (bt x i ^^ bt y i) := by unfold bt; rw [Int32.toBitVec_xor, BitVec.getLsbD_xor]
theorem b_big {x : Int32} {i : Nat} (h : 32 ≤ i) : bt x i = false := BitVec.getLsbD_of_ge _ _ h
theorem b_m1 : ∀ i, i < 32 → bt (-1) i = true := by decide +kernel
theorem b_0 (i : Nat) : bt 0 i = false := BitVec.getLsbD_zero
theorem s_l : ∀ n, n < 32 → ((nI n &&& 31).toBitVec.smod 32).toNat = n := by decide +kernel
theorem b_shl (n : Nat) (hn : n < 32) (x : Int32) {i : Nat} (hi : i < 32) : bt (x <<< (nI n &&& 31)) i = (decide (n ≤ i) && bt x (i - n)) := by
  unfold bt
  rw [Int32.toBitVec_shiftLeft]
  show (x.toBitVec <<< ((nI n &&& 31).toBitVec.smod 32).toNat).getLsbD i = _
  rw [s_l n hn, BitVec.getLsbD_shiftLeft]
  rcases Nat.lt_or_ge i n with h | h
  · simp [h, Nat.not_le.mpr h]
  · simp [hi, h, Nat.not_lt.mpr h]
theorem b_sshr (n : Nat) (hn : n < 32) (x : Int32) {i : Nat} (hi : i < 32) : bt (x >>> (nI n &&& 31)) i = if n + i < 32 then bt x (n + i) else bt x 31 := by
  unfold bt
  rw [Int32.toBitVec_shiftRight]
  show (x.toBitVec.sshiftRight ((nI n &&& 31).toBitVec.smod 32).toNat).getLsbD i = _
  rw [s_l n hn, BitVec.getLsbD_sshiftRight, BitVec.msb_eq_getLsbD_last]
  simp [hi]
theorem b_nI (k i : Nat) (hi : i < 32) : bt (nI k) i = k.testBit i := by
  show (BitVec.ofNat 32 k).getLsbD i = _
  rw [BitVec.getLsbD_ofNat]
  simp [hi]
theorem b_1 (i : Nat) : bt 1 i = decide (i = 0) := by
  rcases Nat.lt_or_ge i 32 with h | h
  · exact (by decide +kernel : ∀ i, i < 32 → bt 1 i = decide (i = 0)) i h
  · rw [b_big h]; simp; omega
/-- 1 << u -/
theorem b_one {u : Nat} (hu : u < 32) (i : Nat) : bt (h_ishl 1 (nI u)) i = decide (i = u) := by
  rcases Nat.lt_or_ge i 32 with h | h
  · unfold h_ishl
    rw [b_shl u hu 1 h, b_1]
    rcases Nat.lt_trichotomy i u with hh | hh | hh
    · have h1 : ¬ u ≤ i := by omega
      have h2 : ¬ i = u := by omega
      simp [h1, h2]
    · subst hh; simp
    · have h2 : ¬ i = u := by omega
      have h3 : ¬ i - u = 0 := by omega
      simp [h2, h3]
  · rw [b_big h]
    have : ¬ i = u := by omega
    simp [this]
/-- the complement of 1 << u, in an and -/
theorem b_not (x y : Int32) (i : Nat) : bt (x &&& (y ^^^ (-1))) i = (bt x i && !bt y i) := by
  rcases Nat.lt_or_ge i 32 with h | h
  · rw [b_and, b_xor, b_m1 i h]
    cases bt x i <;> cases bt y i <;> rfl
  · rw [b_big h, b_big h]; rfl
theorem b_xm (y : Int32) (i : Nat) (h : i < 32) : bt (y ^^^ (-1)) i = !bt y i := by rw [b_xor, b_m1 i h, Bool.xor_true]
theorem b_eq0 {x : Int32} : x = 0 ↔ ∀ i, i < 32 → bt x i = false := ⟨fun h i _ => by rw [h, b_0], fun h => b_ext (fun i hi => by rw [h i hi, b_0])⟩
/-- a bit, asked as the programs ask -/
theorem b_ask (x : Int32) {v : Nat} (hv : v < 32) : ((h_ishr x (nI v)) &&& 1) = 0 ↔ bt x v = false := by
  unfold h_ishr
  rw [b_eq0]
  constructor
  · intro h
    have := h 0 (by omega)
    rw [b_and, b_sshr v hv x (by omega), b_1, if_pos (by omega)] at this
    simpa using this
  · intro h i hi
    rw [b_and, b_1]
    by_cases h0 : i = 0
    · subst h0
      rw [b_sshr v hv x (by omega), if_pos (by omega)]
      simp [h]
    · simp [h0]
def bI (b : Bool) : Int32 := if b then 1 else 0
theorem bI_0 (b : Bool) : bI b = 0 ↔ b = false := by cases b <;> decide
theorem bI_1 (b : Bool) : bI b &&& 1 = bI b := by cases b <;> decide
theorem bI_n (b : Bool) : ¬ bI b = 0 ↔ b = true := by cases b <;> decide
/-- sets of the eight numbers -/
def S8 (x : Int32) : Prop := ∀ i, 8 ≤ i → bt x i = false
def cn (p : Nat → Bool) : Nat → Nat
  | 0 => 0
  | n + 1 => cn p n + (if p n then 1 else 0)
theorem cn_le (p : Nat → Bool) : ∀ n, cn p n ≤ n
  | 0 => Nat.le_refl _
  | n + 1 => by
    have := cn_le p n
    unfold cn
    split <;> omega
theorem cn_ext {p q : Nat → Bool} : ∀ {n : Nat}, (∀ i, i < n → p i = q i) → cn p n = cn q n
  | 0, _ => rfl
  | n + 1, h => by
    unfold cn
    rw [cn_ext (fun i hi => h i (by omega)), h n (by omega)]
theorem cn_mono {p q : Nat → Bool} : ∀ {n : Nat}, (∀ i, i < n → p i = true → q i = true) → cn p n ≤ cn q n
  | 0, _ => Nat.le_refl _
  | n + 1, h => by
    have h1 := cn_mono (n := n) (fun i hi => h i (by omega))
    have h2 := h n (by omega)
    unfold cn
    cases hp : p n <;> cases hq : q n <;> simp_all <;> omega
theorem cn_lt {p q : Nat → Bool} : ∀ {n : Nat}, (∀ i, i < n → p i = true → q i = true) → (∃ i, i < n ∧ p i = false ∧ q i = true) → cn p n < cn q n
  | 0, _, ⟨i, hi, _⟩ => absurd hi (Nat.not_lt_zero _)
  | n + 1, h, ⟨i, hi, h1, h2⟩ => by
    unfold cn
    rcases Nat.lt_or_ge i n with hh | hh
    · have h3 := cn_lt (n := n) (fun i hi => h i (by omega)) ⟨i, hh, h1, h2⟩
      have h4 := h n (by omega)
      cases hp : p n <;> cases hq : q n <;> simp_all <;> omega
    · have : i = n := by omega
      subst this
      have h3 := cn_mono (n := i) (fun j hj => h j (by omega))
      rw [h1, h2]
      simp
      omega
theorem cn_true : ∀ n, cn (fun _ => true) n = n
  | 0 => rfl
  | n + 1 => by unfold cn; rw [cn_true n]; rfl
theorem cn_false : ∀ n, cn (fun _ => false) n = 0
  | 0 => rfl
  | n + 1 => by unfold cn; rw [cn_false n]; rfl
theorem cn_zero {p : Nat → Bool} {n : Nat} (h : ∀ i, i < n → p i = false) : cn p n = 0 := (cn_ext h).trans (cn_false n)
theorem cn_of0 {p : Nat → Bool} {n : Nat} (h : cn p n = 0) : ∀ i, i < n → p i = false := by
  intro i hi
  cases hp : p i with
  | false => rfl
  | true =>
    have := cn_lt (p := fun _ => false) (q := p) (n := n) (fun _ _ h => by cases h) ⟨i, hi, rfl, hp⟩
    omega
theorem cn_add {p : Nat → Bool} (n : Nat) : ∀ d, (∀ i, n ≤ i → i < n + d → p i = false) → cn p (n + d) = cn p n
  | 0, _ => rfl
  | d + 1, h => by
    show cn p (n + d) + (if p (n + d) then 1 else 0) = _
    rw [cn_add n d (fun i h1 h2 => h i h1 (by omega)), h (n + d) (by omega) (by omega)]
    rfl
theorem s8_mask : ∀ {x : Int32}, S8 x → ∃ k, k < 256 ∧ x = nI k := by
  intro x h
  refine ⟨x.toBitVec.toNat % 256, Nat.mod_lt _ (by omega), b_ext (fun i hi => ?_)⟩
  rw [b_nI _ _ hi, show (256 : Nat) = 2 ^ 8 from rfl, Nat.testBit_mod_two_pow]
  rcases Nat.lt_or_ge i 8 with h1 | h1
  · simp only [h1, decide_true, Bool.true_and]; rfl
  · rw [h i h1]; simp; omega
theorem s8_nI {k : Nat} (h : k < 256) : S8 (nI k) := by
  intro i hi
  rcases Nat.lt_or_ge i 32 with h1 | h1
  · rw [b_nI _ _ h1]
    exact Nat.testBit_lt_two_pow (Nat.lt_of_lt_of_le h (Nat.pow_le_pow_right (n := 2) (by omega) hi))
  · exact b_big h1
def pcI (v0 : Int32) : Int32 :=
  let a := v0 - ((h_iushr v0 1) &&& 1431655765)
  let b := (a &&& 858993459) + ((h_iushr a 2) &&& 858993459)
  let c := (b + (h_iushr b 4)) &&& 252645135
  let d := c + (h_iushr c 8)
  let e := d + (h_iushr d 16)
  e &&& 63
theorem pc_256 : ∀ k, k < 256 → pcI (nI k) = nI (cn (fun i => bt (nI k) i) 8) := by decide +kernel
/-- Integer.bitCount of a set -/
theorem f_bitCount {x : Int32} (h : S8 x) (μ : HMem) : f_Integer_bitCount x μ = some (nI (cn (bt x) 8), μ) := by
  obtain ⟨k, hk, rfl⟩ := s8_mask h
  show some (pcI (nI k), μ) = _
  rw [pc_256 k hk]
/-- graphs: the number of vertices, the weights, the edge weights -/
abbrev HG : Type := Nat × (Nat → Int32) × (Nat → Nat → Int32)
def GV (G : HG) : Prop := G.1 ≤ 8 ∧ (∀ v, v < G.1 → -3 ≤ G.2.1 v ∧ G.2.1 v ≤ 3) ∧ (∀ u v, u < G.1 → v < G.1 → G.2.2 u v = G.2.2 v u ∧ -2 ≤ G.2.2 u v ∧ G.2.2 u v ≤ 2)
def IsG (g : Nat) : Prop := g % 4 = 0 ∧ g < 84
/-- a graph of the class -/
def CG (μ : HMem) (g : Nat) (G : HG) : Prop := μ.1 g 0 = nI G.1 ∧ (∀ v, v < G.1 → μ.1 (g + 1) v = G.2.1 v) ∧ (∀ u v, u < G.1 → v < G.1 → μ.1 (g + 2) (8 * u + v) = G.2.2 u v) ∧ (∀ u v, u < 8 → (bt (μ.1 (g + 3) u) v = true ↔ u < G.1 ∧ v < G.1 ∧ ¬ G.2.2 u v = 0))
/-- a graph of the reference, in a row from b on -/
def RG (f : Nat → Int32) (b : Nat) (G : HG) : Prop := f b = nI G.1 ∧ (∀ v, v < G.1 → f (b + 1 + v) = G.2.1 v) ∧ (∀ u v, u < G.1 → v < G.1 → f (b + 9 + 8 * u + v) = G.2.2 u v)
theorem CG.fr {μ μ' : HMem} {g a b : Nat} {G : HG} (h : CG μ g G) (hf : Fr a b μ μ') (hd : g + 4 ≤ a ∨ b ≤ g) : CG μ' g G := by
  unfold CG
  rw [hf.i (c := g) (by omega), hf.i (c := g + 1) (by omega), hf.i (c := g + 2) (by omega), hf.i (c := g + 3) (by omega)]
  exact h
theorem len_1 {g : Nat} (h : IsG g) : h_len (g + 1) = 8 := by
  obtain ⟨h1, h2⟩ := h
  unfold h_len
  rw [if_pos (by omega), if_neg (by omega)]
theorem len_2 {g : Nat} (h : IsG g) : h_len (g + 2) = 64 := by
  obtain ⟨h1, h2⟩ := h
  unfold h_len
  rw [if_pos (by omega), if_pos (by omega)]
theorem len_3 {g : Nat} (h : IsG g) : h_len (g + 3) = 8 := by
  obtain ⟨h1, h2⟩ := h
  unfold h_len
  rw [if_pos (by omega), if_neg (by omega)]
theorem ix8 (u v : Nat) : (8 * nI u) + nI v = nI (8 * u + v) := by
  show nI 8 * nI u + nI v = _
  rw [pk_mul, nI_add]
theorem in_8 {u : Nat} (h : u < 8) {N : Nat} (hN : N = 8) : vp_in (nI u) N := by subst hN; exact vp_in_nI h (by omega)
theorem in_N {u N : Nat} (h : u < N) (hN : N ≤ 2000) : vp_in (nI u) N := vp_in_nI h (by omega)
theorem cl_8 {u : Nat} (h : u < 2000) : (nI u).toNatClampNeg = u := nI_clamp (by omega)
