/-! 87: reading a graph from a text (class) -/
/-- the code of the sign at a place -/
def cd (t : Nat × (Nat → Int32)) (p : Nat) : Nat := if p < t.1 then (t.2 p).toNatClampNeg else 999
def TO (t : Nat × (Nat → Int32)) : Prop := t.1 ≤ 120 ∧ ∀ k, k < t.1 → 0 ≤ t.2 k ∧ t.2 k ≤ 127
theorem cd_in {t : Nat × (Nat → Int32)} (h : TO t) {p : Nat} (hp : p < t.1) : t.2 p = nI (cd t p) ∧ cd t p < 128 := by
  have h1 := h.2 p hp
  obtain ⟨k, hk, e⟩ := rg_n (v := t.2 p) (n := 127) (by omega) (fun h2 => h2.elim (fun h3 => absurd h1.1 (Int32.not_le.mpr h3)) (fun h3 => absurd h1.2 (Int32.not_le.mpr h3)))
  unfold cd
  rw [if_pos hp, e, cl_8 (by omega)]
  exact ⟨rfl, by omega⟩
theorem cd_lt {t : Nat × (Nat → Int32)} {p c : Nat} (h : cd t p = c) (hc : c < 999) : p < t.1 := by
  rcases Nat.lt_or_ge p t.1 with h1 | h1
  · exact h1
  · unfold cd at h
    rw [if_neg (by omega)] at h
    omega
abbrev isD (t : Nat × (Nat → Int32)) (p m : Nat) : Prop := 48 ≤ cd t p ∧ cd t p < 48 + m
theorem isD_lt {t : Nat × (Nat → Int32)} {p m : Nat} (h : isD t p m) (hm : m < 10) : p < t.1 := cd_lt (c := cd t p) rfl (by have := h.2; omega)
theorem dg_c : ∀ c, c < 128 → ∀ m, m < 10 → (nI c < 48 ↔ c < 48) ∧ (nI c ≤ 48 + (nI m - 1) ↔ c < 48 + m) := by decide +kernel
theorem dg_v : ∀ c, c < 128 → 48 ≤ c → nI c - 48 = nI (c - 48) := by decide +kernel
theorem ac_c : ∀ c, c < 128 → ∀ k, k < 128 → (nI c = nI k ↔ c = k) := fun c hc k hk => nI_eq (by omega) (by omega)
theorem e_cdigit {t : Nat × (Nat → Int32)} (ht : TO t) {μ : HMem} (h : CT t μ) {p : Nat} (hp : μ.1 88 2 = nI p) (hp2 : p ≤ t.1) {m : Nat} (hm : m < 10) : f_Text_readDigit (nI m - 1) μ = if isD t p m then some (nI (cd t p - 48), h_wi μ 88 2 (nI (p + 1))) else some (-100, μ) := by
  have h120 := ht.1
  unfold f_Text_readDigit f_Text_readDigit_J41
  rw [h.1, hp]
  rcases Nat.lt_or_ge p t.1 with h1 | h1
  · rw [if_neg (nI_ge h1 (by omega)), chk_in (in_N (by rw [show h_len 89 = 120 from rfl]; omega) (by decide)), chk_in (in_N (by rw [show h_len 89 = 120 from rfl]; omega) (by decide)), chk_in (in_N (by rw [show h_len 89 = 120 from rfl]; omega) (by decide)), cl_8 (by omega), h.2 p h1]
    obtain ⟨e, hc⟩ := cd_in ht h1
    rw [e]
    obtain ⟨d1, d2⟩ := dg_c (cd t p) hc m hm
    by_cases h2 : cd t p < 48
    · rw [if_pos (d1.mpr h2), if_neg (by omega)]
    · rw [if_neg (fun h3 => h2 (d1.mp h3))]
      by_cases h3 : cd t p < 48 + m
      · rw [if_pos (d2.mpr h3), if_pos (by omega)]
        show some (nI (cd t p) - 48, h_wi μ 88 2 (nI p + 1)) = _
        rw [nI_1, dg_v _ hc (by omega)]
      · rw [if_neg (fun h4 => h3 (d2.mp h4)), if_neg (by omega)]
  · rw [if_pos (nI_le h1 (by omega)), if_neg (fun h2 => absurd (isD_lt h2 hm) (by omega))]
theorem e_caccept {t : Nat × (Nat → Int32)} (ht : TO t) {μ : HMem} (h : CT t μ) {p : Nat} (hp : μ.1 88 2 = nI p) (hp2 : p ≤ t.1) {c : Nat} (hc : c < 128) : f_Text_accept (nI c) μ = if cd t p = c then some (1, h_wi μ 88 2 (nI (p + 1))) else some (0, μ) := by
  have h120 := ht.1
  unfold f_Text_accept f_Text_accept_J24
  rw [h.1, hp]
  rcases Nat.lt_or_ge p t.1 with h1 | h1
  · rw [if_neg (nI_ge h1 (by omega)), chk_in (in_N (by rw [show h_len 89 = 120 from rfl]; omega) (by decide)), cl_8 (by omega), h.2 p h1]
    obtain ⟨e, hc2⟩ := cd_in ht h1
    rw [e]
    by_cases h2 : cd t p = c
    · rw [if_pos (by rw [h2]), if_pos h2]
      show (if (1 : Int32) &&& 1 = 1 then some ((1 : Int32), h_wi μ 88 2 (nI p + 1)) else none) = _
      rw [if_pos (by decide), nI_1]
    · rw [if_neg (fun h3 => h2 ((ac_c _ hc2 c hc).mp h3)), if_neg h2, if_pos (by decide)]
  · rw [if_pos (nI_le h1 (by omega)), if_neg (fun h2 => absurd (cd_lt h2 (by omega)) (by omega))]
    rfl
theorem dgm {k : Nat} (h : k < 80) : ¬ nI k = (-100 : Int32) := (by decide +kernel : ∀ k, k < 80 → ¬ nI k = (-100 : Int32)) k h
/-- the class as it reads -/
def KC (σ : HS) (G : HG) (p : Nat) (μ : HMem) : Prop := CS σ μ ∧ RS σ μ ∧ CG μ 16 G ∧ μ.1 88 2 = nI p ∧ p ≤ σ.2.2.1
theorem CS.at {σ : HS} {μ : HMem} (h : CS σ μ) (x : Int32) : CS σ (h_wi μ 88 2 x) := by
  have f : Fr 88 89 μ (h_wi μ 88 2 x) := Fr.wi (by omega) (by omega)
  refine ⟨fun i hi => (h.1 i hi).fr f (by omega), h.2.1.fr f (by omega), ?_, fun k hk => ?_⟩
  · rw [wi_n _ _ (by omega)]; exact h.2.2.1
  · rw [wi_n _ _ (by omega)]; exact h.2.2.2 k hk
theorem KC.at {σ : HS} {G : HG} {p q : Nat} {μ : HMem} (h : KC σ G p μ) (hq : q ≤ σ.2.2.1) : KC σ G q (h_wi μ 88 2 (nI q)) := by
  have f : Fr 88 89 μ (h_wi μ 88 2 (nI q)) := Fr.wi (by omega) (by omega)
  exact ⟨h.1.at _, h.2.1.fr f (by omega), h.2.2.1.fr f (by omega), wi_s _ _ _ _, hq⟩
theorem TO.of {σ : HS} (ok : OKs σ) : TO σ.2.2 := ok.2.2.2
theorem w_cdigit {σ : HS} (ok : OKs σ) {G : HG} {p m : Nat} {μ : HMem} (h : KC σ G p μ) (hm : m < 10) {R : Type} {K : Int32 → HMem → Option (R × HMem)} {Q : R → HMem → Prop} (hy : isD σ.2.2 p m → ∀ μ', KC σ G (p + 1) μ' → wp (K (nI (cd σ.2.2 p - 48)) μ') Q) (hn : ¬ isD σ.2.2 p m → wp (K (-100) μ) Q) : wp (h_bd (f_Text_readDigit (nI m - 1) μ) K) Q := by
  rw [e_cdigit (TO.of ok) h.1.2.2 h.2.2.2.1 h.2.2.2.2 hm]
  by_cases hd : isD σ.2.2 p m
  · rw [if_pos hd, bd_some]
    exact hy hd _ (h.at (isD_lt hd hm))
  · rw [if_neg hd, bd_some]
    exact hn hd
theorem w_caccept {σ : HS} (ok : OKs σ) {G : HG} {p c : Nat} {μ : HMem} (h : KC σ G p μ) (hc : c < 128) {R : Type} {K : Int32 → HMem → Option (R × HMem)} {Q : R → HMem → Prop} (hy : cd σ.2.2 p = c → ∀ μ', KC σ G (p + 1) μ' → wp (K 1 μ') Q) (hn : ¬ cd σ.2.2 p = c → wp (K 0 μ) Q) : wp (h_bd (f_Text_accept (nI c) μ) K) Q := by
  rw [e_caccept (TO.of ok) h.1.2.2 h.2.2.2.1 h.2.2.2.2 hc]
  by_cases hd : cd σ.2.2 p = c
  · rw [if_pos hd, bd_some]
    exact hy hd _ (h.at (cd_lt hd (by omega)))
  · rw [if_neg hd, bd_some]
    exact hn hd
/-- a signed digit: where it fails, or the place behind it and the number -/
def pw (t : Nat × (Nat → Int32)) (p m : Nat) : Nat ⊕ (Nat × Int32) := if cd t p = 45 then (if isD t (p + 1) m then .inr (p + 2, - nI (cd t (p + 1) - 48)) else .inl (p + 1)) else (if isD t p m then .inr (p + 1, nI (cd t p - 48)) else .inl p)
theorem dg_n0 : ∀ m, m < 5 → ∀ k, k < m → ¬ nI k = (-100 : Int32) ∧ ¬ - nI k = (-100 : Int32) := by decide +kernel
theorem dg_n1 : ∀ m, m < 5 → ∀ k, k < m → 1 - nI m ≤ nI k ∧ nI k ≤ nI m - 1 := by decide +kernel
theorem dg_n2 : ∀ m, m < 5 → ∀ k, k < m → 1 - nI m ≤ - nI k ∧ - nI k ≤ nI m - 1 := by decide +kernel
theorem dg_n (c : Nat) (m : Nat) (hm : m < 5) (h1 : 48 ≤ c) (h2 : c < 48 + m) : ¬ nI (c - 48) = (-100 : Int32) ∧ ¬ - nI (c - 48) = (-100 : Int32) ∧ 1 - nI m ≤ nI (c - 48) ∧ nI (c - 48) ≤ nI m - 1 ∧ 1 - nI m ≤ - nI (c - 48) ∧ - nI (c - 48) ≤ nI m - 1 :=
  have h3 : c - 48 < m := by omega
  ⟨(dg_n0 m hm _ h3).1, (dg_n0 m hm _ h3).2, (dg_n1 m hm _ h3).1, (dg_n1 m hm _ h3).2, (dg_n2 m hm _ h3).1, (dg_n2 m hm _ h3).2⟩
theorem pw_ok {t : Nat × (Nat → Int32)} {p m q : Nat} {w : Int32} (hm : m < 5) (h : pw t p m = .inr (q, w)) : p < q ∧ ¬ w = (-100 : Int32) ∧ 1 - nI m ≤ w ∧ w ≤ nI m - 1 := by
  unfold pw at h
  by_cases h1 : cd t p = 45
  · rw [if_pos h1] at h
    by_cases h2 : isD t (p + 1) m
    · rw [if_pos h2] at h
      cases h
      obtain ⟨a, b, c, d, e, f⟩ := dg_n (cd t (p + 1)) m hm h2.1 h2.2
      exact ⟨by omega, b, e, f⟩
    · rw [if_neg h2] at h; cases h
  · rw [if_neg h1] at h
    by_cases h2 : isD t p m
    · rw [if_pos h2] at h
      cases h
      obtain ⟨a, b, c, d, e, f⟩ := dg_n (cd t p) m hm h2.1 h2.2
      exact ⟨by omega, a, c, d⟩
    · rw [if_neg h2] at h; cases h
theorem w_cweight {σ : HS} (ok : OKs σ) {G : HG} {p m : Nat} {μ : HMem} (h : KC σ G p μ) (hm : m < 5) {R : Type} {K : Int32 → HMem → Option (R × HMem)} {Q : R → HMem → Prop} (hy : ∀ q w, pw σ.2.2 p m = .inr (q, w) → ∀ μ', KC σ G q μ' → wp (K w μ') Q) (hn : ∀ q, pw σ.2.2 p m = .inl q → ∀ μ', KC σ G q μ' → wp (K (-100) μ') Q) : wp (h_bd (f_Text_readWeight (nI m - 1) μ) K) Q := by
  refine w_bdk ?_
  unfold f_Text_readWeight f_Text_readWeight_J28 f_Text_readWeight_J29
  unfold pw at hy hn
  refine w_caccept (c := 45) ok h (by omega) (fun h1 μ1 a1 => ?_) (fun h1 => ?_)
  · rw [if_pos h1] at hy hn
    refine w_cdigit ok a1 (by omega) (fun h2 μ2 a2 => ?_) (fun h2 => ?_)
    · rw [if_pos h2] at hy hn
      obtain ⟨a, b, c, d, e, f⟩ := dg_n (cd σ.2.2 (p + 1)) m hm h2.1 h2.2
      rw [if_neg (by decide), if_neg a]
      exact w_ret (hy _ _ rfl _ a2)
    · rw [if_neg h2] at hy hn
      rw [if_neg (by decide), if_pos rfl]
      exact w_ret (hn _ rfl _ a1)
  · rw [if_neg h1] at hy hn
    refine w_cdigit ok h (by omega) (fun h2 μ2 a2 => ?_) (fun h2 => ?_)
    · rw [if_pos h2] at hy hn
      rw [if_pos rfl]
      exact w_ret (hy _ _ rfl _ a2)
    · rw [if_neg h2] at hy hn
      rw [if_pos rfl]
      exact w_ret (hn _ rfl _ h)
/-- an item behind its semicolon -/
def pit (t : Nat × (Nat → Int32)) (n p : Nat) : Nat ⊕ (Nat × (HG → HG)) :=
  if cd t p = 118 then
    if isD t (p + 1) n then
      if cd t (p + 2) = 61 then
        (match pw t (p + 3) 4 with
          | .inl q => .inl q
          | .inr (q, w) => .inr (q, fun G => sw G (cd t (p + 1) - 48) w))
      else .inl (p + 2)
    else .inl (p + 1)
  else if isD t p n then
    if isD t (p + 1) n then
      if cd t (p + 2) = 61 then
        (match pw t (p + 3) 3 with
          | .inl q => .inl q
          | .inr (q, w) => .inr (q, fun G => jn G (cd t p - 48) (cd t (p + 1) - 48) w))
      else .inr (p + 2, fun G => jn G (cd t p - 48) (cd t (p + 1) - 48) 1)
    else .inl (p + 1)
  else .inl p
theorem KC.fr {σ : HS} {G G' : HG} {p : Nat} {μ μ' : HMem} (h : KC σ G p μ) (f : Fr 16 20 μ μ') (h' : CG μ' 16 G') : KC σ G' p μ' := ⟨h.1.fr f (by omega), h.2.1.fr f (by omega), h', by rw [f.i (by omega)]; exact h.2.2.2.1, h.2.2.2.2⟩
theorem isg16 : IsG 16 := ⟨by omega, by omega⟩
theorem w_citem {σ : HS} (ok : OKs σ) {G : HG} (hG : GV G) {p : Nat} {μ : HMem} (h : KC σ G p μ) {R : Type} {K : Int32 → HMem → Option (R × HMem)} {Q : R → HMem → Prop} (hy : ∀ q f, pit σ.2.2 G.1 p = .inr (q, f) → ∀ μ', KC σ (f G) q μ' → GV (f G) → p < q → wp (K 1 μ') Q) (hn : ∀ q, pit σ.2.2 G.1 p = .inl q → ∀ μ', KC σ G q μ' → wp (K 0 μ') Q) : wp (h_bd (f_Text_readItem 16 μ) K) Q := by
  have hG8 := hG.1
  refine w_bdk ?_
  unfold f_Text_readItem f_Text_readItem_J22
  unfold pit at hy hn
  refine w_caccept (c := 118) ok h (by omega) (fun h1 μ1 a1 => ?_) (fun h1 => ?_)
  · rw [if_pos h1] at hy hn
    rw [if_neg (by decide)]
    refine w_bdk ?_
    unfold f_Text_readVertexItem f_Text_readVertexItem_J26
    rw [a1.2.2.1.1]
    refine w_cdigit ok a1 (by omega) (fun h2 μ2 a2 => ?_) (fun h2 => ?_)
    · rw [if_pos h2] at hy hn
      have hv : cd σ.2.2 (p + 1) - 48 < G.1 := by have := h2.1; have := h2.2; omega
      rw [if_neg (dgm (by omega))]
      refine w_caccept (c := 61) ok a2 (by omega) (fun h3 μ3 a3 => ?_) (fun h3 => ?_)
      · rw [if_pos h3] at hy hn
        rw [if_pos (by decide)]
        refine w_cweight (m := 4) ok a3 (by omega) (fun q w e μ4 a4 => ?_) (fun q e μ4 a4 => ?_)
        · rw [e] at hy hn
          obtain ⟨b1, b2, b3, b4⟩ := pw_ok (by omega) e
          rw [if_pos b2]
          refine w_chk (in_8 (by omega) (len_1 isg16)) ?_
          rw [cl_8 (by omega)]
          refine w_let (w_t (by decide) (w_ret (w_t (by decide) (w_ret (hy _ _ rfl _ (a4.fr (Fr.wi (by omega) (by omega)) (a4.2.2.1.wt _ _)) (hG.wt _ b3 b4) (by omega))))))
        · rw [e] at hy hn
          rw [if_neg (fun h => h rfl)]
          exact w_t (by decide) (w_ret (w_t (by decide) (w_ret (hn _ rfl _ a4))))
      · rw [if_neg h3] at hy hn
        rw [if_neg (fun h => h rfl)]
        exact w_t (by decide) (w_ret (w_t (by decide) (w_ret (hn _ rfl _ a2))))
    · rw [if_neg h2] at hy hn
      rw [if_pos rfl]
      exact w_t (by decide) (w_ret (w_t (by decide) (w_ret (hn _ rfl _ a1))))
  · rw [if_neg h1] at hy hn
    rw [if_pos rfl]
    refine w_bdk ?_
    unfold f_Text_readEdgeItem f_Text_readEdgeItem_J56
    rw [h.2.2.1.1]
    refine w_cdigit ok h (by omega) (fun h2 μ2 a2 => ?_) (fun h2 => ?_)
    · rw [if_pos h2] at hy hn
      have hu : cd σ.2.2 p - 48 < G.1 := by have := h2.1; have := h2.2; omega
      rw [if_pos (dgm (by omega)), a2.2.2.1.1]
      refine w_cdigit ok a2 (by omega) (fun h3 μ3 a3 => ?_) (fun h3 => ?_)
      · rw [if_pos h3] at hy hn
        have hv : cd σ.2.2 (p + 1) - 48 < G.1 := by have := h3.1; have := h3.2; omega
        rw [if_pos (dgm (by omega))]
        refine w_caccept (c := 61) ok a3 (by omega) (fun h4 μ4 a4 => ?_) (fun h4 => ?_)
        · rw [if_pos h4] at hy hn
          rw [if_neg (by decide)]
          refine w_cweight (m := 3) ok a4 (by omega) (fun q w e μ5 a5 => ?_) (fun q e μ5 a5 => ?_)
          · rw [e] at hy hn
            obtain ⟨b1, b2, b3, b4⟩ := pw_ok (by omega) e
            rw [if_pos b2]
            refine w_bdk (s_join isg16 a5.2.2.1 hG8 hu hv w (fun μ6 c1 c2 => ?_))
            exact w_t (by decide) (w_ret (w_t (by decide) (w_ret (hy _ _ rfl _ (a5.fr c2 c1) (hG.jn _ _ b3 b4) (by omega)))))
          · rw [e] at hy hn
            rw [if_neg (fun h => h rfl)]
            exact w_t (by decide) (w_ret (w_t (by decide) (w_ret (hn _ rfl _ a5))))
        · rw [if_neg h4] at hy hn
          rw [if_pos rfl, if_pos (by decide)]
          refine w_bdk (s_join isg16 a3.2.2.1 hG8 hu hv 1 (fun μ6 c1 c2 => ?_))
          exact w_t (by decide) (w_ret (w_t (by decide) (w_ret (hy _ _ rfl _ (a3.fr c2 c1) (hG.jn _ _ (by decide) (by decide)) (by omega)))))
      · rw [if_neg h3] at hy hn
        rw [if_neg (fun h => h rfl)]
        exact w_t (by decide) (w_ret (w_t (by decide) (w_ret (hn _ rfl _ a2))))
    · rw [if_neg h2] at hy hn
      rw [if_neg (fun h => h rfl)]
      exact w_t (by decide) (w_ret (w_t (by decide) (w_ret (hn _ rfl _ h))))
/-- all items from a place on -/
def prs (t : Nat × (Nat → Int32)) : Nat → Nat → Nat → HG → Nat ⊕ (Nat × HG)
  | 0, _, _, _ => .inl 0
  | k + 1, i, p, G => if p < t.1 then (if cd t p = 59 then (match pit t G.1 (p + 1) with
      | .inl q => .inl q
      | .inr (q, f) => prs t k (i + 1) q (f G)) else .inl p) else .inr (i, G)
theorem s_citems {σ : HS} (ok : OKs σ) {Q : Int32 → HMem → Prop} : ∀ k fuel i p G μ, σ.2.2.1 < p + k → k ≤ fuel → i ≤ p → GV G → KC σ G p μ → (∀ q, prs σ.2.2 k i p G = .inl q → ∀ G' μ', KC σ G' q μ' → Q (-1) μ') → (∀ j G', prs σ.2.2 k i p G = .inr (j, G') → ∀ p' μ', KC σ G' p' μ' → GV G' → j ≤ 120 → Q (nI j) μ') → wp (f_Text_readGraph_L30 f_Text_readGraph_J65 f_Text_readGraph_J76 fuel 16 (nI i) (nI i) μ) Q := by
  intro k
  have h120 := ok.2.2.2.1
  induction k with
  | zero => intro fuel i p G μ h _ _ _ h2; exact absurd h2.2.2.2.2 (by omega)
  | succ k ih =>
    intro fuel i p G μ hk hf hi hG h hn hy
    cases fuel with
    | zero => omega
    | succ fuel =>
      have hp := h.2.2.2.2
      show wp (f_Text_readGraph_L30_b _ _ _ _ _ _ _) Q
      unfold f_Text_readGraph_L30_b f_Text_readGraph_J65 f_Text_readGraph_J76
      rw [h.1.2.2.1, h.2.2.2.1]
      unfold prs at hn hy
      rcases Nat.lt_or_ge p σ.2.2.1 with h1 | h1
      · rw [if_pos h1] at hn hy
        refine w_f (nI_ge h1 (by omega)) (w_f ?_ ?_)
        · exact nI_ge (b := 120) (by omega) (by omega)
        refine w_caccept (c := 59) ok h (by omega) (fun h2 μ1 a1 => ?_) (fun h2 => ?_)
        · rw [if_pos h2] at hn hy
          refine w_f (by decide) (w_citem ok hG a1 (fun q f e μ2 a2 gv lt => ?_) (fun q e μ2 a2 => ?_))
          · rw [e] at hn hy
            refine w_t (by decide) (w_let (w_let ?_))
            rw [nI_1]
            exact ih fuel (i + 1) q (f G) μ2 (by omega) (by omega) (by omega) gv a2 hn hy
          · rw [e] at hn hy
            exact w_f (fun h => h rfl) (w_ret (hn q rfl G μ2 a2))
        · rw [if_neg h2] at hn hy
          exact w_t rfl (w_ret (hn p rfl G μ h))
      · rw [if_neg (by omega)] at hn hy
        exact w_t (nI_le h1 (by omega)) (w_ret (hy i G rfl p μ h hG (by omega)))
/-- the whole text -/
def prg (t : Nat × (Nat → Int32)) : Nat ⊕ (Nat × HG) := if isD t 0 9 then prs t 121 0 1 (cd t 0 - 48, fun _ => 1, fun _ _ => 0) else .inl 0
theorem GV_beg {n : Nat} (hn : n ≤ 8) : GV (n, fun _ => 1, fun _ _ => 0) := ⟨hn, fun _ _ => ⟨show (-3 : Int32) ≤ 1 by decide, show (1 : Int32) ≤ 3 by decide⟩, fun _ _ _ _ => ⟨rfl, show (-2 : Int32) ≤ 0 by decide, show (0 : Int32) ≤ 2 by decide⟩⟩
theorem s_readGraph {σ : HS} (ok : OKs σ) {μ : HMem} (hc : CS σ μ) (hr : RS σ μ) {Q : Int32 → HMem → Prop} (hn : ∀ q, prg σ.2.2 = .inl q → ∀ μ', CS σ μ' → RS σ μ' → μ'.1 88 2 = nI q → Q (-1) μ') (hy : ∀ j G', prg σ.2.2 = .inr (j, G') → ∀ μ', CS σ μ' → RS σ μ' → CG μ' 16 G' → GV G' → j ≤ 120 → Q (nI j) μ') : wp (f_Text_readGraph 16 μ) Q := by
  have h120 := ok.2.2.2.1
  have f0 : Fr 88 89 μ (h_wi μ 88 2 0) := Fr.wi (by omega) (by omega)
  have c0 := hc.at 0
  have r0 := hr.fr f0 (by omega)
  have p0 : (h_wi μ 88 2 0).1 88 2 = nI 0 := wi_s _ _ _ _
  unfold f_Text_readGraph
  refine w_let ?_
  generalize h_wi μ 88 2 0 = m0 at c0 r0 p0
  rw [show (8 : Int32) = nI 9 - 1 from by decide, e_cdigit (TO.of ok) c0.2.2 p0 (Nat.zero_le _) (by omega)]
  unfold prg at hn hy
  by_cases hd : isD σ.2.2 0 9
  · rw [if_pos hd] at hn hy ⊢
    have hv : cd σ.2.2 0 - 48 ≤ 8 := by have := hd.2; omega
    rw [bd_some]
    refine w_t (dgm (by omega)) ?_
    have f1 : Fr 88 89 m0 (h_wi m0 88 2 (nI (0 + 1))) := Fr.wi (by omega) (by omega)
    have c1 := c0.at (nI (0 + 1))
    have r1 := r0.fr f1 (by omega)
    have p1 : (h_wi m0 88 2 (nI (0 + 1))).1 88 2 = nI 1 := wi_s _ _ _ _
    generalize h_wi m0 88 2 (nI (0 + 1)) = m1 at c1 r1 p1
    refine w_bdk (s_reset isg16 hv (fun m2 a1 a2 => ?_))
    refine s_citems ok 121 h_fuel 0 1 _ m2 (by omega) (by unfold h_fuel; omega) (by omega) (GV_beg hv) ⟨c1.fr a2 (by omega), r1.fr a2 (by omega), a1, by rw [a2.i (by omega)]; exact p1, isD_lt hd (by omega)⟩ (fun q e G' μ' b => hn q e μ' b.1 b.2.1 b.2.2.2.1) (fun j G' e p' μ' b gv hj => hy j G' e μ' b.1 b.2.1 b.2.2.1 gv hj)
  · rw [if_neg hd] at hn hy ⊢
    rw [bd_some]
    exact w_f (fun h => h rfl) (w_ret (hn 0 rfl _ c0 r0 p0))
