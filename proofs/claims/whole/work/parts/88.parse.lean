/-! 88: reading a graph from a text (reference), parse -/
theorem let_e {α R : Type} (x : α) (f : α → Option (R × HMem)) : h_let x f = f x := rfl
theorem in_dig : ∀ c, c < 128 → ∀ m, m < 10 → (!decide (nI c - 48 < 0) && !decide (nI m - 1 < nI c - 48)) = decide (48 ≤ c ∧ c < 48 + m) := by decide +kernel
theorem in_dig1 : ∀ m, m < 10 → (!decide ((-1 : Int32) - 48 < 0) && !decide (nI m - 1 < (-1 : Int32) - 48)) = false := by decide +kernel
/-- the sign at a place, as the reference says it -/
def hsg (t : Nat × (Nat → Int32)) (p : Nat) : Int32 := if p < t.1 then nI (cd t p) else -1
theorem hr_eq {t : Nat × (Nat → Int32)} (ht : TO t) {p c : Nat} (hc : c < 128) : hsg t p = nI c ↔ cd t p = c := by
  unfold hsg
  rcases Nat.lt_or_ge p t.1 with h1 | h1
  · rw [if_pos h1]
    exact ac_c _ (cd_in ht h1).2 c hc
  · rw [if_neg (by omega)]
    exact ⟨fun h => absurd h.symm (dnN (by omega)), fun h => absurd (cd_lt h (by omega)) (by omega)⟩
theorem hr_dig {t : Nat × (Nat → Int32)} (ht : TO t) {p m : Nat} (hm : m < 10) : (!decide (hsg t p - 48 < 0) && !decide (nI m - 1 < hsg t p - 48)) = decide (isD t p m) := by
  unfold hsg
  rcases Nat.lt_or_ge p t.1 with h1 | h1
  · rw [if_pos h1]
    exact in_dig _ (cd_in ht h1).2 m hm
  · rw [if_neg (by omega), in_dig1 m hm]
    exact (decide_eq_false (fun h2 => absurd (isD_lt h2 hm) (by omega))).symm
/-- the reference as it reads: where it stands, where it failed -/
def KR (σ : HS) (G : HG) (p : Nat) (F : Int32) (o : HMem) (μ : HMem) : Prop := Fr 125 128 o μ ∧ RS σ μ ∧ RG (μ.1 126) 292 G ∧ μ.1 125 21 = nI p ∧ p ≤ σ.2.2.1 ∧ μ.1 125 22 = F
theorem RS.at {σ : HS} {μ : HMem} (h : RS σ μ) {i : Nat} (hi : 20 ≤ i) (x : Int32) : RS σ (h_wi μ 125 i x) := by
  obtain ⟨r1, r2, r3, r4⟩ := h
  refine ⟨fun j hj => ?_, ?_, ?_, fun k hk => ?_⟩
  · rw [wi_o _ _ (by omega)]; exact r1 j hj
  · unfold RH at r2 ⊢
    rw [wi_n _ _ (by omega), wi_o _ _ (by omega)]; exact r2
  · rw [wi_n _ _ (by omega)]; exact r3
  · rw [wi_o _ _ (by omega)]; exact r4 k hk
theorem KR.a1 {σ : HS} {G : HG} {p q : Nat} {F : Int32} {o : HMem} {μ : HMem} (h : KR σ G p F o μ) (hq : q ≤ σ.2.2.1) : KR σ G q F o (h_wi μ 125 21 (nI q)) := ⟨h.1.trans (Fr.wi (a := 125) (b := 126) (by omega) (by omega)) (Nat.le_refl _) (Nat.le_refl _) (Nat.le_refl _) (by omega), h.2.1.at (by omega) _, by rw [wi_o _ _ (by omega)]; exact h.2.2.1, wi_s _ _ _ _, hq, by rw [wi_n _ _ (by omega)]; exact h.2.2.2.2.2⟩
theorem KR.a2 {σ : HS} {G : HG} {p : Nat} {F F' : Int32} {o : HMem} {μ : HMem} (h : KR σ G p F o μ) : KR σ G p F' o (h_wi μ 125 22 F') := ⟨h.1.trans (Fr.wi (a := 125) (b := 126) (by omega) (by omega)) (Nat.le_refl _) (Nat.le_refl _) (Nat.le_refl _) (by omega), h.2.1.at (by omega) _, by rw [wi_o _ _ (by omega)]; exact h.2.2.1, by rw [wi_n _ _ (by omega)]; exact h.2.2.2.1, h.2.2.2.2.1, wi_s _ _ _ _⟩
theorem wi_id (μ : HMem) (c i : Nat) {x : Int32} (h : μ.1 c i = x) : h_wi μ c i x = μ := by
  refine Prod.ext ?_ rfl
  funext d j
  rw [wi_e]
  by_cases e : d = c ∧ j = i
  · rw [if_pos e, e.1, e.2, h]
  · rw [if_neg e]
theorem e_mhere {σ : HS} (ok : OKs σ) {G : HG} {p : Nat} {F : Int32} {o : HMem} {μ : HMem} (h : KR σ G p F o μ) : f_Model_here μ = some (hsg σ.2.2 p, μ) := by
  have h120 := ok.2.2.2.1
  rw [e_here h.2.1.2.2 h120 h.2.2.2.1 h.2.2.2.2.1]
  unfold sgn hsg
  rcases Nat.lt_or_ge p σ.2.2.1 with h1 | h1
  · rw [if_pos h1, if_pos h1, (cd_in (TO.of ok) h1).1]
  · rw [if_neg (by omega), if_neg (by omega)]
theorem e_mustX {μ : HMem} (h : ¬ μ.1 125 22 = (-1 : Int32)) (b : Int32) : f_Model_must b μ = some ((), μ) := by
  unfold f_Model_must f_Model_must_J25 f_Model_must_J41
  rw [if_pos h, if_pos h]
/-- must, as long as nothing has failed -/
theorem w_must {σ : HS} {G : HG} {p : Nat} {o : HMem} {μ : HMem} (h : KR σ G p (-1) o μ) {b : Int32} {R : Type} {K : Unit → HMem → Option (R × HMem)} {Q : R → HMem → Prop} (hp : ¬ b = 0 → p < σ.2.2.1) (hy : ¬ b = 0 → ∀ μ', KR σ G (p + 1) (-1) o μ' → wp (K () μ') Q) (hn : b = 0 → ∀ μ', KR σ G p (nI p) o μ' → wp (K () μ') Q) : wp (h_bd (f_Model_must b μ) K) Q := by
  have e22 := h.2.2.2.2.2
  have e21 := h.2.2.2.1
  unfold f_Model_must f_Model_must_J25 f_Model_must_J41
  rw [if_neg (fun h => h e22)]
  by_cases hb : b = 0
  · rw [if_pos hb, if_neg (fun h => h e22), e21]
    show wp (K () (h_wi μ 125 22 (nI p))) Q
    exact hn hb _ h.a2
  · rw [if_neg hb, e21]
    show wp (K () (h_wi μ 125 21 (nI p + 1))) Q
    rw [nI_1]
    exact hy hb _ (h.a1 (hp hb))
theorem bI_d {P : Prop} [Decidable P] : bI (decide P) = 0 ↔ ¬ P := by
  rw [bI_0, decide_eq_false_iff_not]
theorem hr_v {t : Nat × (Nat → Int32)} (ht : TO t) {p m : Nat} (hm : m < 10) (h : isD t p m) : hsg t p - 48 = nI (cd t p - 48) := by
  have h1 := isD_lt h hm
  unfold hsg
  rw [if_pos h1]
  exact dg_v _ (cd_in ht h1).2 h.1
theorem w_mdigit {σ : HS} (ok : OKs σ) {G : HG} {p m : Nat} {o : HMem} {μ : HMem} (h : KR σ G p (-1) o μ) (hm : m < 10) {R : Type} {K : Int32 → HMem → Option (R × HMem)} {Q : R → HMem → Prop} (hy : isD σ.2.2 p m → ∀ μ', KR σ G (p + 1) (-1) o μ' → wp (K (nI (cd σ.2.2 p - 48)) μ') Q) (hn : ¬ isD σ.2.2 p m → ∀ μ', KR σ G p (nI p) o μ' → wp (K 0 μ') Q) : wp (h_bd (f_Model_digit (nI m - 1) μ) K) Q := by
  refine w_bdk ?_
  unfold f_Model_digit f_Model_digit_J32
  rw [e_mhere ok h, bd_some]
  refine w_let ?_
  rw [e_in, bd_some, hr_dig (TO.of ok) hm]
  refine w_must h (fun hb => isD_lt (Classical.byContradiction fun hc => hb (bI_d.mpr hc)) hm) (fun hb μ1 a1 => ?_) (fun hb μ1 a1 => ?_)
  · have hd : isD σ.2.2 p m := Classical.byContradiction fun hc => hb (bI_d.mpr hc)
    rw [e_in, bd_some, hr_dig (TO.of ok) hm, if_neg hb, hr_v (TO.of ok) hm hd]
    exact w_ret (hy hd _ a1)
  · rw [e_in, bd_some, hr_dig (TO.of ok) hm, if_pos hb]
    exact w_ret (hn (bI_d.mp hb) _ a1)
/-- behind a failure nothing changes -/
theorem x_digit {σ : HS} (ok : OKs σ) {G : HG} {p : Nat} {F : Int32} {o : HMem} {μ : HMem} (h : KR σ G p F o μ) (hF : ¬ F = -1) (d : Int32) : ∃ r, f_Model_digit d μ = some (r, μ) := by
  have hF' : ¬ μ.1 125 22 = -1 := by rw [h.2.2.2.2.2]; exact hF
  unfold f_Model_digit f_Model_digit_J32
  rw [e_mhere ok h, bd_some]
  rw [let_e, e_in, bd_some, e_mustX hF', bd_some, e_in, bd_some]
  by_cases hb : bI (!decide (hsg σ.2.2 p - 48 < 0) && !decide (d < hsg σ.2.2 p - 48)) = 0
  · rw [if_pos hb]; exact ⟨_, rfl⟩
  · rw [if_neg hb]; exact ⟨_, rfl⟩
theorem x_signed {σ : HS} (ok : OKs σ) {G : HG} {p : Nat} {F : Int32} {o : HMem} {μ : HMem} (h : KR σ G p F o μ) (hF : ¬ F = -1) (d : Int32) : ∃ r, f_Model_signed d μ = some (r, μ) := by
  have hF' : ¬ μ.1 125 22 = -1 := by rw [h.2.2.2.2.2]; exact hF
  unfold f_Model_signed f_Model_signed_J21 f_Model_signed_J22 f_Model_signed_J37 f_Model_signed_J57
  rw [if_pos hF', if_pos rfl]
  obtain ⟨r, e⟩ := x_digit ok h hF d
  refine ⟨r, ?_⟩
  rw [let_e, Int32.add_zero, wi_id μ 125 21 rfl, e, bd_some, if_pos rfl]
theorem x_174 {μ : HMem} (h : ¬ μ.1 125 22 = -1) (a b c : Int32) : f_Model_readItem_J174 a b c μ = some ((), μ) := by
  unfold f_Model_readItem_J174 f_Model_readItem_J193
  exact if_pos h
theorem x_138 {μ : HMem} (h : ¬ μ.1 125 22 = -1) (a b : Int32) : f_Model_readItem_J138 a b μ = some ((), μ) := by
  unfold f_Model_readItem_J138 f_Model_readItem_J139 f_Model_readItem_J156
  rw [if_pos rfl]
  rw [let_e, if_pos rfl, Int32.add_zero, wi_id μ 125 21 rfl, x_174 h]
theorem x_105 {σ : HS} (ok : OKs σ) {G : HG} {p : Nat} {F : Int32} {o : HMem} {μ : HMem} (h : KR σ G p F o μ) (hF : ¬ F = -1) (d : Int32) : f_Model_readItem_J105 d μ = some ((), μ) := by
  have hF' : ¬ μ.1 125 22 = -1 := by rw [h.2.2.2.2.2]; exact hF
  obtain ⟨r, e⟩ := x_digit ok h hF d
  unfold f_Model_readItem_J105
  rw [e, bd_some, e, bd_some, if_pos hF', x_138 hF']
theorem x_74 {σ : HS} (ok : OKs σ) {G : HG} {p : Nat} {F : Int32} {o : HMem} {μ : HMem} (h : KR σ G p F o μ) (hF : ¬ F = -1) (v b : Int32) : f_Model_readItem_J74 v b μ = some ((), μ) := by
  have hF' : ¬ μ.1 125 22 = -1 := by rw [h.2.2.2.2.2]; exact hF
  obtain ⟨r, e⟩ := x_signed ok h hF 3
  unfold f_Model_readItem_J74 f_Model_readItem_J102 f_Model_readItem_J193
  rw [e_mustX hF', bd_some, e, bd_some, if_pos hF']
theorem w_msigned {σ : HS} (ok : OKs σ) {G : HG} {p m : Nat} {o : HMem} {μ : HMem} (h : KR σ G p (-1) o μ) (hm : m < 5) {R : Type} {K : Int32 → HMem → Option (R × HMem)} {Q : R → HMem → Prop} (hy : ∀ q w, pw σ.2.2 p m = .inr (q, w) → ∀ μ', KR σ G q (-1) o μ' → wp (K w μ') Q) (hn : ∀ q, pw σ.2.2 p m = .inl q → ∀ r p' μ', KR σ G p' (nI q) o μ' → q ≤ 120 → wp (K r μ') Q) : wp (h_bd (f_Model_signed (nI m - 1) μ) K) Q := by
  have h120 := ok.2.2.2.1
  have hp := h.2.2.2.2.1
  refine w_bdk ?_
  unfold f_Model_signed f_Model_signed_J21 f_Model_signed_J22 f_Model_signed_J37 f_Model_signed_J57
  unfold pw at hy hn
  rw [if_neg (fun h1 => h1 h.2.2.2.2.2), e_mhere ok h, bd_some]
  by_cases h1 : cd σ.2.2 p = 45
  · have hp1 := cd_lt h1 (by omega)
    rw [if_pos h1] at hy hn
    rw [if_neg (fun h2 => h2 ((hr_eq (TO.of ok) (c := 45) (by omega)).mpr h1)), if_neg (by decide)]
    refine w_let ?_
    rw [h.2.2.2.1, nI_1]
    refine w_mdigit ok (h.a1 (q := p + 1) hp1) (by omega) (fun h2 μ2 a2 => ?_) (fun h2 μ2 a2 => ?_)
    · rw [if_pos h2] at hy hn
      rw [if_neg (by decide)]
      exact w_ret (hy _ _ rfl _ a2)
    · rw [if_neg h2] at hy hn
      rw [if_neg (by decide)]
      exact w_ret (hn _ rfl _ _ _ a2 (by omega))
  · rw [if_neg h1] at hy hn
    refine w_t (fun h2 => h1 ((hr_eq (TO.of ok) (c := 45) (by omega)).mp h2)) (w_t rfl (w_let ?_))
    rw [Int32.add_zero, wi_id μ 125 21 rfl]
    refine w_mdigit ok h (by omega) (fun h2 μ2 a2 => ?_) (fun h2 μ2 a2 => ?_)
    · rw [if_pos h2] at hy hn
      rw [if_pos rfl]
      exact w_ret (hy _ _ rfl _ a2)
    · rw [if_neg h2] at hy hn
      rw [if_pos rfl]
      exact w_ret (hn _ rfl _ _ _ a2 (by omega))
theorem KR.fw {σ : HS} (ok : OKs σ) {G G' : HG} {p : Nat} {F : Int32} {o : HMem} {μ μ' : HMem} (h : KR σ G p F o μ) (f : Fw 292 365 μ μ') (h' : RG (μ'.1 126) 292 G') : KR σ G' p F o μ' := ⟨h.1.trans f.1 (Nat.le_refl _) (Nat.le_refl _) (by omega) (by omega), h.2.1.fw ok f (by omega), h', by rw [f.1.i (by omega)]; exact h.2.2.2.1, h.2.2.2.2.1, by rw [f.1.i (by omega)]; exact h.2.2.2.2.2⟩
/-- an item with its semicolon -/
def pit1 (t : Nat × (Nat → Int32)) (n p : Nat) : Nat ⊕ (Nat × (HG → HG)) := if cd t p = 59 then pit t n (p + 1) else .inl p
theorem w_mitem {σ : HS} (ok : OKs σ) {G : HG} (hG : GV G) {p : Nat} {o : HMem} {μ : HMem} (h : KR σ G p (-1) o μ) (hp : p < σ.2.2.1) {R : Type} {K : Unit → HMem → Option (R × HMem)} {Q : R → HMem → Prop} (hy : ∀ q f, pit1 σ.2.2 G.1 p = .inr (q, f) → ∀ μ', KR σ (f G) q (-1) o μ' → GV (f G) → p < q → wp (K () μ') Q) (hn : ∀ q, pit1 σ.2.2 G.1 p = .inl q → ∀ p' μ', KR σ G p' (nI q) o μ' → q ≤ 120 → wp (K () μ') Q) : wp (h_bd (f_Model_readItem μ) K) Q := by
  have h120 := ok.2.2.2.1
  have hG8 := hG.1
  have ht := TO.of ok
  have hfin : ∀ q, q ≤ 120 → ¬ nI q = (-1 : Int32) := fun q hq => dnN (by omega)
  refine w_bdk ?_
  unfold f_Model_readItem
  refine w_bde (e_msize (k := 4) (by omega) h.2.2.1) ?_
  refine w_let ?_
  rw [e_mhere ok h, bd_some]
  unfold pit1 at hy hn
  by_cases h1 : cd σ.2.2 p = 59
  · rw [if_pos h1] at hy hn
    rw [if_neg (fun h2 => h2 ((hr_eq ht (c := 59) (by omega)).mpr h1))]
    unfold f_Model_readItem_J23
    refine w_must h (fun _ => hp) (fun _ μ1 a1 => ?_) (fun hb => absurd hb (by decide))
    rw [e_mhere ok a1, bd_some]
    unfold pit at hy hn
    by_cases h2 : cd σ.2.2 (p + 1) = 118
    · rw [if_pos h2] at hy hn
      rw [if_neg (fun h3 => h3 ((hr_eq ht (c := 118) (by omega)).mpr h2)), if_neg (fun h3 => h3 a1.2.2.2.2.2)]
      refine w_let ?_
      rw [a1.2.2.2.1, nI_1]
      have a2 := a1.a1 (q := p + 1 + 1) (cd_lt h2 (by omega))
      generalize h_wi μ1 125 21 (nI (p + 1 + 1)) = μ2 at a2
      refine w_mdigit ok a2 (by omega) (fun h3 μ3 a3 => ?_) (fun h3 μ3 a3 => ?_)
      · rw [if_pos h3] at hy hn
        have hv : cd σ.2.2 (p + 1 + 1) - 48 < G.1 := by have := h3.1; have := h3.2; omega
        rw [e_mhere ok a3, bd_some]
        by_cases h4 : cd σ.2.2 (p + 1 + 1 + 1) = 61
        · rw [if_pos h4] at hy hn
          rw [if_neg (fun h5 => h5 ((hr_eq ht (c := 61) (by omega)).mpr h4))]
          unfold f_Model_readItem_J74 f_Model_readItem_J102 f_Model_readItem_J193
          refine w_must a3 (fun _ => cd_lt h4 (by omega)) (fun _ μ4 a4 => ?_) (fun hb => absurd hb (by decide))
          refine w_msigned (m := 4) ok a4 (by omega) (fun q w e μ5 a5 => ?_) (fun q e r p' μ5 a5 hq => ?_)
          · have e' : pw σ.2.2 (p + 1 + 3) 4 = .inr (q, w) := e
            rw [e'] at hy hn
            obtain ⟨b1, b2, b3, b4⟩ := pw_ok (by omega) e
            rw [if_neg (fun h6 => h6 a5.2.2.2.2.2)]
            rw [show (293 : Int32) = nI 293 from rfl, nI_add]
            refine w_chk (in_N (by rw [show h_len 126 = 438 from rfl]; omega) (by decide)) ?_
            rw [cl_8 (by omega)]
            refine w_let (w_ret (hy _ _ rfl _ (a5.fw ok (Fw.wi (by omega) (by omega)) ?_) (hG.wt _ b3 b4) (by omega)))
            rw [wi_126]
            exact a5.2.2.1.wt hv hG8 w
          · have e' : pw σ.2.2 (p + 1 + 3) 4 = .inl q := e
            rw [e'] at hy hn
            rw [if_pos (by rw [a5.2.2.2.2.2]; exact hfin q hq)]
            exact w_ret (hn _ rfl _ _ a5 hq)
        · rw [if_neg h4] at hy hn
          refine w_t (fun h5 => h4 ((hr_eq ht (c := 61) (by omega)).mp h5)) ?_
          unfold f_Model_readItem_J74
          refine w_must a3 (fun hb => absurd rfl hb) (fun hb => absurd rfl hb) (fun _ μ4 a4 => ?_)
          have hF := hfin (p + 1 + 1 + 1) (by have := a3.2.2.2.2.1; omega)
          obtain ⟨r, e⟩ := x_signed ok a4 hF 3
          have hF' : ¬ μ4.1 125 22 = -1 := by rw [a4.2.2.2.2.2]; exact hF
          unfold f_Model_readItem_J102 f_Model_readItem_J193
          rw [e, bd_some, if_pos hF']
          exact w_ret (hn _ rfl _ _ a4 (by have := a3.2.2.2.2.1; omega))
      · rw [if_neg h3] at hy hn
        have hF := hfin (p + 1 + 1) (by have := a2.2.2.2.2.1; omega)
        rw [e_mhere ok a3, bd_some]
        refine w_if (fun _ => ?_) (fun _ => ?_)
        · rw [x_74 ok a3 hF]; exact w_ret (hn _ rfl _ _ a3 (by have := a2.2.2.2.2.1; omega))
        · rw [x_74 ok a3 hF]; exact w_ret (hn _ rfl _ _ a3 (by have := a2.2.2.2.2.1; omega))
    · rw [if_neg h2] at hy hn
      refine w_t (fun h3 => h2 ((hr_eq ht (c := 118) (by omega)).mp h3)) ?_
      unfold f_Model_readItem_J105
      refine w_mdigit ok a1 (by omega) (fun h3 μ3 a3 => ?_) (fun h3 μ3 a3 => ?_)
      · rw [if_pos h3] at hy hn
        have hu : cd σ.2.2 (p + 1) - 48 < G.1 := by have := h3.1; have := h3.2; omega
        refine w_mdigit ok a3 (by omega) (fun h4 μ4 a4 => ?_) (fun h4 μ4 a4 => ?_)
        · rw [if_pos h4] at hy hn
          have hv : cd σ.2.2 (p + 1 + 1) - 48 < G.1 := by have := h4.1; have := h4.2; omega
          rw [if_neg (fun h5 => h5 a4.2.2.2.2.2), e_mhere ok a4, bd_some]
          by_cases h5 : cd σ.2.2 (p + 1 + 1 + 1) = 61
          · rw [if_pos h5] at hy hn
            rw [if_neg (fun h6 => h6 ((hr_eq ht (c := 61) (by omega)).mpr h5))]
            unfold f_Model_readItem_J139 f_Model_readItem_J156
            rw [if_neg (by decide)]
            refine w_let ?_
            rw [if_neg (by decide), a4.2.2.2.1, nI_1]
            have a5 := a4.a1 (q := p + 1 + 1 + 1 + 1) (cd_lt h5 (by omega))
            generalize h_wi μ4 125 21 (nI (p + 1 + 1 + 1 + 1)) = μ5 at a5
            refine w_msigned (m := 3) ok a5 (by omega) (fun q w e μ6 a6 => ?_) (fun q e r p' μ6 a6 hq => ?_)
            · have e' : pw σ.2.2 (p + 1 + 3) 3 = .inr (q, w) := e
              rw [e'] at hy hn
              obtain ⟨b1, b2, b3, b4⟩ := pw_ok (by omega) e
              unfold f_Model_readItem_J174 f_Model_readItem_J193
              rw [if_neg (fun h7 => h7 a6.2.2.2.2.2)]
              refine w_bdk (s_puts (k := 4) (by omega) hG8 a6.2.2.1 hu hv w (fun μ7 c1 c2 => ?_))
              exact w_ret (hy _ _ rfl _ (a6.fw ok c2 c1) (hG.jn _ _ b3 b4) (by omega))
            · have e' : pw σ.2.2 (p + 1 + 3) 3 = .inl q := e
              rw [e'] at hy hn
              rw [x_174 (by rw [a6.2.2.2.2.2]; exact hfin q hq)]
              exact w_ret (hn _ rfl _ _ a6 hq)
          · rw [if_neg h5] at hy hn
            refine w_t (fun h6 => h5 ((hr_eq ht (c := 61) (by omega)).mp h6)) ?_
            unfold f_Model_readItem_J138 f_Model_readItem_J139 f_Model_readItem_J156
            rw [if_pos rfl]
            refine w_let ?_
            rw [if_pos rfl, Int32.add_zero, wi_id μ4 125 21 rfl]
            unfold f_Model_readItem_J174 f_Model_readItem_J193
            rw [if_neg (fun h7 => h7 a4.2.2.2.2.2)]
            refine w_bdk (s_puts (k := 4) (by omega) hG8 a4.2.2.1 hu hv 1 (fun μ7 c1 c2 => ?_))
            exact w_ret (hy _ _ rfl _ (a4.fw ok c2 c1) (hG.jn _ _ (by decide) (by decide)) (by omega))
        · rw [if_neg h4] at hy hn
          have hF := hfin (p + 1 + 1) (by have := a3.2.2.2.2.1; omega)
          have hF' : ¬ μ4.1 125 22 = -1 := by rw [a4.2.2.2.2.2]; exact hF
          rw [if_pos hF', x_138 hF']
          exact w_ret (hn _ rfl _ _ a4 (by have := a3.2.2.2.2.1; omega))
      · rw [if_neg h3] at hy hn
        have hF := hfin (p + 1) (by have := a1.2.2.2.2.1; omega)
        have hF' : ¬ μ3.1 125 22 = -1 := by rw [a3.2.2.2.2.2]; exact hF
        obtain ⟨r, e⟩ := x_digit ok a3 hF (nI G.1 - 1)
        rw [e, bd_some, if_pos hF', x_138 hF']
        exact w_ret (hn _ rfl _ _ a3 (by have := a1.2.2.2.2.1; omega))
  · rw [if_neg h1] at hy hn
    refine w_t (fun h2 => h1 ((hr_eq ht (c := 59) (by omega)).mp h2)) ?_
    unfold f_Model_readItem_J23
    refine w_must h (fun hb => absurd rfl hb) (fun hb => absurd rfl hb) (fun _ μ4 a4 => ?_)
    have hF := hfin p (by omega)
    have hF' : ¬ μ4.1 125 22 = -1 := by rw [a4.2.2.2.2.2]; exact hF
    rw [e_mhere ok a4, bd_some]
    have fin : wp (f_Model_readItem_J105 (nI G.1 - 1) μ4) (fun r μ => wp (K r μ) Q) := by
      rw [x_105 ok a4 hF]
      exact w_ret (hn _ rfl _ _ a4 (by omega))
    exact w_if (fun _ => fin) (fun _ => w_t hF' fin)
theorem s_mitems {σ : HS} (ok : OKs σ) {o : HMem} {v1 : Int32} {Q : Int32 → HMem → Prop} : ∀ k fuel i p G μ, σ.2.2.1 < p + k → k ≤ fuel → i ≤ p → GV G → KR σ G p (-1) o μ → (∀ q, prs σ.2.2 k i p G = .inl q → ∀ G' p' μ', KR σ G' p' (nI q) o μ' → q ≤ 120 → ∀ j, wp (f_Model_parse_J65 v1 j μ') Q) → (∀ j G', prs σ.2.2 k i p G = .inr (j, G') → ∀ p' μ', KR σ G' p' (-1) o μ' → GV G' → wp (f_Model_parse_J65 v1 (nI j) μ') Q) → wp (f_Model_parse_L36 f_Model_parse_J65 fuel v1 (nI i) μ) Q := by
  intro k
  have h120 := ok.2.2.2.1
  induction k with
  | zero => intro fuel i p G μ h _ _ _ h2; exact absurd h2.2.2.2.2.1 (by omega)
  | succ k ih =>
    intro fuel i p G μ hk hf hi hG h hn hy
    cases fuel with
    | zero => omega
    | succ fuel =>
      have hp := h.2.2.2.2.1
      show wp (f_Model_parse_L36_b _ _ _ _ _) Q
      unfold f_Model_parse_L36_b
      rw [if_neg (fun h1 => h1 h.2.2.2.2.2), h.2.1.2.2.1, h.2.2.2.1]
      unfold prs at hn hy
      rcases Nat.lt_or_ge p σ.2.2.1 with h1 | h1
      · rw [if_pos h1] at hn hy
        refine w_f (nI_ge h1 (by omega)) ?_
        refine w_mitem ok hG h h1 (fun q f e μ1 a1 gv lt => ?_) (fun q e p' μ1 a1 hq => ?_)
        · unfold pit1 at e
          by_cases h2 : cd σ.2.2 p = 59
          · rw [if_pos h2] at e hn hy
            rw [e] at hn hy
            refine w_let ?_
            rw [nI_1]
            exact ih fuel (i + 1) q (f G) μ1 (by omega) (by omega) (by omega) gv a1 hn hy
          · rw [if_neg h2] at e; cases e
        · have hq2 : ∀ G' p' μ', KR σ G' p' (nI q) o μ' → ∀ j, wp (f_Model_parse_J65 v1 j μ') Q := by
            unfold pit1 at e
            by_cases h2 : cd σ.2.2 p = 59
            · rw [if_pos h2] at e hn hy
              rw [e] at hn hy
              exact fun G' p' μ' b j => hn q rfl G' p' μ' b hq j
            · rw [if_neg h2] at e hn hy
              cases e
              exact fun G' p' μ' b j => hn _ rfl G' p' μ' b hq j
          refine w_let ?_
          cases fuel with
          | zero => omega
          | succ fuel =>
            show wp (f_Model_parse_L36_b _ _ _ _ _) Q
            unfold f_Model_parse_L36_b
            rw [if_pos (by rw [a1.2.2.2.2.2]; exact dnN (by omega))]
            exact hq2 G p' μ1 a1 _
      · rw [if_neg (by omega)] at hn hy
        exact w_t (nI_le h1 (by omega)) (hy i G rfl p μ h hG)
theorem s_mgraph {σ : HS} (ok : OKs σ) {μ : HMem} (hr : RS σ μ) {i : Nat} (hi : i < 4) {Q : Int32 → HMem → Prop} (hn : ∀ q, prg σ.2.2 = .inl q → ∀ μ', Fr 125 128 μ μ' → RS σ μ' → Q ((-10) - nI q) (h_wi μ' 125 5 0)) (hy : ∀ j G', prg σ.2.2 = .inr (j, G') → ∀ μ', Fr 125 128 μ μ' → RS (setG (push σ) i G') μ' → μ'.1 125 5 = 0 → Q (nI j) μ') : wp (f_Model_parse (nI i) μ) Q := by
  have h120 := ok.2.2.2.1
  unfold f_Model_parse
  rw [e_isG hi, bd_some]
  refine w_t (by decide) (w_let (w_let ?_))
  have c1 : Fr 125 128 μ (h_wi (h_wi μ 125 21 0) 125 22 (-1)) := (Fr.wi (a := 125) (b := 128) (by omega) (by omega)).trans (Fr.wi (a := 125) (b := 128) (by omega) (by omega)) (Nat.le_refl _) (Nat.le_refl _) (Nat.le_refl _) (Nat.le_refl _)
  have r1 : RS σ (h_wi (h_wi μ 125 21 0) 125 22 (-1)) := (hr.at (i := 21) (by omega) 0).at (i := 22) (by omega) (-1)
  have p1 : (h_wi (h_wi μ 125 21 0) 125 22 (-1)).1 125 21 = nI 0 := by rw [wi_n _ _ (by omega), wi_s]; rfl
  have q1 : (h_wi (h_wi μ 125 21 0) 125 22 (-1)).1 125 22 = -1 := wi_s _ _ _ _
  generalize h_wi (h_wi μ 125 21 0) 125 22 (-1) = m1 at c1 r1 p1 q1
  have bad : ∀ q, q ≤ 120 → prg σ.2.2 = .inl q → ∀ G' p' μ', KR σ G' p' (nI q) μ μ' → ∀ j, wp (f_Model_parse_J65 (nI i) j μ') Q := by
    intro q hq e G' p' μ' b j
    unfold f_Model_parse_J65
    rw [b.2.2.2.2.2, if_neg (dnN (by omega))]
    refine w_bde (e_tells _ _) (w_ret ?_)
    exact hn q e μ' b.1 b.2.1
  -- the first digit: the graph in the row does not matter yet
  rw [show (8 : Int32) = nI 9 - 1 from by decide]
  have dig : ∀ K : Int32 → HMem → Option (Int32 × HMem), (isD σ.2.2 0 9 → ∀ m2, Fr 125 128 μ m2 → RS σ m2 → m2.1 125 21 = nI 1 → m2.1 125 22 = -1 → wp (K (nI (cd σ.2.2 0 - 48)) m2) Q) → (¬ isD σ.2.2 0 9 → ∀ m2, Fr 125 128 μ m2 → RS σ m2 → m2.1 125 21 = nI 0 → m2.1 125 22 = nI 0 → wp (K 0 m2) Q) → wp (h_bd (f_Model_digit (nI 9 - 1) m1) K) Q := by
    intro K ky kn
    refine w_bdk ?_
    have eh : ∀ m, RS σ m → m.1 125 21 = nI 0 → f_Model_here m = some (hsg σ.2.2 0, m) := by
      intro m hm hp
      rw [e_here hm.2.2 h120 hp (Nat.zero_le _)]
      unfold sgn hsg
      rcases Nat.lt_or_ge 0 σ.2.2.1 with h1 | h1
      · rw [if_pos h1, if_pos h1, (cd_in (TO.of ok) h1).1]
      · rw [if_neg (by omega), if_neg (by omega)]
    unfold f_Model_digit f_Model_digit_J32 f_Model_must f_Model_must_J25 f_Model_must_J41
    rw [eh m1 r1 p1, bd_some]
    refine w_let ?_
    rw [e_in, bd_some, hr_dig (m := 9) (TO.of ok) (by omega), if_neg (fun h => h q1)]
    by_cases hd : isD σ.2.2 0 9
    · have hb : ¬ bI (decide (isD σ.2.2 0 9)) = 0 := fun h => bI_d.mp h hd
      rw [if_neg hb, p1]
      refine w_bdk (w_let (w_ret ?_))
      rw [e_in, bd_some, hr_dig (m := 9) (TO.of ok) (by omega), if_neg hb, hr_v (m := 9) (TO.of ok) (by omega) hd]
      refine w_ret (ky hd _ (c1.trans (Fr.wi (a := 125) (b := 126) (by omega) (by omega)) (Nat.le_refl _) (Nat.le_refl _) (Nat.le_refl _) (by omega)) (r1.at (by omega) _) (wi_s _ _ _ _) ?_)
      rw [wi_n _ _ (by omega)]; exact q1
    · have hb : bI (decide (isD σ.2.2 0 9)) = 0 := bI_d.mpr hd
      rw [if_pos hb, if_neg (fun h => h q1), p1]
      refine w_bdk (w_let (w_ret ?_))
      rw [e_in, bd_some, hr_dig (m := 9) (TO.of ok) (by omega), if_pos hb]
      refine w_ret (kn hd _ (c1.trans (Fr.wi (a := 125) (b := 126) (by omega) (by omega)) (Nat.le_refl _) (Nat.le_refl _) (Nat.le_refl _) (by omega)) (r1.at (by omega) _) ?_ (wi_s _ _ _ _))
      rw [wi_n _ _ (by omega)]; exact p1
  refine dig _ (fun hd m2 c2 r2 p2 q2 => ?_) (fun hd m2 c2 r2 p2 q2 => ?_)
  · have hv : cd σ.2.2 0 - 48 ≤ 8 := by have := hd.2; omega
    have ep : prg σ.2.2 = prs σ.2.2 121 0 1 (cd σ.2.2 0 - 48, fun _ => 1, fun _ _ => 0) := if_pos hd
    refine w_bdk (s_begins (k := 4) (by omega) hv (fun m3 a1 a2 => ?_))
    refine s_mitems ok (o := μ) 121 h_fuel 0 1 _ m3 (by omega) (by unfold h_fuel; omega) (by omega) (GV_beg hv) ⟨c2.trans a2.1 (Nat.le_refl _) (Nat.le_refl _) (by omega) (by omega), r2.fw ok a2 (by omega), a1, by rw [a2.1.i (by omega)]; exact p2, isD_lt hd (by omega), by rw [a2.1.i (by omega)]; exact q2⟩ (fun q e G' p' μ' b hq j => bad q hq (ep.trans e) G' p' μ' b j) (fun j G' e p' μ' b gv => ?_)
    unfold f_Model_parse_J65
    rw [if_pos b.2.2.2.2.2]
    refine w_bdk (s_keeps ok b.2.1 hi b.2.2.1 gv.1 (fun m6 g1 g2 g3 => ?_))
    exact w_ret (hy j G' (ep.trans e) _ (b.1.trans g2 (Nat.le_refl _) (Nat.le_refl _) (Nat.le_refl _) (Nat.le_refl _)) g1 g3)
  · have ep : prg σ.2.2 = .inl 0 := if_neg hd
    refine w_bdk (s_begins (k := 4) (n := 0) (by omega) (by omega) (fun m3 a1 a2 => ?_))
    have e0 : ∀ z, z = nI 0 → wp (f_Model_parse_L36 f_Model_parse_J65 h_fuel (nI i) z m3) Q := ?_
    · exact e0 0 rfl
    rintro z rfl
    show wp (f_Model_parse_L36_b _ _ _ _ _) Q
    unfold f_Model_parse_L36_b
    rw [if_pos (by rw [a2.1.i (by omega), q2]; exact dnN (by omega))]
    exact bad 0 (by omega) ep _ 0 m3 ⟨c2.trans a2.1 (Nat.le_refl _) (Nat.le_refl _) (by omega) (by omega), r2.fw ok a2 (by omega), a1, by rw [a2.1.i (by omega)]; exact p2, Nat.zero_le _, by rw [a2.1.i (by omega)]; exact q2⟩ _
theorem LM_parse (a : Int32) {μ : HMem} (h : SI μ) : Fc (f_Law_parse a μ) (f_Model_parse a) := by
  obtain ⟨σ, ok, hc, hr⟩ := h
  unfold Fc f_Law_parse f_Bench_parse
  rcases ix_g a (n := 4) (by omega) with ha | ⟨i, hi, rfl⟩
  · rw [e_graphAtX ha, bdx_r, bdt_r]
    refine w_ret ?_
    unfold f_Model_parse
    rw [e_isGX ha, bd_some]
    exact w_f (by decide) (w_ret (Q_err ok hc hr (by decide) _))
  · rw [e_graphAt hi, bdx_l]
    refine w_try (w_bdl (s_readGraph ok hc hr (fun q e m1 a1 a2 a3 => ?_) (fun j G e m1 a1 a2 a3 gv hj => ?_)))
    · rw [if_neg (fun h => h rfl), a3]
      refine w_ret ?_
      show wp _ _
      rw [e_out]
      refine w_ret ?_
      refine s_mgraph ok (a2.wl 143 0 _) hi (fun q' e' m2 b1 b2 => ?_) (fun j' G' e' => absurd (e.symm.trans e') (by intro h; cases h))
      have : q = q' := by have := e.symm.trans e'; cases this; rfl
      subst this
      exact Q_ok ok ((a1.wl 143 0 _).fr b1 (by omega)) b2 (by rw [b1.l (by omega)]; exact wl_s _ _ _ _) rfl
    · rw [if_pos (dnN (by omega))]
      refine w_bdl (s_save ok a1 (fun m2 b1 b2 => ?_))
      refine w_bdl (s_copyFrom (isg_g hi) isg16 (by omega) (a3.fr b2 (by omega)) gv.1 (fun m3 c1 c2 => ?_))
      refine w_ret ?_
      show wp _ _
      rw [e_out]
      refine w_ret ?_
      have r3 := ((a2.fr b2 (by omega)).fr c2 (by omega)).wl 143 0 (Int32.toInt64 (nI j))
      have c3 := (CS.set hi b1 c2 c1).wl 143 0 (Int32.toInt64 (nI j))
      refine s_mgraph ok r3 hi (fun q' e' => absurd (e.symm.trans e') (by intro h; cases h)) (fun j' G' e' m4 d1 d2 d3 => ?_)
      have e2 := e.symm.trans e'
      cases e2
      exact ⟨⟨setG (push σ) i _, ok_setG (ok_push ok) i gv, c3.fr d1 (by omega), d2⟩, d3, fun _ => by rw [d1.l (by omega)]; exact wl_s _ _ _ _⟩
