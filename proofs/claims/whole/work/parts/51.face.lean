/-! 51: a call on both sides: the shape, and the calls that set -/
def SI (μ : HMem) : Prop := ∃ σ, OKs σ ∧ CS σ μ ∧ RS σ μ
def FcQ (k : Int32) (x : HMem → Int64) (μ : HMem) : Prop := SI μ ∧ μ.1 125 5 = k ∧ (k = 0 → μ.2 143 0 = x μ)
def Fc (cls : Option (Int32 × HMem)) (ref : HMem → Option (Int32 × HMem)) : Prop := wp cls (fun k μ1 => wp (ref μ1) (fun b μ2 => FcQ k (fun _ => Int32.toInt64 b) μ2))
def FcL (cls : Option (Int32 × HMem)) (ref : HMem → Option (Int64 × HMem)) : Prop := wp cls (fun k μ1 => wp (ref μ1) (fun b μ2 => FcQ k (fun _ => b) μ2))
theorem bdx_l {R R' : Type} (x : R') (μ : HMem) (K : R' → HMem → Option ((R ⊕ Nat) × HMem)) : h_bdx (some (.inl x, μ)) K = K x μ := rfl
theorem bdx_r {R R' : Type} (e : Nat) (μ : HMem) (K : R' → HMem → Option ((R ⊕ Nat) × HMem)) : h_bdx (some (.inr e, μ)) K = some (.inr e, μ) := rfl
theorem bdt_l {R R' : Type} (x : R') (μ : HMem) (hd : Nat → Option R) (K : R' → HMem → Option (R × HMem)) : h_bdt (some (.inl x, μ)) hd K = K x μ := rfl
theorem bdt_r {R R' : Type} (e : Nat) (μ : HMem) (hd : Nat → Option R) (K : R' → HMem → Option (R × HMem)) : h_bdt (some (.inr e, μ)) hd K = (hd e).map (fun r => (r, μ)) := rfl
/-- behind a part that does not throw -/
theorem w_bdl {R R' : Type} {F : Option (R' × HMem)} {K : R' → HMem → Option ((R ⊕ Nat) × HMem)} {Q : (R ⊕ Nat) → HMem → Prop} (h : wp F (fun r μ => wp (K r μ) Q)) : wp (h_bd F K) Q := w_bdk h
/-- the wrapper's catch, by what the method does -/
theorem w_try {R R' : Type} {F : Option ((R' ⊕ Nat) × HMem)} {hd : Nat → Option R} {K : R' → HMem → Option (R × HMem)} {Q : R → HMem → Prop} (h : wp F (fun r μ => match r with | .inl r => wp (K r μ) Q | .inr e => ∃ r, hd e = some r ∧ Q r μ)) : wp (h_bdt F hd K) Q := by
  refine w_bdt h (fun r μ h => h) (fun e μ h => h)
theorem ix_g (x : Int32) {n : Nat} (hn : n < 2 ^ 31) : (x < 0 ∨ nI n ≤ x) ∨ ∃ j, j < n ∧ x = nI j := by
  rcases pk_ix x hn with h | h | h
  · exact Or.inl (Or.inl h)
  · exact Or.inl (Or.inr h)
  · exact Or.inr h
theorem e_graphAt {i : Nat} (hi : i < 4) (μ : HMem) : f_Bench_graphAt (nI i) μ = some (.inl (4 * i), μ) := by
  unfold f_Bench_graphAt
  rw [if_neg (nI_pos (by omega)), if_pos (show nI i < (4 : Int32) from nI_lt (b := 4) hi (by omega)), chk_in (in_N (by rw [show h_len 85 = 4 from rfl]; omega) (by decide)), cl_8 (by omega), el85]
theorem e_graphAtX {x : Int32} (h : x < 0 ∨ nI 4 ≤ x) (μ : HMem) : f_Bench_graphAt x μ = some (.inr 1, μ) := by
  unfold f_Bench_graphAt f_Bench_graphAt_J9
  by_cases h0 : x < 0
  · rw [if_pos h0]
  · rw [if_neg h0]
    have h4 : ¬ x < (4 : Int32) := by
      have := h.resolve_left h0
      exact Int32.not_lt.mpr this
    rw [if_neg h4]
theorem e_isG {i : Nat} (hi : i < 4) (μ : HMem) : f_Model_isGraph (nI i) μ = some (bI true, μ) := by
  rw [e_isGraph]
  have h1 : ¬ nI i < 0 := nI_pos (by omega)
  have h2 : ¬ (3 : Int32) < nI i := nI_nlt (b := i) (a := 3) (by omega) (by omega)
  simp [h1, h2]
theorem e_isGX {x : Int32} (h : x < 0 ∨ nI 4 ≤ x) (μ : HMem) : f_Model_isGraph x μ = some (bI false, μ) := by
  rw [e_isGraph]
  by_cases h0 : x < 0
  · simp [h0]
  · have h4 : (3 : Int32) < x := by
      have := h.resolve_left h0
      rw [Int32.lt_iff_toInt_lt]
      rw [Int32.le_iff_toInt_le, nI_toInt (by omega)] at this
      have e3 : (3 : Int32).toInt = 3 := rfl
      omega
    simp [h4]
theorem e_reqR {v lo hi : Int32} (h : ¬ (v < lo ∨ hi < v)) (μ : HMem) : f_Bench_requireRange v lo hi μ = some (.inl (), μ) := by
  unfold f_Bench_requireRange
  rw [if_neg (fun h' => h (Or.inl h')), if_pos (Int32.not_lt.mp (fun h' => h (Or.inr h')))]
theorem e_reqRX {v lo hi : Int32} (h : v < lo ∨ hi < v) (μ : HMem) : f_Bench_requireRange v lo hi μ = some (.inr 2, μ) := by
  unfold f_Bench_requireRange f_Bench_requireRange_J10
  by_cases h0 : v < lo
  · rw [if_pos h0]
  · rw [if_neg h0, if_neg (Int32.not_le.mpr (h.resolve_left h0))]
theorem e_inT {v lo hi : Int32} (h : ¬ (v < lo ∨ hi < v)) (μ : HMem) : f_Model_in v lo hi μ = some (bI true, μ) := by
  rw [e_in]
  have h1 : ¬ v < lo := fun h' => h (Or.inl h')
  have h2 : ¬ hi < v := fun h' => h (Or.inr h')
  simp [h1, h2]
theorem e_inX {v lo hi : Int32} (h : v < lo ∨ hi < v) (μ : HMem) : f_Model_in v lo hi μ = some (bI false, μ) := by
  rw [e_in]
  by_cases h0 : v < lo
  · simp [h0]
  · simp [h.resolve_left h0]
/-- in the range from 0 to n -/
theorem rg_n {v : Int32} {n : Nat} (hn : n < 2 ^ 31) (h : ¬ (v < 0 ∨ nI n < v)) : ∃ k, k ≤ n ∧ v = nI k := by
  obtain ⟨k, hk, rfl⟩ := nI_of (fun h' => h (Or.inl h'))
  refine ⟨k, ?_, rfl⟩
  rcases Nat.lt_or_ge n k with h1 | h1
  · exact absurd (Or.inr (nI_lt h1 hk)) h
  · exact h1
theorem SI_err {σ : HS} {μ : HMem} (ok : OKs σ) (hc : CS σ μ) (hr : RS σ μ) (x : Int32) : SI (h_wi μ 125 5 x) := by
  refine ⟨σ, ok, hc.fr (Fr.wi (a := 125) (b := 126) (by omega) (by omega)) (by omega), fun i hi => ?_, ?_, ?_⟩
  · rw [wi_o _ _ (by omega)]; exact hr.1 i hi
  · unfold RH
    rw [wi_n _ _ (by omega), wi_o _ _ (by omega)]; exact hr.2.1
  · unfold RT
    rw [wi_n _ _ (by omega), wi_o _ _ (by omega)]; exact hr.2.2
theorem Q_err {σ : HS} {μ : HMem} (ok : OKs σ) (hc : CS σ μ) (hr : RS σ μ) {k : Int32} (hk : ¬ k = 0) (x : HMem → Int64) : FcQ k x (h_wi μ 125 5 k) := ⟨SI_err ok hc hr k, wi_s _ _ _ _, fun h => absurd h hk⟩
theorem Q_ok {σ : HS} {μ : HMem} (ok : OKs σ) (hc : CS σ μ) (hr : RS σ μ) {x : Int64} {y : HMem → Int64} (h : μ.2 143 0 = x) (hy : y (h_wi μ 125 5 0) = x) : FcQ 0 y (h_wi μ 125 5 0) := ⟨SI_err ok hc hr 0, wi_s _ _ _ _, fun _ => by rw [hy]; exact h⟩
theorem e_out (x : Int64) (μ : HMem) : h_chk 0 (h_len 143) (h_let (h_wl μ 143 (Int32.toNatClampNeg (0)) x) (fun m => some ((0 : Int32), m))) = some (0, h_wl μ 143 0 x) := by
  have h : vp_in 0 (h_len 143) := vp_in_nI (n := 0) (N := 1) (by omega) (by omega)
  rw [chk_in h]
  rfl
theorem wl_s (μ : HMem) (c i : Nat) (x : Int64) : (h_wl μ c i x).2 c i = x := by rw [wl_e, if_pos ⟨rfl, rfl⟩]
theorem CS.wl {σ : HS} {μ : HMem} (h : CS σ μ) (c i : Nat) (x : Int64) : CS σ (h_wl μ c i x) := h
theorem RS.wl {σ : HS} {μ : HMem} (h : RS σ μ) (c i : Nat) (x : Int64) : RS σ (h_wl μ c i x) := h
theorem LM_setSize (a b : Int32) {μ : HMem} (h : SI μ) : Fc (f_Law_setSize a b μ) (f_Model_setSize a b) := by
  obtain ⟨σ, ok, hc, hr⟩ := h
  unfold Fc f_Law_setSize f_Bench_setSize
  rcases ix_g a (n := 4) (by omega) with ha | ⟨i, hi, rfl⟩
  · rw [e_graphAtX ha, bdx_r, bdt_r]
    refine w_ret ?_
    unfold f_Model_setSize
    rw [e_isGX ha, bd_some]
    exact w_f (by decide) (w_ret (Q_err ok hc hr (by decide) _))
  · rw [e_graphAt hi, bdx_l]
    have hri := hr.1 i hi
    by_cases hb : b < 0 ∨ 8 < b
    · rw [e_reqRX hb, bdx_r, bdt_r]
      refine w_ret ?_
      unfold f_Model_setSize
      rw [e_isG hi, bd_some, e_inX hb, bd_some]
      exact w_t (by decide) (w_f (by decide) (w_ret (Q_err ok hc hr (by decide) _)))
    · rw [e_reqR hb, bdx_l]
      obtain ⟨n, hn, rfl⟩ := rg_n (n := 8) (by omega) hb
      refine w_try (w_bdl (s_save ok hc (fun m1 a1 a2 => ?_)))
      refine w_let ?_
      have hci := a1.1 i hi
      rw [hci.1]
      refine w_bdl (s_reset (isg_g hi) hn (fun m2 b1 b2 => ?_))
      refine w_ret ?_
      show wp _ _
      rw [e_out]
      refine w_ret ?_
      unfold f_Model_setSize
      have ok1 := ok_push ok
      have hr2 : RS σ (h_wl m2 143 0 (Int32.toInt64 (nI (σ.1 i).1))) := (hr.fr (a2.trans b2 (a := 0) (b := 88) (by omega) (by omega) (by omega) (by omega)) (by omega)).wl _ _ _
      rw [e_isG hi, bd_some, e_inT hb, bd_some]
      refine w_t (by decide) (w_t (by decide) ?_)
      refine w_bde (e_msize (by omega) (hr2.1 i hi)) ?_
      refine w_bdk (s_begins (k := 4) (by omega) hn (fun m3 c1 c2 => ?_))
      refine w_bdk (s_keeps ok (hr2.fw ok c2 (by omega)) hi c1 hn (fun m4 d1 d2 d3 => ?_))
      have hGV : GV (n, fun _ => 1, fun _ _ => 0) := ⟨hn, fun _ _ => show (-3 : Int32) ≤ 1 ∧ (1 : Int32) ≤ 3 from ⟨by decide, by decide⟩, fun _ _ _ _ => show (0 : Int32) = 0 ∧ (-2 : Int32) ≤ 0 ∧ (0 : Int32) ≤ 2 from ⟨rfl, by decide, by decide⟩⟩
      refine w_ret ⟨⟨setG (push σ) i _, ok_setG ok1 i hGV, ?_, d1⟩, d3, fun _ => ?_⟩
      · exact ((CS.set hi a1 b2 b1).wl 143 0 _).fr (c2.1.trans d2 (a := 125) (b := 128) (by omega) (by omega) (by omega) (by omega)) (by omega)
      · rw [d2.l (by omega), c2.1.l (by omega), wl_s]
        rfl
