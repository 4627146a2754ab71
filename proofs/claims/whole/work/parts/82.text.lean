/-! 82: what is written (one sign, one weight) -/
def wk (w : Int32) : Nat := (w + 3).toNatClampNeg
theorem wk_7 : ∀ k, k < 7 → wk (nI k - 3) = k := fun k hk => (c7 k hk).1
/-- the text of a weight -/
def wtx (w : Int32) : List Nat := if wk w = 4 then [] else if 3 ≤ wk w then [61, 48 + (wk w - 3)] else [61, 45, 48 + (3 - wk w)]
theorem wtx_len (w : Int32) : (wtx w).length ≤ 3 := by
  unfold wtx
  by_cases h : wk w = 4
  · rw [if_pos h]; decide
  · rw [if_neg h]
    by_cases h2 : 3 ≤ wk w
    · rw [if_pos h2]; show 2 ≤ 3; omega
    · rw [if_neg h2]; show 3 ≤ 3; omega
/-- a text in a row, with its length -/
def TX (c : Nat) (n : Int32) (l : List Nat) (μ : HMem) : Prop := n = nI l.length ∧ ∀ k, k < l.length → μ.1 c k = nI (l.getD k 0)
theorem getD_app (l : List Nat) (x : Nat) (k : Nat) : (l ++ [x]).getD k 0 = if k = l.length then x else l.getD k 0 := by
  rw [List.getD_eq_getElem?_getD, List.getD_eq_getElem?_getD, List.getElem?_append]
  by_cases h : k < l.length
  · rw [if_pos h, if_neg (by omega)]
  · rw [if_neg h]
    by_cases e : k = l.length
    · rw [if_pos e, e, Nat.sub_self]
      rfl
    · rw [if_neg e, List.getElem?_eq_none (by show 1 ≤ k - l.length; omega), List.getElem?_eq_none (by omega)]
theorem TX.put {c : Nat} {l : List Nat} {μ : HMem} {n : Int32} (h : TX c n l μ) (x : Nat) (μ' : HMem) (e1 : μ'.1 c = (h_wi μ c l.length (nI x)).1 c) : TX c (nI (l.length + 1)) (l ++ [x]) μ' := by
  refine ⟨by rw [List.length_append]; rfl, fun k hk => ?_⟩
  rw [List.length_append] at hk
  have hk : k < l.length + 1 := hk
  rw [getD_app, e1, wi_e]
  by_cases e : k = l.length
  · rw [if_pos ⟨rfl, e⟩, if_pos e]
  · rw [if_neg (by omega), if_neg e]
    exact h.2 k (by omega)
theorem s_put {l : List Nat} {μ : HMem} (h : TX 91 (μ.1 90 1) l μ) {N : Nat} (hN : h_len 91 = N) (hN2 : N ≤ 1000) (hl : l.length < N) {x : Nat} (hx : x < 128) {Q : Unit → HMem → Prop} (hQ : ∀ μ', TX 91 (μ'.1 90 1) (l ++ [x]) μ' → Fr 90 92 μ μ' → Q () μ') : wp (f_Script_put (nI x) μ) Q := by
  unfold f_Script_put f_Script_put_J33
  rw [h.1, hN]
  refine w_f (nI_ge hl (by omega)) ?_
  refine w_chk (in_N hl (by omega)) ?_
  refine w_let ?_
  refine w_let ?_
  rw [cl_8 (by omega), i2b_k x hx, wi_o _ _ (by omega), h.1, nI_1]
  refine w_ret (hQ _ ?_ ((Fr.wi (a := 90) (b := 92) (by omega) (by omega)).trans (Fr.wi (a := 90) (b := 92) (by omega) (by omega)) (by omega) (by omega) (by omega) (by omega)))
  rw [wi_s]
  exact h.put x _ (by rw [wi_o _ _ (by omega)])
theorem s_writes {l : List Nat} {μ : HMem} (h : TX 142 (μ.1 125 24) l μ) {N : Nat} (hN : h_len 142 = N) (hN2 : N ≤ 1000) (hl : l.length < N) (x : Nat) {Q : Unit → HMem → Prop} (hQ : ∀ μ', TX 142 (μ'.1 125 24) (l ++ [x]) μ' → Fs μ μ' → Q () μ') : wp (f_Model_writes (nI x) μ) Q := by
  unfold f_Model_writes
  rw [h.1, hN]
  refine w_chk (in_N hl (by omega)) ?_
  refine w_let ?_
  refine w_let ?_
  rw [cl_8 (by omega), wi_o _ _ (by omega), h.1, nI_1]
  refine w_ret (hQ _ ?_ ((Fs.wi (by omega) (by omega)).trans (Fs.wf ⟨by omega, by omega, by omega⟩)))
  rw [wi_s]
  exact h.put x _ (by rw [wi_o _ _ (by omega)])
theorem sg7 : ∀ k, k < 7 → ((0 : Int32) ≤ nI k - 3 ↔ 3 ≤ k) ∧ (48 + h_mabs (nI k - 3) = nI (if 3 ≤ k then 48 + (k - 3) else 48 + (3 - k))) ∧ ((nI k - 3 : Int32) = 1 ↔ k = 4) ∧ (nI k - 3 + 48 : Int32) = nI (48 + k - 3) ∧ (k < 3 → (-(nI k - 3) + 48 : Int32) = nI (48 + (3 - k))) := by decide +kernel
theorem s_putWeight {l : List Nat} {μ : HMem} (h : TX 91 (μ.1 90 1) l μ) {N : Nat} (hN : h_len 91 = N) (hN2 : N ≤ 1000) (hl : l.length + 3 ≤ N) {w : Int32} (h1 : -3 ≤ w) (h2 : w ≤ 3) {Q : Unit → HMem → Prop} (hQ : ∀ μ', TX 91 (μ'.1 90 1) (l ++ wtx w) μ' → Fr 90 92 μ μ' → Q () μ') : wp (f_Script_putWeight w μ) Q := by
  obtain ⟨k, hk, rfl⟩ := i7 h1 h2
  obtain ⟨q1, q2, q3, q4, q5⟩ := sg7 k hk
  have ew : wtx (nI k - 3) = if k = 4 then [] else if 3 ≤ k then [61, 48 + (k - 3)] else [61, 45, 48 + (3 - k)] := by unfold wtx; rw [wk_7 k hk]
  rw [ew] at hQ
  unfold f_Script_putWeight f_Script_putWeight_J21 f_Script_putWeight_J32
  refine w_if (fun h0 => ?_) (fun h0 => ?_)
  · rw [if_pos (q3.mp h0), List.append_nil] at hQ
    exact w_ret (hQ μ h (Fr.refl _ _ _))
  · rw [if_neg (fun e => h0 (q3.mpr e))] at hQ
    refine w_bdk (s_put (x := 61) h hN hN2 (by omega) (by omega) (fun m1 t1 f1 => ?_))
    have l1 : (l ++ [61]).length = l.length + 1 := by rw [List.length_append]; rfl
    refine w_if (fun h3 => ?_) (fun h3 => ?_)
    · have h3 := q1.mp h3
      rw [if_pos h3] at hQ q2
      rw [q2]
      refine w_bdk (s_put (x := 48 + (k - 3)) t1 hN hN2 (by omega) (by omega) (fun m2 t2 f2 => ?_))
      refine w_ret (hQ m2 ?_ (f1.trans f2 (by omega) (by omega) (by omega) (by omega)))
      rw [List.append_assoc] at t2
      exact t2
    · have h3 : ¬ 3 ≤ k := fun e => h3 (q1.mpr e)
      rw [if_neg h3] at hQ q2
      refine w_bdk (s_put (x := 45) t1 hN hN2 (by omega) (by omega) (fun m2 t2 f2 => ?_))
      have l2 : (l ++ [61] ++ [45]).length = l.length + 2 := by rw [List.length_append, l1]; rfl
      rw [q2]
      refine w_bdk (s_put (x := 48 + (3 - k)) t2 hN hN2 (by omega) (by omega) (fun m3 t3 f3 => ?_))
      refine w_ret (hQ m3 ?_ ((f1.trans f2 (by omega) (by omega) (by omega) (by omega) : Fr 90 92 μ m2).trans f3 (by omega) (by omega) (by omega) (by omega)))
      rw [List.append_assoc, List.append_assoc] at t3
      exact t3
