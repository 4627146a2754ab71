/-! 86: reading a text, sign by sign -/
/-- the sign at a place; none behind the end -/
def sgn (t : Nat × (Nat → Int32)) (p : Nat) : Int32 := if p < t.1 then t.2 p else -1
theorem e_here {t : Nat × (Nat → Int32)} {μ : HMem} (h : RT t μ) (ht : t.1 ≤ 120) {p : Nat} (hp : μ.1 125 21 = nI p) (hp2 : p ≤ t.1) : f_Model_here μ = some (sgn t p, μ) := by
  unfold f_Model_here f_Model_here_J24 sgn
  rw [h.1, hp]
  rcases Nat.lt_or_ge p t.1 with h1 | h1
  · rw [if_neg (nI_ge h1 (by omega)), if_pos h1, chk_in (in_N (by rw [show h_len 128 = 120 from rfl]; omega) (by decide)), cl_8 (by omega), h.2 p h1]
  · rw [if_pos (nI_le h1 (by omega)), if_neg (by omega)]
theorem e_accept {t : Nat × (Nat → Int32)} {μ : HMem} (h : CT t μ) (ht : t.1 ≤ 120) {p : Nat} (hp : μ.1 88 2 = nI p) (hp2 : p ≤ t.1) {c : Nat} (hc : c < 128) : f_Text_accept (nI c) μ = if sgn t p = nI c then some (1, h_wi μ 88 2 (nI (p + 1))) else some (0, μ) := by
  unfold f_Text_accept f_Text_accept_J24 sgn
  rw [h.1, hp]
  rcases Nat.lt_or_ge p t.1 with h1 | h1
  · rw [if_neg (nI_ge h1 (by omega)), if_pos h1, chk_in (in_N (by rw [show h_len 89 = 120 from rfl]; omega) (by decide)), cl_8 (by omega), h.2 p h1]
    by_cases e : t.2 p = nI c
    · rw [if_pos e, if_pos e]
      show (if (1 : Int32) &&& 1 = 1 then some ((1 : Int32), h_wi μ 88 2 (nI p + 1)) else none) = _
      rw [if_pos (by decide), nI_1]
    · rw [if_neg e, if_neg e, if_pos (by decide)]
  · have e : ¬ p < t.1 := by omega
    have e2 : ¬ (-1 : Int32) = nI c := fun e => dnN (j := c) (by omega) e.symm
    rw [if_pos (nI_le h1 (by omega)), if_neg e, if_neg e2]
    rfl
/-- a digit up to d at a place -/
def dig1 (t : Nat × (Nat → Int32)) (p d : Nat) : Prop := p < t.1 ∧ ¬ t.2 p < 48 ∧ t.2 p ≤ nI (48 + d)
theorem e_readDigit {t : Nat × (Nat → Int32)} {μ : HMem} (h : CT t μ) (ht : t.1 ≤ 120) {p : Nat} (hp : μ.1 88 2 = nI p) (hp2 : p ≤ t.1) (d : Nat) : (dig1 t p d → f_Text_readDigit (nI d) μ = some (t.2 p - 48, h_wi μ 88 2 (nI (p + 1)))) ∧ (¬ dig1 t p d → f_Text_readDigit (nI d) μ = some (-100, μ)) := by
  unfold f_Text_readDigit f_Text_readDigit_J41
  rw [h.1, hp, show (48 : Int32) + nI d = nI (48 + d) from nI_add 48 d]
  rcases Nat.lt_or_ge p t.1 with h1 | h1
  · rw [if_neg (nI_ge h1 (by omega)), chk_in (in_N (by rw [show h_len 89 = 120 from rfl]; omega) (by decide)), chk_in (in_N (by rw [show h_len 89 = 120 from rfl]; omega) (by decide)), chk_in (in_N (by rw [show h_len 89 = 120 from rfl]; omega) (by decide)), cl_8 (by omega), h.2 p h1]
    constructor
    · rintro ⟨_, h2, h3⟩
      rw [if_neg h2, if_pos h3]
      show some (t.2 p - 48, h_wi μ 88 2 (nI p + 1)) = _
      rw [nI_1]
    · intro hn
      by_cases h2 : t.2 p < 48
      · rw [if_pos h2]
      · rw [if_neg h2, if_neg (fun h3 => hn ⟨h1, h2, h3⟩)]
  · rw [if_pos (nI_le h1 (by omega))]
    exact ⟨fun h2 => absurd h2.1 (by omega), fun _ => rfl⟩
