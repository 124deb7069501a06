theorem letter_m {b : Nat} (h : b < 256) : Mo_isSmall (nI b) = some (if 97 ≤ b ∧ b ≤ 122 then 1 else 0) := by
  unfold Mo_isSmall
  rw [show (97 : Int32) = nI 97 from rfl, show (122 : Int32) = nI 122 from rfl]
  by_cases c : 97 ≤ b ∧ b ≤ 122
  · rw [if_neg (by rw [lt_nI (by omega) (by omega)]; omega), if_neg (by rw [lt_nI (by omega) (by omega)]; omega), if_pos c]
  · rw [if_neg c]
    by_cases d : b < 97
    · rw [if_pos (by rw [lt_nI (by omega) (by omega)]; omega)]
    · rw [if_neg (by rw [lt_nI (by omega) (by omega)]; omega), if_pos (by rw [lt_nI (by omega) (by omega)]; omega)]
theorem digit_m {b : Nat} (h : b < 256) : Mo_isDigit (nI b) = some (if 48 ≤ b ∧ b ≤ 57 then 1 else 0) := by
  unfold Mo_isDigit
  rw [show (48 : Int32) = nI 48 from rfl, show (57 : Int32) = nI 57 from rfl]
  by_cases c : 48 ≤ b ∧ b ≤ 57
  · rw [if_neg (by rw [lt_nI (by omega) (by omega)]; omega), if_neg (by rw [lt_nI (by omega) (by omega)]; omega), if_pos c]
  · rw [if_neg c]
    by_cases d : b < 48
    · rw [if_pos (by rw [lt_nI (by omega) (by omega)]; omega)]
    · rw [if_neg (by rw [lt_nI (by omega) (by omega)]; omega), if_pos (by rw [lt_nI (by omega) (by omega)]; omega)]
/-- the text as both sides hold it: n bytes bt -/
def TxC (σ : St) (n : Nat) (bt : Nat → Nat) : Prop := n ≤ 900 ∧ σ.1 2 2 = nI n ∧ ∀ k, k < n → vp_nar .byte (σ.1 3 k) = σ.1 3 k ∧ ub (σ.1 3 k) = bt k
def TxM (σ : St) (n : Nat) (bt : Nat → Nat) : Prop := n ≤ 900 ∧ σ.1 92 11 = nI n ∧ ∀ k, k < n → bt k < 256 ∧ (σ.1 99 k &&& 255) = nI (bt k)
theorem byteAt_n {σ : St} {n : Nat} {bt : Nat → Nat} (h : TxM σ n bt) {k : Nat} (hk : k < 2000) : Mo_byteAt σ (nI k) = some (if k < n then nI (bt k) else -1) := by
  obtain ⟨h1, h2, h3⟩ := h
  unfold Mo_byteAt
  rw [h2]
  by_cases z : k < n
  · rw [if_neg (by rw [le_nI (by omega) (by omega)]; omega), ix_nI (by omega) (by omega), chk_true, tn_nI (by omega), (h3 k z).2, if_pos z]
  · rw [if_pos (by rw [le_nI (by omega) (by omega)]; omega), if_neg z]
