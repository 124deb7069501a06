def ub (x : Int32) : Nat := tn (x &&& 255)
theorem ub_n {x : Int32} (h : vp_nar .byte x = x) : (x &&& 255) = nI (ub x) ∧ ub x < 256 ∧ ((ub x < 128 ∧ x.toInt = ub x) ∨ (128 ≤ ub x ∧ x.toInt < 0)) := by
  have hn : ∀ y : Int32, 0 ≤ y.toInt → y.toInt < 256 → y = nI (tn y) ∧ (tn y : Int) = y.toInt := fun y h1 h2 => by
    have e : y = nI y.toInt.toNat := by
      apply Int32.toInt_inj.mp
      rw [nI_toInt (by omega)]
      omega
    have e2 : tn y = y.toInt.toNat := by
      have := congrArg tn e
      rw [tn_nI (by omega)] at this
      exact this
    rw [e2]
    exact ⟨e, by omega⟩
  rcases byte_u x h with ⟨h1, h2, h3⟩ | ⟨h1, h2, h3⟩
  · obtain ⟨e1, e2⟩ := hn x h1 (by omega)
    unfold ub
    rw [h3]
    exact ⟨e1, by omega, Or.inl ⟨by omega, e2.symm⟩⟩
  · obtain ⟨e1, e2⟩ := hn (x &&& 255) (by omega) h3
    unfold ub
    exact ⟨e1, by omega, Or.inr ⟨by omega, h1⟩⟩
theorem ub_eq {x : Int32} (h : vp_nar .byte x = x) {c : Nat} (hc : c < 128) : x = nI c ↔ ub x = c := by
  obtain ⟨_, h2, h3⟩ := ub_n h
  have ec : (nI c).toInt = (c : Int) := nI_toInt (by omega)
  constructor
  · intro e
    rw [e, ec] at h3
    rw [e]
    omega
  · intro e
    apply Int32.toInt_inj.mp
    omega
theorem letter_c {x : Int32} (h : vp_nar .byte x = x) : Re_isLetter x = some (if 97 ≤ ub x ∧ ub x ≤ 122 then 1 else 0) := by
  obtain ⟨_, h2, h3⟩ := ub_n h
  unfold Re_isLetter
  by_cases c : 97 ≤ ub x ∧ ub x ≤ 122
  · rw [if_neg (by rw [Int32.lt_iff_toInt_lt]; show ¬ x.toInt < 97; omega), if_neg (by rw [Int32.lt_iff_toInt_lt]; show ¬ (122 : Int) < x.toInt; omega), if_pos c]
  · rw [if_neg c]
    by_cases d : x < 97
    · rw [if_pos d]
    · rw [if_neg d, if_pos (by rw [Int32.lt_iff_toInt_lt] at d ⊢; have d' : ¬ x.toInt < 97 := d; show (122 : Int) < x.toInt; omega)]
theorem digit_c {x : Int32} (h : vp_nar .byte x = x) : Re_isDigit x = some (if 48 ≤ ub x ∧ ub x ≤ 57 then 1 else 0) := by
  obtain ⟨_, h2, h3⟩ := ub_n h
  unfold Re_isDigit
  by_cases c : 48 ≤ ub x ∧ ub x ≤ 57
  · rw [if_neg (by rw [Int32.lt_iff_toInt_lt]; show ¬ x.toInt < 48; omega), if_neg (by rw [Int32.lt_iff_toInt_lt]; show ¬ (57 : Int) < x.toInt; omega), if_pos c]
  · rw [if_neg c]
    by_cases d : x < 48
    · rw [if_pos d]
    · rw [if_neg d, if_pos (by rw [Int32.lt_iff_toInt_lt] at d ⊢; have d' : ¬ x.toInt < 48 := d; show (57 : Int) < x.toInt; omega)]
