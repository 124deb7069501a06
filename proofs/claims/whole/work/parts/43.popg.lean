theorem bcI_n (n : Nat) (h : n < 4096) : JI_bitCount_0f7a4 (nI n) = some (nI (ct12 n)) := by
  rw [bcI_g (by omega)]
  unfold ct12
  rw [show 32 = 12 + 20 from rfl, fb_ct_split, (fb_ct_zero (p := fun k => n.testBit (12 + k)) (n := 20)).mpr (fun k _ => Nat.testBit_lt_two_pow (Nat.lt_of_lt_of_le h (Nat.pow_le_pow_right (by decide) (by omega) : 2 ^ 12 ≤ 2 ^ (12 + k)))), Nat.add_zero]
theorem iter_mono {S E : Type} {body : S → Option (S ⊕ E)} {e : E} : ∀ {n m : Nat} {s : S}, iter body n s = some e → n ≤ m → iter body m s = some e
  | 0, _, _, h, _ => by cases h
  | n + 1, 0, _, _, hm => by omega
  | n + 1, m + 1, s, h, hm => by
    cases hb : body s with
    | none =>
      have : iter body (n + 1) s = none := by
        show (match body s with | none => none | some (.inl s') => iter body n s' | some (.inr e) => some e) = _
        rw [hb]
      rw [this] at h
      cases h
    | some x =>
      cases x with
      | inl s' =>
        rw [iter_step hb] at h ⊢
        exact iter_mono h (by omega)
      | inr e' =>
        rw [iter_exit hb] at h ⊢
        exact h
