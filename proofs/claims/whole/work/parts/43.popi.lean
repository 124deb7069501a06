theorem bitsM_n {n : Nat} (h : n < 4096) : Mo_bits (nI n) = some (nI (ct12 n)) := by
  have key : ∀ m n a f, n < 4096 → ct12 n = m → m < f → iter (fun s : (Int32 × Int32) => Mo_bits_L4 s.1 s.2) f (nI a, nI n) = some (nI (a + m)) := by
    intro m
    induction m with
    | zero =>
      intro n a f hn hct hf
      obtain ⟨f', rfl⟩ : ∃ f', f = f' + 1 := ⟨f - 1, by omega⟩
      have : n = 0 := Nat.eq_of_testBit_eq (fun i => by
        rw [Nat.zero_testBit]
        by_cases z : i < 12
        · exact fb_ct_zero.mp hct i z
        · exact Nat.testBit_lt_two_pow (Nat.lt_of_lt_of_le hn (Nat.pow_le_pow_right (by decide) (by omega) : 2 ^ 12 ≤ 2 ^ i)))
      subst this
      refine iter_exit ?_
      show Mo_bits_L4 (nI a) (nI 0) = _
      unfold Mo_bits_L4
      rw [if_pos (show nI 0 = 0 from rfl)]
      rfl
    | succ m ih =>
      intro n a f hn hct hf
      obtain ⟨f', rfl⟩ : ∃ f', f = f' + 1 := ⟨f - 1, by omega⟩
      have hn0 : 0 < n := by
        apply Nat.pos_of_ne_zero
        intro z
        subst z
        have : ct12 0 = 0 := fb_ct_zero.mpr (fun k _ => Nat.zero_testBit k)
        omega
      have hle : n &&& (n - 1) ≤ n := Nat.and_le_left
      rw [iter_step (s' := (nI (a + 1), nI (n &&& (n - 1)))) ?_, ih (n &&& (n - 1)) (a + 1) f' (by omega) ?_ (by omega)]
      · congr 2; omega
      · unfold ct12 at hct ⊢
        rw [clr_ct]
        omega
      · show Mo_bits_L4 (nI a) (nI n) = _
        unfold Mo_bits_L4
        rw [show (0 : Int32) = nI 0 from rfl, if_neg (by rw [eq_nI (by omega) (by omega)]; omega), bnd_x, bnd_x, nI_1, show nI n - 1 = nI (n - 1) from sub_nI (a := n) (b := 1) hn0, and_nI]
  unfold Mo_bits
  have h12 : ct12 n ≤ 12 := fb_ct_le _ _
  have := key (ct12 n) n 0 FUEL h rfl (fuel (by omega))
  rw [Nat.zero_add] at this
  exact congrArg (fun o => bd o (fun v => some v)) this
theorem ct12_le (n : Nat) : ct12 n ≤ 12 := fb_ct_le _ _
theorem ctn_ct (p : Nat → Bool) : ∀ n, ctn p n = fb_ct p n
  | 0 => rfl
  | n + 1 => by
    rw [fb_ct_succ, ← ctn_ct p n]
    show (if p n then ctn p n + 1 else ctn p n) = _
    by_cases h : p n = true
    · rw [if_pos h, if_pos h]
    · rw [if_neg h, if_neg h]; omega
