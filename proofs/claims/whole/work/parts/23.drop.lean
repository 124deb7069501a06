theorem m1_n : (-1 : Int32) = nI 4294967295 := rfl
/-- a set behind a class that goes -/
def dropS (on k : Nat) : Nat := (on &&& (2 ^ k - 1)) ||| ((on / 2) &&& ((2 ^ k - 1) ^^^ 4294967295))
theorem tb_ones (k j : Nat) : (2 ^ k - 1).testBit j = decide (j < k) := Nat.testBit_two_pow_sub_one k j
theorem dropS_bit {on k j : Nat} (ho : on < 4096) : (dropS on k).testBit j = if j < k then on.testBit j else on.testBit (j + 1) := by
  unfold dropS
  rw [Nat.testBit_or, Nat.testBit_and, Nat.testBit_and, Nat.testBit_xor, tb_ones, show (4294967295 : Nat) = 2 ^ 32 - 1 from rfl, tb_ones, Nat.testBit_div_two]
  by_cases h : j < k
  · rw [if_pos h, decide_eq_true h]
    by_cases h2 : j < 32
    · rw [decide_eq_true h2]; simp
    · rw [Nat.testBit_lt_two_pow (show on < 2 ^ j from Nat.lt_of_lt_of_le ho (Nat.pow_le_pow_right (by decide) (by omega) : 2 ^ 12 ≤ 2 ^ j)), Nat.testBit_lt_two_pow (show on < 2 ^ (j + 1) from Nat.lt_of_lt_of_le ho (Nat.pow_le_pow_right (by decide) (by omega) : 2 ^ 12 ≤ 2 ^ (j + 1)))]
      simp
  · rw [if_neg h, decide_eq_false h]
    by_cases h2 : j < 32
    · rw [decide_eq_true h2]; simp
    · rw [Nat.testBit_lt_two_pow (show on < 2 ^ (j + 1) from Nat.lt_of_lt_of_le ho (Nat.pow_le_pow_right (by decide) (by omega) : 2 ^ 12 ≤ 2 ^ (j + 1)))]
      simp
theorem dropS_lt {on k c : Nat} (ho : on < 2 ^ c) (hc : c ≤ 12) (hk : k < c) : dropS on k < 2 ^ (c - 1) := by
  have ho' : on < 4096 := Nat.lt_of_lt_of_le ho (p2_12 hc)
  apply Nat.lt_pow_two_of_testBit
  intro j hj
  rw [dropS_bit ho', if_neg (by omega)]
  exact Nat.testBit_lt_two_pow (Nat.lt_of_lt_of_le ho (Nat.pow_le_pow_right (by decide) (by omega)))
def without (f : Nat → Nat) (k : Nat) : Nat → Nat := fun j => if j < k then f j else f (j + 1)
theorem WF.drop {c od on : Nat} {rs md nm : Nat → Nat} (w : WF c od on rs md nm) {k : Nat} (hk : k < c) : WF (c - 1) od (dropS on k) (without rs k) (without md k) (without nm k) := by
  refine ⟨by have := w.1; omega, w.2.1, dropS_lt w.2.2.1 w.1 hk, fun j hj => ?_, fun j hj => ?_⟩
  · unfold without
    by_cases e : j < k
    · rw [if_pos e, if_pos e]; exact w.2.2.2.1 j (by omega)
    · rw [if_neg e, if_neg e]; exact w.2.2.2.1 (j + 1) (by omega)
  · unfold without
    by_cases e : j < k
    · rw [if_pos e]; exact w.2.2.2.2 j (by omega)
    · rw [if_neg e]; exact w.2.2.2.2 (j + 1) (by omega)
theorem cpk_n {s d n n0 n1 : Nat} (h0 : s + n ≤ n0) (h1 : d + n ≤ n1) (hs : n0 < 2147483648) (hd : n1 < 2147483648) : cpk (nI s) (nI d) (nI n) n0 n1 = true := by
  unfold cpk
  rw [tn_nI (by omega), tn_nI (by omega), tn_nI (by omega), nI_toInt (by omega), nI_toInt (by omega), nI_toInt (by omega)]
  exact decide_eq_true ⟨by omega, by omega, by omega, h0, h1⟩
theorem cpy_drop {α : Type} (f : Nat → α) {k c j : Nat} (hk : k < c) (hj : j < c - 1) : va_cpy f f (k + 1) k (c - k - 1) j = if j < k then f j else f (j + 1) := by
  unfold va_cpy
  by_cases e : j < k
  · rw [if_neg (by omega), if_pos e]
  · rw [if_pos (by omega), if_neg e, show k + 1 + (j - k) = j + 1 by omega]
theorem rI_s {σ : St} {a i : Nat} {g : Nat → Int32} : (rI σ a g).1 a i = g i := by
  show ur _ _ _ _ _ = _
  unfold ur
  rw [if_pos rfl]
theorem rL_s {σ : St} {a i : Nat} {g : Nat → Int64} : (rL σ a g).2 a i = g i := by
  show ur _ _ _ _ _ = _
  unfold ur
  rw [if_pos rfl]
theorem rI_ne {σ : St} {a b i : Nat} {g : Nat → Int32} (h : ¬ b = a) : (rI σ a g).1 b i = σ.1 b i := congrFun (ur_off _ _ h) i
theorem rL_ne {σ : St} {a b i : Nat} {g : Nat → Int64} (h : ¬ b = a) : (rL σ a g).2 b i = σ.2 b i := congrFun (ur_off _ _ h) i
theorem rI_r {σ : St} {a b : Nat} {g : Nat → Int32} (h : ¬ b = a) : (rI σ a g).1 b = σ.1 b := ur_off _ _ h
theorem rI_2' {σ : St} {a : Nat} {g : Nat → Int32} : (rI σ a g).2 = σ.2 := rfl
theorem rL_1' {σ : St} {a : Nat} {g : Nat → Int64} : (rL σ a g).1 = σ.1 := rfl
theorem remove_n {σ : St} {a c od on : Nat} {rs md nm : Nat → Nat} (h : CV σ a c od on rs md nm) (w : WF c od on rs md nm) {k : Nat} (hk : k < c) : ∃ σ', Cl_remove σ a (nI k) = some σ' ∧ CV σ' a (c - 1) od (dropS on k) (without rs k) (without md k) (without nm k) := by
  have hc := w.1
  have hp := p2_12 (k := k) (by omega)
  have hp1 : 1 ≤ 2 ^ k := Nat.one_le_two_pow
  have ho := w.on4
  obtain ⟨a1, a2, a3, a4, a5, a6⟩ := h
  have hx : ix (nI k) c = true := by rw [ix_nI (by omega) (by omega)]
  have hv : nI c - nI k - 1 = nI (c - k - 1) := by
    rw [sub_nI (by omega)]
    exact sub_nI (a := c - k) (b := 1) (by omega)
  have hm : (1 : Int32) <<< (nI k &&& 31) - 1 = nI (2 ^ k - 1) := by
    rw [shl1 (by omega)]
    exact sub_nI (a := 2 ^ k) (b := 1) hp1
  have hs : nI on >>> ((1 : Int32) &&& 31) = nI (on / 2) := shr_nI (a := on) (k := 1) (by omega) (by omega)
  have hd : nI c - 1 = nI (c - 1) := sub_nI (a := c) (b := 1) (by omega)
  refine ⟨wI (wI (rL (rI (rI σ (a + 1) (va_cpy (σ.1 (a + 1)) (σ.1 (a + 1)) (k + 1) k (c - k - 1))) (a + 2) (va_cpy (σ.1 (a + 2)) (σ.1 (a + 2)) (k + 1) k (c - k - 1))) (a + 3) (va_cpy (σ.2 (a + 3)) (σ.2 (a + 3)) (k + 1) k (c - k - 1))) a 4 (nI (dropS on k))) a 3 (nI (c - 1)), ?_, wI_s, ?_, ?_, fun j hj => ?_, fun j hj => ?_, fun j hj => ?_⟩
  · unfold Cl_remove
    rw [isThere_g a1 (by omega), if_pos hx, bd_s, if_neg (by decide), a1, hv, bnd_x, nI_1, cpk_n (by omega) (by omega) (by omega) (by omega), chk_true, bnd_x, chk_true, tn_nI (by omega), tn_nI (by omega), tn_nI (by omega), rI_r (by omega), bnd_x, chk_true, rI_2', rI_2', bnd_x, hm, bnd_x, rL_1', rI_ne (by omega), rI_ne (by omega), a2, hs, m1_n, xor_nI, and_nI, and_nI, or_nI, bnd_x, wI_ne (by omega), rL_1', rI_ne (by omega), rI_ne (by omega), a1, hd, bnd_x]
    rfl
  · rw [wI_ne (by omega), wI_s]
  · rw [wI_ne (by omega), wI_ne (by omega), rL_1', rI_ne (by omega), rI_ne (by omega)]; exact a3
  · rw [wI_ne (by omega), wI_ne (by omega), rL_1', rI_ne (by omega), rI_s, cpy_drop _ hk hj]
    unfold without
    by_cases e : j < k
    · rw [if_pos e, if_pos e]; exact a4 j (by omega)
    · rw [if_neg e, if_neg e]; exact a4 (j + 1) (by omega)
  · rw [wI_ne (by omega), wI_ne (by omega), rL_1', rI_s, cpy_drop _ hk hj]
    unfold without
    by_cases e : j < k
    · rw [if_pos e, if_pos e]; exact a5 j (by omega)
    · rw [if_neg e, if_neg e]; exact a5 (j + 1) (by omega)
  · rw [wI_2, wI_2, rL_s, cpy_drop _ hk hj]
    unfold without
    by_cases e : j < k
    · rw [if_pos e, if_pos e]; exact a6 j (by omega)
    · rw [if_neg e, if_neg e]; exact a6 (j + 1) (by omega)
/-! the reference's -/
def dr (f : Nat → Nat) (k o : Nat) : Nat → Nat := fun j => if k ≤ j ∧ j < o then f (j + 1) else f j
def Wt (τ : St) (o : Nat) : Nat → St := fun i => Nat.rec (motive := fun _ => St) τ (fun i s => wI s 93 (4 + 3 * o + i) (s.1 93 (4 + 3 * (o + 1) + i))) i
theorem Wt_s (τ : St) (o i : Nat) : Wt τ o (i + 1) = wI (Wt τ o i) 93 (4 + 3 * o + i) ((Wt τ o i).1 93 (4 + 3 * (o + 1) + i)) := rfl
theorem inner_n {τ : St} {o : Nat} (ho : o < 12) : iter (fun s : (Int32 × St) => Mo_takesAway_L24 (nI o) s.2 s.1) FUEL (0, τ) = some (Wt τ o 3) := by
  refine iter_for (body := fun s : (Int32 × St) => Mo_takesAway_L24 (nI o) s.2 s.1) (fun i => (nI i, Wt τ o i)) (lo := 0) (hi := 3) (n := FUEL) (Nat.zero_le _) (fuel (by omega)) ?_ ?_
  · intro i _ hi
    show Mo_takesAway_L24 (nI o) (Wt τ o i) (nI i) = some (.inl (nI (i + 1), Wt τ o (i + 1)))
    unfold Mo_takesAway_L24
    rw [if_neg (by rw [show (3 : Int32) = nI 3 from rfl, le_nI (by omega) (by omega)]; omega), rowOf_n, bd_s, nI_1, rowOf_n, bd_s, nI_add, nI_add, ix_nI (by omega) (by omega), chk_true, ix_nI (by omega) (by omega), chk_true, tn_nI (by omega), tn_nI (by omega), bnd_x, bnd_x, nI_1, Wt_s]
  · show Mo_takesAway_L24 (nI o) (Wt τ o 3) (nI 3) = _
    unfold Mo_takesAway_L24
    rw [if_pos (by decide)]
