/-! THE CLASS'S SYSTEM at cell a: c classes, odds od, the set on, rests, moduli, names -/
def CV (σ : St) (a c od on : Nat) (rs md nm : Nat → Nat) : Prop := σ.1 a 3 = nI c ∧ σ.1 a 4 = nI on ∧ σ.1 a 5 = nI od ∧ (∀ k, k < c → σ.1 (a + 1) k = nI (rs k)) ∧ (∀ k, k < c → σ.1 (a + 2) k = nI (md k)) ∧ ∀ k, k < c → σ.2 (a + 3) k = lN (nm k)
def WF (c od on : Nat) (rs md nm : Nat → Nat) : Prop := c ≤ 12 ∧ od ≤ 16 ∧ on < 2 ^ c ∧ (∀ k, k < c → 1 ≤ md k ∧ md k ≤ 60 ∧ rs k < md k) ∧ ∀ k, k < c → nm k < 1099511627776
theorem WF.on4 {c od on : Nat} {rs md nm : Nat → Nat} (h : WF c od on rs md nm) : on < 4096 :=
  Nat.lt_of_lt_of_le h.2.2.1 (Nat.pow_le_pow_right (by decide) h.1 : 2 ^ c ≤ 2 ^ 12)
theorem WF.bit {c od on : Nat} {rs md nm : Nat → Nat} (h : WF c od on rs md nm) {k : Nat} (hk : c ≤ k) : on.testBit k = false :=
  Nat.testBit_lt_two_pow (Nat.lt_of_lt_of_le h.2.2.1 (Nat.pow_le_pow_right (by decide) hk))
theorem bset_succ (p : Nat → Bool) (k : Nat) : bset p (k + 1) = if p k then bset p k + 2 ^ k else bset p k := rfl
theorem bset_4 (p : Nat → Bool) {k : Nat} (h : k ≤ 12) : bset p k < 4096 := Nat.lt_of_lt_of_le (bset_lt p k) (Nat.pow_le_pow_right (by decide) h : 2 ^ k ≤ 2 ^ 12)
theorem p2_12 {k : Nat} (h : k ≤ 12) : 2 ^ k ≤ 4096 := (Nat.pow_le_pow_right (by decide) h : 2 ^ k ≤ 2 ^ 12)
theorem shl1 {k : Nat} (h : k ≤ 30) : (1 : Int32) <<< (nI k &&& 31) = nI (2 ^ k) := by
  have h2 : 2 ^ k ≤ 2 ^ 30 := Nat.pow_le_pow_right (by decide) h
  have := shl_nI (a := 1) (k := k) (by omega) (by rw [Nat.one_mul]; omega)
  rw [Nat.one_mul] at this
  exact this
theorem ix_ex {x : Int32} {n : Nat} (h : ix x n = true) : ∃ k, k < n ∧ x = nI k ∧ k < 2147483648 := by
  have h1 := of_decide_eq_true h
  have h2 := i32_rng x
  refine ⟨x.toInt.toNat, by omega, ?_, by omega⟩
  apply Int32.toInt_inj.mp
  rw [nI_toInt (by omega)]
  omega
theorem ix_f {x : Int32} {n : Nat} (h : ¬ ix x n = true) (hn : n < 2147483648) : x < 0 ∨ nI n ≤ x := by
  have h1 : ¬ (0 ≤ x.toInt ∧ x.toInt < n) := fun q => h (decide_eq_true q)
  rw [Int32.lt_iff_toInt_lt, Int32.le_iff_toInt_le, nI_toInt hn]
  have : (0 : Int32).toInt = 0 := rfl
  omega
theorem isThere_g {σ : St} {a c : Nat} (h : σ.1 a 3 = nI c) (hc : c < 2147483648) (x : Int32) : Cl_isThere σ a x = some (if ix x c = true then 1 else 0) := by
  unfold Cl_isThere
  by_cases hx : ix x c = true
  · obtain ⟨k, hk, rfl, hk2⟩ := ix_ex hx
    rw [if_pos hx, if_neg (nI_pos hk2), h, if_neg (by rw [le_nI hc hk2]; omega)]
  · rw [if_neg hx]
    rcases ix_f hx hc with q | q
    · rw [if_pos q]
    · by_cases q0 : x < 0
      · rw [if_pos q0]
      · rw [if_neg q0, h, if_pos q]
theorem isIn_b {s k : Nat} (hs : s < 2147483648) (hk : k < 32) : RC_isIn (nI s) (nI k) = some (if s.testBit k then 1 else 0) := isIn_n hs hk
theorem isInM_b {s k : Nat} (hs : s < 2147483648) (hk : k < 32) : Mo_isIn (nI s) (nI k) = some (if s.testBit k then 1 else 0) := isIn_n hs hk
section CLS
variable {σ : St} {a c od on : Nat} {rs md nm : Nat → Nat}
theorem isOn_n (h : CV σ a c od on rs md nm) (w : WF c od on rs md nm) {k : Nat} (hk : k < 32) : Cl_isOn σ a (nI k) = some (if on.testBit k then 1 else 0) := by
  unfold Cl_isOn
  have hc := w.1
  have ho := w.on4
  rw [if_neg (nI_pos (by omega)), h.1]
  by_cases hkc : c ≤ k
  · rw [if_pos (by rw [le_nI (by omega) (by omega)]; exact hkc), w.bit hkc]
    rfl
  · rw [if_neg (by rw [le_nI (by omega) (by omega)]; exact hkc), h.2.1, isIn_b (by omega) hk, bd_s]
    by_cases hb : on.testBit k = true
    · rw [if_pos hb, if_neg (by decide)]
    · rw [if_neg hb, if_pos rfl]
theorem takes_n (h : CV σ a c od on rs md nm) (w : WF c od on rs md nm) {k n : Nat} (hk : k < c) (hn : n < 2147483648) : Cl_takes σ a (nI k) (nI n) = some (if n % md k = rs k then 1 else 0) := by
  unfold Cl_takes
  have hc := w.1
  obtain ⟨m1, m2, m3⟩ := w.2.2.2.1 k hk
  have hm : n % md k < md k := Nat.mod_lt _ (by omega)
  rw [ix_nI (by omega) (by omega), chk_true, tn_nI (by omega), h.2.2.2.2.1 k hk, leftBy_n (by omega) (by omega) hn, bd_s, chk_true, h.2.2.2.1 k hk]
  by_cases hq : n % md k = rs k
  · rw [if_pos (by rw [hq]), if_pos hq]
  · rw [if_neg (by rw [eq_nI (by omega) (by omega)]; exact hq), if_neg hq]
/-- the set of those that catch n -/
def cset (c on : Nat) (rs md : Nat → Nat) (n : Nat) : Nat := bset (fun k => on.testBit k && decide (n % md k = rs k)) c
theorem catchers_n (h : CV σ a c od on rs md nm) (w : WF c od on rs md nm) {n : Nat} (hn : n < 2147483648) : Cl_catchers σ a (nI n) = some (nI (cset c on rs md n)) := by
  unfold Cl_catchers
  have hc := w.1
  have key := iter_for (body := fun s : (Int32 × Int32) => Cl_catchers_L4 a (nI n) σ s.1 s.2) (fun k => (nI (bset (fun k => on.testBit k && decide (n % md k = rs k)) k), nI k)) (lo := 0) (hi := c) (n := FUEL) (e := nI (cset c on rs md n)) (Nat.zero_le _) (fuel (by omega)) ?_ ?_
  · exact congrArg (fun o => bd o (fun v => some v)) key
  · intro k _ hk
    show Cl_catchers_L4 a (nI n) σ (nI (bset (fun k => on.testBit k && decide (n % md k = rs k)) k)) (nI k) = some (.inl (nI (bset (fun k => on.testBit k && decide (n % md k = rs k)) (k + 1)), nI (k + 1)))
    unfold Cl_catchers_L4
    rw [h.1, if_neg (by rw [le_nI (by omega) (by omega)]; omega), isOn_n h w (by omega), bd_s, bset_succ]
    by_cases hb : on.testBit k = true
    · rw [if_pos hb, if_neg (by decide), takes_n h w hk hn, bd_s]
      by_cases hq : n % md k = rs k
      · rw [if_pos hq, if_neg (by decide), bnd_x, bnd_x, shl1 (by omega), or_nI, bset_or, nI_1, if_pos (by simp [hb, hq])]
      · rw [if_neg hq, if_pos rfl, bnd_x, nI_1, if_neg (by simp [hq])]
    · rw [if_neg hb, if_pos rfl, bnd_x, nI_1, if_neg (by simp [hb])]
  · show Cl_catchers_L4 a (nI n) σ (nI (bset (fun k => on.testBit k && decide (n % md k = rs k)) c)) (nI c) = _
    unfold Cl_catchers_L4
    rw [h.1, if_pos (by rw [le_nI (by omega) (by omega)]; exact Nat.le_refl _)]
    rfl
end CLS
