/-! THE REFERENCE'S SYSTEM in the slot at o of its row of ints, its names at q -/
def g8 : Nat → Nat := fun n => Nat.rec (motive := fun _ => Nat → Nat) (fun _ => 0) (fun _ ih n => if n = 0 then 0 else ih (n / 32) * 256 + (n % 32 + 96)) 9 n
def MV (σ : St) (o q c od on : Nat) (rs md nm : Nat → Nat) : Prop := σ.1 93 o = nI c ∧ σ.1 93 (o + 1) = nI od ∧ (∀ k, k < c → σ.1 93 (o + (4 + 3 * k)) = nI (rs k)) ∧ (∀ k, k < c → σ.1 93 (o + (5 + 3 * k)) = nI (md k)) ∧ (∀ k, k < c → σ.1 93 (o + (6 + 3 * k)) = nI (if on.testBit k then 1 else 0)) ∧ ∀ k, k < c → σ.2 94 (q + k) = lN (g8 (nm k))
theorem ix00 : ix 0 2060 = true := by decide
theorem tn00 : tn 0 = 0 := rfl
theorem rowOf_n (k : Nat) : Mo_rowOf (nI k) = some (nI (4 + 3 * k)) := by
  unfold Mo_rowOf
  rw [show (4 : Int32) = nI 4 from rfl, show (3 : Int32) = nI 3 from rfl, pk_mul, nI_add]
section MOD
variable {σ : St} {q c od on : Nat} {rs md nm : Nat → Nat}
theorem MV.c0 (h : MV σ 0 q c od on rs md nm) : σ.1 93 0 = nI c := h.1
theorem MV.r0 (h : MV σ 0 q c od on rs md nm) {k : Nat} (hk : k < c) : σ.1 93 (4 + 3 * k) = nI (rs k) := by have := h.2.2.1 k hk; rwa [Nat.zero_add] at this
theorem MV.m0 (h : MV σ 0 q c od on rs md nm) {k : Nat} (hk : k < c) : σ.1 93 (5 + 3 * k) = nI (md k) := by have := h.2.2.2.1 k hk; rwa [Nat.zero_add] at this
theorem MV.o0 (h : MV σ 0 q c od on rs md nm) {k : Nat} (hk : k < c) : σ.1 93 (6 + 3 * k) = nI (if on.testBit k then 1 else 0) := by have := h.2.2.2.2.1 k hk; rwa [Nat.zero_add] at this
theorem isClass_g (h : MV σ 0 q c od on rs md nm) (hc : c < 2147483648) (x : Int32) : Mo_isClass σ x = some (if ix x c = true then 1 else 0) := by
  unfold Mo_isClass
  rw [ix00, chk_true, tn00, h.c0]
  by_cases hx : ix x c = true
  · obtain ⟨k, hk, rfl, hk2⟩ := ix_ex hx
    rw [if_pos hx, if_neg (nI_pos hk2), if_neg (by rw [le_nI hc hk2]; omega)]
  · rw [if_neg hx]
    rcases ix_f hx hc with q | q
    · rw [if_pos q]
    · by_cases q0 : x < 0
      · rw [if_pos q0]
      · rw [if_neg q0, if_pos q]
theorem restOf_n (h : MV σ 0 q c od on rs md nm) (w : WF c od on rs md nm) {k : Nat} (hk : k < c) : Mo_restOf σ (nI k) = some (nI (rs k)) := by
  unfold Mo_restOf
  have hc := w.1
  rw [rowOf_n, bd_s, ix_nI (by omega) (by omega), chk_true, tn_nI (by omega), h.r0 hk]
theorem modulusOf_n (h : MV σ 0 q c od on rs md nm) (w : WF c od on rs md nm) {k : Nat} (hk : k < c) : Mo_modulusOf σ (nI k) = some (nI (md k)) := by
  unfold Mo_modulusOf
  have hc := w.1
  rw [rowOf_n, bd_s, nI_1, ix_nI (by omega) (by omega), chk_true, tn_nI (by omega), show 4 + 3 * k + 1 = 5 + 3 * k by omega, h.m0 hk]
theorem isOnM_n (h : MV σ 0 q c od on rs md nm) (w : WF c od on rs md nm) {k : Nat} (hk : k < c) : Mo_isOn σ (nI k) = some (if on.testBit k then 1 else 0) := by
  unfold Mo_isOn
  have hc := w.1
  rw [rowOf_n, bd_s, show nI (4 + 3 * k) + 2 = nI (6 + 3 * k) by rw [show (2 : Int32) = nI 2 from rfl, nI_add, show 4 + 3 * k + 2 = 6 + 3 * k by omega], ix_nI (by omega) (by omega), chk_true, tn_nI (by omega), h.o0 hk]
  by_cases hb : on.testBit k = true
  · rw [if_pos hb, if_pos (show nI 1 = 1 from rfl), if_pos hb]
  · rw [if_neg hb, if_neg (by decide), if_neg hb]
theorem or0 (x : Int32) : x ||| 0 = x := by simp
theorem onSet_n (h : MV σ 0 q c od on rs md nm) (w : WF c od on rs md nm) : Mo_onSet σ = some (nI on) := by
  unfold Mo_onSet
  have hc := w.1
  have key := iter_for (body := fun s : (Int32 × Int32) => Mo_onSet_L4 σ s.1 s.2) (fun k => (nI (bset (fun k => on.testBit k) k), nI k)) (lo := 0) (hi := c) (n := FUEL) (e := nI on) (Nat.zero_le _) (fuel (by omega)) ?_ ?_
  · exact congrArg (fun o => bd o (fun v => some v)) key
  · intro k _ hk
    show Mo_onSet_L4 σ (nI (bset (fun k => on.testBit k) k)) (nI k) = some (.inl (nI (bset (fun k => on.testBit k) (k + 1)), nI (k + 1)))
    unfold Mo_onSet_L4
    rw [ix00, chk_true, tn00, h.c0, if_neg (by rw [le_nI (by omega) (by omega)]; omega), isOnM_n h w hk, bd_s, bset_succ]
    by_cases hb : on.testBit k = true
    · rw [if_pos hb, if_neg (by decide), bnd_x, bnd_x, shl1 (by omega), or_nI, bset_or, nI_1, if_pos hb]
    · rw [if_neg hb, if_pos rfl, bnd_x, bnd_x, or0, nI_1, if_neg hb]
  · show Mo_onSet_L4 σ (nI (bset (fun k => on.testBit k) c)) (nI c) = _
    unfold Mo_onSet_L4
    rw [ix00, chk_true, tn00, h.c0, if_pos (by rw [le_nI (by omega) (by omega)]; exact Nat.le_refl _), bset_self w.2.2.1]
theorem catchersM_n (h : MV σ 0 q c od on rs md nm) (w : WF c od on rs md nm) {n : Nat} (hn : n < 2147483648) : Mo_catchers σ (nI n) = some (nI (cset c on rs md n)) := by
  unfold Mo_catchers
  have hc := w.1
  have key := iter_for (body := fun s : (Int32 × Int32) => Mo_catchers_L4 (nI n) σ s.1 s.2) (fun k => (nI (bset (fun k => on.testBit k && decide (n % md k = rs k)) k), nI k)) (lo := 0) (hi := c) (n := FUEL) (e := nI (cset c on rs md n)) (Nat.zero_le _) (fuel (by omega)) ?_ ?_
  · exact congrArg (fun o => bd o (fun v => some v)) key
  · intro k _ hk
    show Mo_catchers_L4 (nI n) σ (nI (bset (fun k => on.testBit k && decide (n % md k = rs k)) k)) (nI k) = some (.inl (nI (bset (fun k => on.testBit k && decide (n % md k = rs k)) (k + 1)), nI (k + 1)))
    unfold Mo_catchers_L4
    obtain ⟨m1, m2, m3⟩ := w.2.2.2.1 k hk
    have hm : n % md k < md k := Nat.mod_lt _ (by omega)
    rw [ix00, chk_true, tn00, h.c0, if_neg (by rw [le_nI (by omega) (by omega)]; omega), isOnM_n h w hk, bd_s, bset_succ]
    by_cases hb : on.testBit k = true
    · rw [if_pos hb, if_neg (by decide), modulusOf_n h w hk, bd_s, nz_nI (by omega) (by omega), chk_true, restOf_n h w hk, bd_s, rem_nI hn (by omega) (by omega)]
      by_cases hq : n % md k = rs k
      · rw [if_pos (by rw [hq]), bnd_x, bnd_x, shl1 (by omega), or_nI, bset_or, nI_1, if_pos (by simp [hb, hq])]
      · rw [if_neg (by rw [eq_nI (by omega) (by omega)]; exact hq), bnd_x, bnd_x, or0, nI_1, if_neg (by simp [hq])]
    · rw [if_neg hb, if_pos rfl, bnd_x, bnd_x, or0, nI_1, if_neg (by simp [hb])]
  · show Mo_catchers_L4 (nI n) σ (nI (bset (fun k => on.testBit k && decide (n % md k = rs k)) c)) (nI c) = _
    unfold Mo_catchers_L4
    rw [ix00, chk_true, tn00, h.c0, if_pos (by rw [le_nI (by omega) (by omega)]; exact Nat.le_refl _)]
    rfl
end MOD
/-! the span -/
def spn (md : Nat → Nat) (s : Nat) : Nat → Nat
  | 0 => 1
  | k + 1 => if spn md s k = 0 then 0 else if s.testBit k then (if Nat.lcm (spn md s k) (md k) ≤ 5040 then Nat.lcm (spn md s k) (md k) else 0) else spn md s k
theorem spn_succ (md : Nat → Nat) (s k : Nat) : spn md s (k + 1) = if spn md s k = 0 then 0 else if s.testBit k then (if Nat.lcm (spn md s k) (md k) ≤ 5040 then Nat.lcm (spn md s k) (md k) else 0) else spn md s k := rfl
theorem spn_le (md : Nat → Nat) (s : Nat) : ∀ k, spn md s k ≤ 5040
  | 0 => by show 1 ≤ 5040; omega
  | k + 1 => by
    have := spn_le md s k
    rw [spn_succ]
    split
    · omega
    · split
      · split <;> omega
      · exact this
theorem spn_zero {md : Nat → Nat} {s j : Nat} (h : spn md s j = 0) : ∀ i, spn md s (j + i) = 0
  | 0 => h
  | i + 1 => by rw [← Nat.add_assoc, spn_succ, if_pos (spn_zero h i)]
theorem lcm_div {a b : Nat} (ha : 0 < a) : a * (b / Nat.gcd a b) = Nat.lcm a b := by
  rw [Nat.lcm, Nat.mul_div_assoc _ (Nat.gcd_dvd_right a b)]
theorem lcm_div' {a b : Nat} : a / Nat.gcd a b * b = Nat.lcm a b := by
  rw [Nat.lcm, Nat.mul_comm a b, Nat.mul_div_assoc _ (Nat.gcd_dvd_left a b), Nat.mul_comm]
theorem lcm_big {a b : Nat} (ha : a ≤ 5040) (hb : b ≤ 60) : Nat.lcm a b ≤ 302400 := by
  have h : Nat.lcm a b ≤ a * b := by rw [Nat.lcm]; exact Nat.div_le_self _ _
  have : a * b ≤ 5040 * 60 := Nat.mul_le_mul ha hb
  omega
section SPN
variable {σ : St} {a q c od on : Nat} {rs md nm : Nat → Nat}
theorem spanOf_n (h : CV σ a c od on rs md nm) (w : WF c od on rs md nm) {s : Nat} (hs : s < 2147483648) : Cl_spanOf σ a (nI s) = some (nI (spn md s c)) := by
  unfold Cl_spanOf
  have hc := w.1
  obtain ⟨p, hp⟩ : ∃ p : Nat → Bool, p = fun k => decide (spn md s k = 0) := ⟨_, rfl⟩
  have hle := fa_first_le p c
  have hno := fa_first_no p c
  have hyes := fa_first_yes p c
  generalize fa_first p c = t at hle hno hyes
  have ht0 : t < c → spn md s t = 0 := fun q => by have := hyes q; rw [hp] at this; exact of_decide_eq_true this
  have hnz : ∀ k, k < t → ¬ spn md s k = 0 := fun k hk => by have := hno k hk; rw [hp] at this; exact of_decide_eq_false this
  have hfin : spn md s t = spn md s c := by
    rcases Nat.lt_or_ge t c with q | q
    · have := spn_zero (ht0 q) (c - t)
      rw [show t + (c - t) = c by omega] at this
      rw [this, ht0 q]
    · rw [show t = c by omega]
  have key := iter_for (body := fun s9 : (Int32 × Int32) => Cl_spanOf_L4 a (nI s) σ s9.1 s9.2) (fun k => (nI (spn md s k), nI k)) (lo := 0) (hi := t) (n := FUEL) (e := nI (spn md s c)) (Nat.zero_le _) (fuel (by omega)) ?_ ?_
  · exact congrArg (fun o => bd o (fun v => some v)) key
  · intro k _ hk
    show Cl_spanOf_L4 a (nI s) σ (nI (spn md s k)) (nI k) = some (.inl (nI (spn md s (k + 1)), nI (k + 1)))
    unfold Cl_spanOf_L4
    have hkc : k < c := by omega
    obtain ⟨m1, m2, m3⟩ := w.2.2.2.1 k hkc
    have hsp := spn_le md s k
    have h0 := hnz k hk
    rw [h.1, if_neg (by rw [le_nI (by omega) (by omega)]; omega), show (0 : Int32) = nI 0 from rfl, if_neg (by rw [eq_nI (by omega) (by omega)]; exact h0), isIn_n hs (by omega), bd_s, spn_succ, if_neg h0]
    by_cases hb : s.testBit k = true
    · have hg0 : 0 < Nat.gcd (spn md s k) (md k) := Nat.gcd_pos_of_pos_right _ (by omega)
      have hg1 : Nat.gcd (spn md s k) (md k) ≤ md k := Nat.gcd_le_right _ (by omega)
      have hbig := lcm_big hsp m2
      rw [if_pos hb, if_neg (by decide), ix_nI (by omega) (by omega), chk_true, chk_true, tn_nI (by omega), h.2.2.2.2.1 k hkc, gcdI_n (by omega) (by omega), bd_s, lN_i, partBy_n hg0 (by omega) (by omega), bd_s, pk_mul, lcm_div (by omega), bnd_x, show (5040 : Int32) = nI 5040 from rfl, if_pos hb]
      by_cases hl : Nat.lcm (spn md s k) (md k) ≤ 5040
      · rw [if_pos (by rw [le_nI (by omega) (by omega)]; exact hl), bnd_x, nI_1, if_pos hl]
      · rw [if_neg (by rw [le_nI (by omega) (by omega)]; exact hl), bnd_x, nI_1, if_neg hl]
    · rw [if_neg hb, if_pos rfl, bnd_x, nI_1, if_neg hb]
  · show Cl_spanOf_L4 a (nI s) σ (nI (spn md s t)) (nI t) = _
    unfold Cl_spanOf_L4
    have hsp := spn_le md s t
    rw [h.1]
    rcases Nat.lt_or_ge t c with q | q
    · rw [if_neg (by rw [le_nI (by omega) (by omega)]; omega), ht0 q, show (0 : Int32) = nI 0 from rfl, if_pos rfl, ← hfin, ht0 q]
    · rw [if_pos (by rw [le_nI (by omega) (by omega)]; omega), hfin]
end SPN
