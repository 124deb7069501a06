/-! what the reference lays out -/
def hb (s : Nat) (rs md : Nat → Nat) (x k : Nat) : Nat := bset (fun j => s.testBit j && decide (x % md j = rs j)) k
theorem hb_succ (s : Nat) (rs md : Nat → Nat) (x k : Nat) : hb s rs md x (k + 1) = if s.testBit k = true ∧ x % md k = rs k then hb s rs md x k ||| 2 ^ k else hb s rs md x k := by
  unfold hb
  rw [bset_succ]
  by_cases h : s.testBit k = true ∧ x % md k = rs k
  · rw [if_pos h, if_pos (by simp [h.1, h.2]), bset_or]
  · rw [if_neg h, if_neg (by simpa using h)]
theorem mod_gap {m x y : Nat} (h : y % m = x % m) (h1 : x < y) (h2 : y < x + m) : False := by
  have := Nat.sub_mod_eq_zero_of_mod_eq h
  rw [Nat.mod_eq_of_lt (by omega)] at this
  omega
section LAY
variable {σ : St} {c od on : Nat} {rs md nm : Nat → Nat}
def Lq (S k : Nat) (f : Nat → Nat) (τ : St) : Prop := τ.1 92 23 = nI S ∧ ∀ y, y < S → τ.1 101 y = nI (f y)
theorem MV.h {τ : St} (h : MV τ 0 0 c od on rs md nm) (i : Nat) (v : Int32) : MV (wI τ 101 i v) 0 0 c od on rs md nm := h.keep (fun b j q1 q2 => (Fp.wI (A := fun a i => a = 101) Fp.rf rfl) b j (by omega))
theorem lay1_n {s S k : Nat} (w : WF c od on rs md nm) (hk : k < c) (hs : s < 4096) (hS : S ≤ 5040) (hbit : s.testBit k = true) {τ : St} (h : MV τ 0 0 c od on rs md nm) (hq : Lq S k (fun y => hb s rs md y k) τ) : ∃ υ, iter (fun u : (Int32 × St) => Mo_lays_L58 (nI s) (nI k) u.2 u.1) FUEL (nI (rs k), τ) = some υ ∧ MV υ 0 0 c od on rs md nm ∧ Lq S (k + 1) (fun y => hb s rs md y (k + 1)) υ := by
  obtain ⟨m1, m2, m3⟩ := w.2.2.2.1 k hk
  have hc := w.1
  have hl : ∀ y, hb s rs md y k < 4096 := fun y => bset_4 _ (by omega)
  refine iter_inv (body := fun u : (Int32 × St) => Mo_lays_L58 (nI s) (nI k) u.2 u.1) (fun u => ∃ x, u.1 = nI x ∧ x ≤ S + 60 ∧ x % md k = rs k ∧ MV u.2 0 0 c od on rs md nm ∧ Lq S k (fun y => if y % md k = rs k ∧ y < x then hb s rs md y k ||| 2 ^ k else hb s rs md y k) u.2) (fun υ => MV υ 0 0 c od on rs md nm ∧ Lq S (k + 1) (fun y => hb s rs md y (k + 1)) υ) (fun u => S + 100 - tn u.1) ?_ FUEL (nI (rs k), τ) ⟨rs k, rfl, by omega, Nat.mod_eq_of_lt m3, h, hq.1, fun y hy => ?_⟩ (fuel (by omega))
  · rintro ⟨x', τ⟩ ⟨x, rfl, hx, hxm, hv, g1, g2'⟩
    have g2 : ∀ y, y < S → τ.1 101 y = nI (if y % md k = rs k ∧ y < x then hb s rs md y k ||| 2 ^ k else hb s rs md y k) := g2'
    by_cases q : x < S
    · left
      refine ⟨(nI (x + md k), wI τ 101 x (nI (hb s rs md x k ||| 2 ^ k))), ?_, ⟨x + md k, rfl, by omega, by rw [Nat.add_mod_right]; exact hxm, hv.h _ _, ?_, fun y hy => ?_⟩, ?_⟩
      · show Mo_lays_L58 (nI s) (nI k) τ (nI x) = _
        unfold Mo_lays_L58
        have gx := g2 x q
        rw [if_neg (show ¬ (x % md k = rs k ∧ x < x) by omega)] at gx
        rw [show τ.1 92 23 = nI S from g1, if_neg (by rw [le_nI (by omega) (by omega)]; omega), isInM_b (by omega) (by omega), if_pos hbit, bd_s, if_neg (by decide), ix_nI (by omega) (by omega), chk_true, chk_true, tn_nI (by omega), gx, shl1 (by omega), or_nI, bnd_x, modulusOf_n (hv.h _ _) w hk, bd_s, nI_add, bnd_x]
      · exact (wI_ne (by omega)).trans g1
      · show (wI τ 101 x (nI (hb s rs md x k ||| 2 ^ k))).1 101 y = nI (if y % md k = rs k ∧ y < x + md k then hb s rs md y k ||| 2 ^ k else hb s rs md y k)
        by_cases e : y = x
        · rw [e, wI_s, if_pos (show x % md k = rs k ∧ x < x + md k from ⟨hxm, by omega⟩)]
        · rw [wI_ne (by omega)]
          refine (g2 y hy).trans ?_
          by_cases z : y % md k = rs k ∧ y < x
          · rw [if_pos z, if_pos ⟨z.1, by omega⟩]
          · rw [if_neg z, if_neg (fun z2 => z ⟨z2.1, ?_⟩)]
            apply Nat.lt_of_not_le
            intro z3
            exact mod_gap (m := md k) (x := x) (y := y) (by rw [z2.1, hxm]) (by omega) z2.2
      · show S + 100 - tn (nI (x + md k)) < S + 100 - tn (nI x)
        rw [tn_nI (by omega), tn_nI (by omega)]
        omega
    · right
      refine ⟨τ, ?_, hv, g1, fun y hy => ?_⟩
      · show Mo_lays_L58 (nI s) (nI k) τ (nI x) = _
        unfold Mo_lays_L58
        rw [show τ.1 92 23 = nI S from g1, if_pos (by rw [le_nI (by omega) (by omega)]; omega)]
      · refine (g2 y hy).trans ?_
        show nI (if y % md k = rs k ∧ y < x then hb s rs md y k ||| 2 ^ k else hb s rs md y k) = nI (hb s rs md y (k + 1))
        rw [hb_succ]
        by_cases z : y % md k = rs k
        · rw [if_pos ⟨z, by omega⟩, if_pos ⟨hbit, z⟩]
        · rw [if_neg (fun e => z e.1), if_neg (fun e => z e.2)]
  · refine (hq.2 y hy).trans ?_
    show nI (hb s rs md y k) = nI (if y % md k = rs k ∧ y < rs k then hb s rs md y k ||| 2 ^ k else hb s rs md y k)
    rw [if_neg]
    rintro ⟨z1, z2⟩
    have := Nat.mod_le y (md k)
    omega
end LAY
