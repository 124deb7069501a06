theorem Wt_off {τ : St} {o b i : Nat} (h : ¬ (b = 93 ∧ (i = 4 + 3 * o ∨ i = 5 + 3 * o ∨ i = 6 + 3 * o))) : (Wt τ o 3).1 b i = τ.1 b i := by
  rw [Wt_s, wI_ne (by omega), Wt_s, wI_ne (by omega), Wt_s, wI_ne (by omega)]
  rfl
theorem Wt_0 {τ : St} {o : Nat} : (Wt τ o 3).1 93 (4 + 3 * o) = τ.1 93 (4 + 3 * (o + 1)) := by
  rw [Wt_s, wI_ne (by omega), Wt_s, wI_ne (by omega), Wt_s]
  exact wI_s
theorem Wt_1 {τ : St} {o : Nat} : (Wt τ o 3).1 93 (5 + 3 * o) = τ.1 93 (5 + 3 * (o + 1)) := by
  rw [Wt_s, wI_ne (by omega), Wt_s, show 5 + 3 * o = 4 + 3 * o + 1 by omega, wI_s, Wt_s, wI_ne (by omega), show 5 + 3 * (o + 1) = 4 + 3 * (o + 1) + 1 by omega]
  rfl
theorem Wt_2 {τ : St} {o : Nat} : (Wt τ o 3).1 93 (6 + 3 * o) = τ.1 93 (6 + 3 * (o + 1)) := by
  rw [Wt_s, show 6 + 3 * o = 4 + 3 * o + 2 by omega, wI_s, Wt_s, wI_ne (by omega), Wt_s, wI_ne (by omega), show 6 + 3 * (o + 1) = 4 + 3 * (o + 1) + 2 by omega]
  rfl
theorem Wt_L {τ : St} {o : Nat} : (Wt τ o 3).2 = τ.2 := rfl
theorem dr_at {f : Nat → Nat} {k o : Nat} (h : k ≤ o) : dr f k (o + 1) o = f (o + 1) := if_pos ⟨h, by omega⟩
theorem dr_ne {f : Nat → Nat} {k o j : Nat} (h : ¬ j = o) : dr f k (o + 1) j = dr f k o j := by
  unfold dr
  by_cases q : k ≤ j ∧ j < o
  · rw [if_pos ⟨q.1, by omega⟩, if_pos q]
  · rw [if_neg (by omega), if_neg q]
theorem dr_next {f : Nat → Nat} {k o : Nat} : dr f k o (o + 1) = f (o + 1) := if_neg (by omega)
theorem dr_end {f : Nat → Nat} {k c j : Nat} (hj : j < c - 1) : dr f k (c - 1) j = without f k j := by
  unfold dr without
  by_cases q : j < k
  · rw [if_neg (by omega), if_pos q]
  · rw [if_pos (by omega), if_neg q]
def bo (on : Nat) : Nat → Nat := fun j => if on.testBit j then 1 else 0
def Qd (c od : Nat) (f1 f2 f3 f4 : Nat → Nat) (τ : St) : Prop := τ.1 93 0 = nI (c - 1) ∧ τ.1 93 1 = nI od ∧ (∀ j, j < c → τ.1 93 (4 + 3 * j) = nI (f1 j)) ∧ (∀ j, j < c → τ.1 93 (5 + 3 * j) = nI (f2 j)) ∧ (∀ j, j < c → τ.1 93 (6 + 3 * j) = nI (f3 j)) ∧ ∀ j, j < c → τ.2 94 j = lN (f4 j)
theorem takesAway_n {σ : St} {c od on : Nat} {rs md nm : Nat → Nat} (h : MV σ 0 0 c od on rs md nm) (hc : c ≤ 12) (ho : on < 4096) {k : Nat} (hk : k < c) : ∃ σ', Mo_takesAway σ (nI k) = some σ' ∧ MV σ' 0 0 (c - 1) od (dropS on k) (without rs k) (without md k) (without nm k) ∧ Fp Ms σ σ' := by
  have h0 := h.c0
  have key := iter_cnt (body := fun s : (Int32 × St) => Mo_takesAway_L12 s.2 s.1) (fun o s => s.1 = nI o ∧ Qd c od (dr rs k o) (dr md k o) (dr (bo on) k o) (dr (fun j => g8 (nm j)) k o) s.2 ∧ Fp Ms σ s.2) (fun e => Qd c od (dr rs k (c - 1)) (dr md k (c - 1)) (dr (bo on) k (c - 1)) (dr (fun j => g8 (nm j)) k (c - 1)) e ∧ Fp Ms σ e) (lo := k) (hi := c - 1) (n := FUEL) (by omega) (fuel (by omega)) ?_ ?_ (s := (nI k, wI σ 93 0 (nI (c - 1)))) ?_
  · obtain ⟨e, h1, ⟨q1, q2, q3, q4, q5, q6⟩, hF⟩ := key
    refine ⟨wL e 94 (c - 1) 0, ?_, ⟨q1, q2, fun j hj => ?_, fun j hj => ?_, fun j hj => ?_, fun j hj => ?_⟩, hF.wL (by unfold Ms; omega)⟩
    · unfold Mo_takesAway
      rw [ix00, chk_true, chk_true, tn00, h0, show nI c - 1 = nI (c - 1) from sub_nI (a := c) (b := 1) (by omega), bnd_x, h1, bd_s, chk_true, q1, ix_nI (by omega) (by omega), chk_true, tn_nI (by omega), bnd_x]
    · rw [Nat.zero_add, ← dr_end hj]; exact q3 j (by omega)
    · rw [Nat.zero_add, ← dr_end hj]; exact q4 j (by omega)
    · rw [Nat.zero_add, dropS_bit ho]
      have := q5 j (by omega)
      rw [dr_end hj] at this
      refine Eq.trans this ?_
      unfold without bo
      by_cases q : j < k
      · rw [if_pos q, if_pos q]
      · rw [if_neg q, if_neg q]
    · rw [Nat.zero_add, wL_ne (by omega), q6 j (by omega), dr_end hj]
      unfold without
      by_cases q : j < k
      · rw [if_pos q, if_pos q]
      · rw [if_neg q, if_neg q]
  · rintro o ⟨x, τ⟩ ho1 ho2 ⟨rfl, ⟨q1, q2, q3, q4, q5, q6⟩, hF⟩
    refine ⟨(nI (o + 1), wL (Wt τ o 3) 94 o (τ.2 94 (o + 1))), ?_, rfl, ⟨?_, ?_, fun j hj => ?_, fun j hj => ?_, fun j hj => ?_, fun j hj => ?_⟩, ?_⟩
    · show Mo_takesAway_L12 τ (nI o) = _
      unfold Mo_takesAway_L12
      rw [ix00, chk_true, tn00, show τ.1 93 0 = nI (c - 1) from q1, if_neg (by rw [le_nI (by omega) (by omega)]; omega), inner_n (by omega), bd_s, nI_1, ix_nI (by omega) (by omega), chk_true, ix_nI (by omega) (by omega), chk_true, tn_nI (by omega), tn_nI (by omega), Wt_L, bnd_x, bnd_x]
    · exact (Wt_off (by omega)).trans q1
    · exact (Wt_off (by omega)).trans q2
    · show (Wt τ o 3).1 93 (4 + 3 * j) = _
      by_cases e : j = o
      · rw [e, Wt_0, dr_at ho1]; exact (q3 (o + 1) (by omega)).trans (by rw [dr_next])
      · rw [Wt_off (by omega), dr_ne e]; exact q3 j hj
    · show (Wt τ o 3).1 93 (5 + 3 * j) = _
      by_cases e : j = o
      · rw [e, Wt_1, dr_at ho1]; exact (q4 (o + 1) (by omega)).trans (by rw [dr_next])
      · rw [Wt_off (by omega), dr_ne e]; exact q4 j hj
    · show (Wt τ o 3).1 93 (6 + 3 * j) = _
      by_cases e : j = o
      · rw [e, Wt_2, dr_at ho1]; exact (q5 (o + 1) (by omega)).trans (by rw [dr_next])
      · rw [Wt_off (by omega), dr_ne e]; exact q5 j hj
    · by_cases e : j = o
      · rw [e, wL_s, dr_at ho1]; exact (q6 (o + 1) (by omega)).trans (by rw [dr_next])
      · rw [wL_ne (by omega), dr_ne e]; exact q6 j hj
    · refine Fp.wL (σ1 := Wt τ o 3) ?_ (by unfold Ms; omega)
      rw [Wt_s, Wt_s, Wt_s]
      exact ((hF.wI (by unfold Ms; omega)).wI (by unfold Ms; omega)).wI (by unfold Ms; omega)
  · rintro ⟨x, τ⟩ ⟨rfl, ⟨q1, q2, q3, q4, q5, q6⟩, hF⟩
    refine ⟨τ, ?_, ⟨q1, q2, q3, q4, q5, q6⟩, hF⟩
    show Mo_takesAway_L12 τ (nI (c - 1)) = _
    unfold Mo_takesAway_L12
    rw [ix00, chk_true, tn00, show τ.1 93 0 = nI (c - 1) from q1, if_pos (by rw [le_nI (by omega) (by omega)]; omega)]
  · have hz : ∀ (f : Nat → Nat) (j : Nat), dr f k k j = f j := fun f j => if_neg (by omega)
    refine ⟨rfl, ⟨wI_s, ?_, fun j hj => ?_, fun j hj => ?_, fun j hj => ?_, fun j hj => ?_⟩, Fp.rf.wI (by unfold Ms; omega)⟩
    · exact (wI_ne (by omega)).trans h.2.1
    · rw [hz]; exact (wI_ne (by omega)).trans (h.r0 hj)
    · rw [hz]; exact (wI_ne (by omega)).trans (h.m0 hj)
    · rw [hz]; exact (wI_ne (by omega)).trans (h.o0 hj)
    · rw [hz]; have := h.2.2.2.2.2 j hj; rw [Nat.zero_add] at this; exact this
theorem call_drop {σ : St} (I : Inv σ) (p : Int32) : Call (fun σ => RC_drop σ p) (fun σ => Mo_drop σ p) σ := by
  obtain ⟨c, od, on, rs, md, nm, hc, hm, w⟩ := I.2.2.2.2.1
  have hc12 := w.1
  by_cases hx : ix p c = true
  · obtain ⟨k, hk, rfl, hk2⟩ := ix_ex hx
    have h1 := isThere_g hc.1 (by omega) (nI k)
    rw [if_pos hx] at h1
    obtain ⟨τ, s1, s2⟩ := remove_n hc w hk
    have e1 : RC_drop σ (nI k) = some (nI (c - 1), wI τ 0 0 0) := by
      unfold RC_drop
      rw [h1, bd_s, if_neg (by decide), s1, bd_s, s2.1, RC_answer_n, bd2_s]
    have F1 := (fp_RC_drop (A := Acs) (Fp.rf (σ := σ)) (by intros; unfold Acs; omega) (by intros; unfold Acs; omega) (by intros; unfold Acs; omega) (by intros; unfold Acs; omega) (by intros; unfold Acs; omega) (by intros; unfold Acs; omega) _ e1).2
    have hmm := hm.ws F1
    obtain ⟨υ, t1, t2, t3⟩ := takesAway_n hmm hc12 w.on4 hk
    refine call_m (v := 0) (σ2 := wI υ 92 2 0) I e1 F1 wI_s (CV.st s2 (by omega) 0) ?_ ?_ wI_s (MV.st t2 0) (w.drop hk)
    · show Mo_drop _ _ = _
      unfold Mo_drop
      rw [isClass_g hmm (by omega), if_pos hx, bd_s, if_neg (by decide), t1, bd_s, ix00, chk_true, tn00, t2.c0, Mo_gives_n, bd2_s]
    · exact (t3.mono Ms.q).wI (by unfold Ams; omega)
  · refine call_s (r := -1) (v := 1) I ?_ (fun σ1 F => ?_)
    · show RC_drop σ p = _
      unfold RC_drop
      rw [isThere_g hc.1 (by omega), if_neg hx, bd_s, if_pos rfl, RC_refuse_n, bd2_s]
    · show Mo_drop σ1 p = _
      unfold Mo_drop
      rw [isClass_g (hm.w F) (by omega), if_neg hx, bd_s, if_pos rfl, Mo_refuse_n, bd2_s]
