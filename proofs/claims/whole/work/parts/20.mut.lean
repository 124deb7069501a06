theorem wI_s {σ : St} {a i : Nat} {v : Int32} : (wI σ a i v).1 a i = v := by
  show u2 _ _ _ _ _ _ = v
  unfold u2
  rw [if_pos rfl, if_pos rfl]
theorem wL_s {σ : St} {a i : Nat} {v : Int64} : (wL σ a i v).2 a i = v := by
  show u2 _ _ _ _ _ _ = v
  unfold u2
  rw [if_pos rfl, if_pos rfl]
theorem wI_ne {σ : St} {a i b j : Nat} {v : Int32} (h : ¬ (b = a ∧ j = i)) : (wI σ a i v).1 b j = σ.1 b j := u2_not _ _ h
theorem wL_ne {σ : St} {a i b j : Nat} {v : Int64} (h : ¬ (b = a ∧ j = i)) : (wL σ a i v).2 b j = σ.2 b j := u2_not _ _ h
def fset (f : Nat → Nat) (k v : Nat) : Nat → Nat := fun j => if j = k then v else f j
theorem fset_1 (f : Nat → Nat) (k v : Nat) : fset f k v k = v := if_pos rfl
theorem fset_2 (f : Nat → Nat) {k j : Nat} (v : Nat) (h : ¬ j = k) : fset f k v j = f j := if_neg h
section WR
variable {σ : St} {a o q c od on : Nat} {rs md nm : Nat → Nat}
theorem CV.rest (h : CV σ a c od on rs md nm) {k v : Nat} : CV (wI σ (a + 1) k (nI v)) a c od on (fset rs k v) md nm := by
  obtain ⟨a1, a2, a3, a4, a5, a6⟩ := h
  refine ⟨(wI_ne (by omega)).trans a1, (wI_ne (by omega)).trans a2, (wI_ne (by omega)).trans a3, fun j hj => ?_, fun j hj => (wI_ne (by omega)).trans (a5 j hj), a6⟩
  by_cases e : j = k
  · rw [e, wI_s, fset_1]
  · rw [fset_2 _ _ e]; exact (wI_ne (fun q => e q.2)).trans (a4 j hj)
theorem CV.mod (h : CV σ a c od on rs md nm) {k v : Nat} : CV (wI σ (a + 2) k (nI v)) a c od on rs (fset md k v) nm := by
  obtain ⟨a1, a2, a3, a4, a5, a6⟩ := h
  refine ⟨(wI_ne (by omega)).trans a1, (wI_ne (by omega)).trans a2, (wI_ne (by omega)).trans a3, fun j hj => (wI_ne (by omega)).trans (a4 j hj), fun j hj => ?_, a6⟩
  by_cases e : j = k
  · rw [e, wI_s, fset_1]
  · rw [fset_2 _ _ e]; exact (wI_ne (fun q => e q.2)).trans (a5 j hj)
theorem CV.on' (h : CV σ a c od on rs md nm) (s : Nat) : CV (wI σ a 4 (nI s)) a c od s rs md nm := by
  obtain ⟨a1, a2, a3, a4, a5, a6⟩ := h
  exact ⟨(wI_ne (by omega)).trans a1, wI_s, (wI_ne (by omega)).trans a3, fun j hj => (wI_ne (by omega)).trans (a4 j hj), fun j hj => (wI_ne (by omega)).trans (a5 j hj), a6⟩
theorem MV.rest (h : MV σ o q c od on rs md nm) {k v : Nat} : MV (wI σ 93 (o + (4 + 3 * k)) (nI v)) o q c od on (fset rs k v) md nm := by
  obtain ⟨a1, a2, a3, a4, a5, a6⟩ := h
  refine ⟨(wI_ne (by omega)).trans a1, (wI_ne (by omega)).trans a2, fun j hj => ?_, fun j hj => (wI_ne (by omega)).trans (a4 j hj), fun j hj => (wI_ne (by omega)).trans (a5 j hj), a6⟩
  by_cases e : j = k
  · rw [e, wI_s, fset_1]
  · rw [fset_2 _ _ e]; exact (wI_ne (fun q => e (by omega))).trans (a3 j hj)
theorem MV.mod (h : MV σ o q c od on rs md nm) {k v : Nat} : MV (wI σ 93 (o + (5 + 3 * k)) (nI v)) o q c od on rs (fset md k v) nm := by
  obtain ⟨a1, a2, a3, a4, a5, a6⟩ := h
  refine ⟨(wI_ne (by omega)).trans a1, (wI_ne (by omega)).trans a2, fun j hj => (wI_ne (by omega)).trans (a3 j hj), fun j hj => ?_, fun j hj => (wI_ne (by omega)).trans (a5 j hj), a6⟩
  by_cases e : j = k
  · rw [e, wI_s, fset_1]
  · rw [fset_2 _ _ e]; exact (wI_ne (fun q => e (by omega))).trans (a4 j hj)
theorem MV.on' (h : MV σ o q c od on rs md nm) {k s v : Nat} (hs : ∀ j, ¬ j = k → s.testBit j = on.testBit j) (hv : (if s.testBit k then 1 else 0) = v) : MV (wI σ 93 (o + (6 + 3 * k)) (nI v)) o q c od s rs md nm := by
  obtain ⟨a1, a2, a3, a4, a5, a6⟩ := h
  refine ⟨(wI_ne (by omega)).trans a1, (wI_ne (by omega)).trans a2, fun j hj => (wI_ne (by omega)).trans (a3 j hj), fun j hj => (wI_ne (by omega)).trans (a4 j hj), fun j hj => ?_, a6⟩
  by_cases e : j = k
  · rw [e, wI_s, hv]
  · rw [hs j e]; exact (wI_ne (fun q => e (by omega))).trans (a5 j hj)
theorem MV.rest0 (h : MV σ 0 q c od on rs md nm) {k v : Nat} : MV (wI σ 93 (4 + 3 * k) (nI v)) 0 q c od on (fset rs k v) md nm := by have := h.rest (k := k) (v := v); rwa [Nat.zero_add] at this
theorem MV.mod0 (h : MV σ 0 q c od on rs md nm) {k v : Nat} : MV (wI σ 93 (5 + 3 * k) (nI v)) 0 q c od on rs (fset md k v) nm := by have := h.mod (k := k) (v := v); rwa [Nat.zero_add] at this
theorem MV.on0 (h : MV σ 0 q c od on rs md nm) {k s v : Nat} (hs : ∀ j, ¬ j = k → s.testBit j = on.testBit j) (hv : (if s.testBit k then 1 else 0) = v) : MV (wI σ 93 (6 + 3 * k) (nI v)) 0 q c od s rs md nm := by have := h.on' (k := k) (v := v) hs hv; rwa [Nat.zero_add] at this
end WR
/-! move -/
theorem call_move {σ : St} (I : Inv σ) (p p2 : Int32) : Call (fun σ => RC_move σ p p2) (fun σ => Mo_move σ p p2) σ := by
  obtain ⟨c, od, on, rs, md, nm, hc, hm, w⟩ := I.2.2.2.2.1
  have hc12 := w.1
  by_cases hx : ix p c = true
  · obtain ⟨k, hk, rfl, hk2⟩ := ix_ex hx
    obtain ⟨m1, m2, m3⟩ := w.2.2.2.1 k hk
    have h1 := isThere_g hc.1 (by omega) (nI k)
    rw [if_pos hx] at h1
    have h2 : ∀ {σ1}, MV σ1 0 0 c od on rs md nm → Mo_isClass σ1 (nI k) = some 1 := fun F => by rw [isClass_g F (by omega), if_pos hx]
    rcases within_ex p2 (lo := 0) (hi := 59) 0 59 rfl rfl (by omega) with h | ⟨n, _, hn, rfl, h⟩
    · refine call_s (r := -1) (v := 1) I ?_ (fun σ1 F => ?_)
      · show RC_move σ (nI k) p2 = _
        unfold RC_move
        rw [h1, bd_s, if_neg (by decide), h, bd_s, if_pos rfl, RC_refuse_n, bd2_s]
      · show Mo_move σ1 (nI k) p2 = _
        unfold Mo_move
        rw [h2 (hm.w F), bd_s, if_neg (by decide), isFrom_w, h, bd_s, if_pos rfl, Mo_refuse_n, bd2_s]
    · have e1 : RC_move σ (nI k) (nI n) = some (nI (rs k), wI (wI σ (7 + 1) k (nI (n % md k))) 0 0 0) := by
        unfold RC_move
        rw [h1, bd_s, if_neg (by decide), h, bd_s, if_neg (by decide), ix_nI (by omega) (by omega), chk_true, bnd_x, chk_true, tn_nI (by omega), hc.2.2.2.2.1 k hk, leftBy_n (by omega) (by omega) (by omega), bd_s, chk_true, bnd_x, hc.2.2.2.1 k hk, RC_answer_n, bd2_s]
      have F1 := (fp_RC_move (A := Acs) (Fp.rf (σ := σ)) (by unfold Acs; omega) (by intro i; unfold Acs; omega) _ e1).2
      have hm1 := hm.ws F1
      refine call_m (v := 0) (σ2 := wI (wI (wI (wI σ (7 + 1) k (nI (n % md k))) 0 0 0) 93 (4 + 3 * k) (nI (n % md k))) 92 2 0) I e1 F1 (wI_s) (CV.st (CV.rest hc) (by omega) 0) ?_ ?_ (wI_s) (MV.st (MV.rest0 hm1) 0) ?_
      · show Mo_move _ _ _ = _
        unfold Mo_move
        rw [h2 hm1, bd_s, if_neg (by decide), isFrom_w, h, bd_s, if_neg (by decide), restOf_n hm1 w hk, bd_s, rowOf_n, bd_s, modulusOf_n hm1 w hk, bd_s, nz_nI (by omega) (by omega), chk_true, ix_nI (by omega) (by omega), chk_true, tn_nI (by omega), rem_nI (by omega) (by omega) (by omega), bnd_x, Mo_gives_n, bd2_s]
      · exact (Fp.rf.wI (by unfold Ams; omega)).wI (by unfold Ams; omega)
      · refine ⟨w.1, w.2.1, w.2.2.1, fun j hj => ?_, w.2.2.2.2⟩
        obtain ⟨b1, b2, b3⟩ := w.2.2.2.1 j hj
        refine ⟨b1, b2, ?_⟩
        by_cases e : j = k
        · rw [e, fset_1]; exact Nat.mod_lt _ (by omega)
        · rw [fset_2 _ _ e]; exact b3
  · refine call_s (r := -1) (v := 1) I ?_ (fun σ1 F => ?_)
    · show RC_move σ p p2 = _
      unfold RC_move
      rw [isThere_g hc.1 (by omega), if_neg hx, bd_s, if_pos rfl, RC_refuse_n, bd2_s]
    · show Mo_move σ1 p p2 = _
      unfold Mo_move
      rw [isClass_g (hm.w F) (by omega), if_neg hx, bd_s, if_pos rfl, Mo_refuse_n, bd2_s]
/-! turn -/
theorem xor_bit {on k j : Nat} : (on ^^^ 2 ^ k).testBit j = (on.testBit j != decide (k = j)) := by
  rw [Nat.testBit_xor, Nat.testBit_two_pow]
theorem xor_bit' {on k j : Nat} (h : ¬ j = k) : (on ^^^ 2 ^ k).testBit j = on.testBit j := by
  rw [xor_bit, decide_eq_false (fun e => h e.symm)]
  simp
theorem flip_n {σ : St} {a c od on : Nat} {rs md nm : Nat → Nat} (h : CV σ a c od on rs md nm) (w : WF c od on rs md nm) {k : Nat} (hk : k < c) : Cl_flip σ a (nI k) = some (wI σ a 4 (nI (on ^^^ 2 ^ k))) := by
  unfold Cl_flip
  have hc := w.1
  have hx : ix (nI k) c = true := by rw [ix_nI (by omega) (by omega)]
  rw [isThere_g h.1 (by omega), if_pos hx, bd_s, if_neg (by decide), h.2.1, shl1 (by omega), xor_nI, bnd_x]
theorem WF.flip {c od on : Nat} {rs md nm : Nat → Nat} (w : WF c od on rs md nm) {k : Nat} (hk : k < c) : WF c od (on ^^^ 2 ^ k) rs md nm :=
  ⟨w.1, w.2.1, Nat.xor_lt_two_pow w.2.2.1 (Nat.pow_lt_pow_right (by decide) hk), w.2.2.2⟩
theorem call_turn {σ : St} (I : Inv σ) (p : Int32) : Call (fun σ => RC_turn σ p) (fun σ => Mo_turn σ p) σ := by
  obtain ⟨c, od, on, rs, md, nm, hc, hm, w⟩ := I.2.2.2.2.1
  have hc12 := w.1
  by_cases hx : ix p c = true
  · obtain ⟨k, hk, rfl, hk2⟩ := ix_ex hx
    have h1 := isThere_g hc.1 (by omega) (nI k)
    rw [if_pos hx] at h1
    have hb : (on ^^^ 2 ^ k).testBit k = !on.testBit k := by rw [xor_bit]; simp
    have e1 : RC_turn σ (nI k) = some (nI (if (on ^^^ 2 ^ k).testBit k then 1 else 0), wI (wI σ 7 4 (nI (on ^^^ 2 ^ k))) 0 0 0) := by
      unfold RC_turn
      rw [h1, bd_s, if_neg (by decide), flip_n hc w hk, bd_s, isOn_n (hc.on' _) (w.flip hk) (by omega), bd_s]
      by_cases hq : (on ^^^ 2 ^ k).testBit k = true
      · rw [if_pos hq, if_neg (by decide), RC_answer_n, bd2_s, if_pos hq]; rfl
      · rw [if_neg hq, if_pos rfl, RC_answer_n, bd2_s, if_neg hq]; rfl
    have F1 := (fp_RC_turn (A := Acs) (Fp.rf (σ := σ)) (by unfold Acs; omega) (by unfold Acs; omega) _ e1).2
    have hm1 := hm.ws F1
    refine call_m (v := 0) (σ2 := wI (wI (wI (wI σ 7 4 (nI (on ^^^ 2 ^ k))) 0 0 0) 93 (6 + 3 * k) (nI (if (on ^^^ 2 ^ k).testBit k then 1 else 0))) 92 2 0) I e1 F1 (wI_s) (CV.st (CV.on' hc _) (by omega) 0) ?_ ?_ (wI_s) (MV.st (MV.on0 hm1 (fun j hj => xor_bit' hj) rfl) 0) (w.flip hk)
    · show Mo_turn _ _ = _
      unfold Mo_turn
      rw [isClass_g hm1 (by omega), if_pos hx, bd_s, if_neg (by decide), rowOf_n, bd_s, bd_s, show nI (4 + 3 * k) + 2 = nI (6 + 3 * k) by rw [show (2 : Int32) = nI 2 from rfl, nI_add, show 4 + 3 * k + 2 = 6 + 3 * k by omega], ix_nI (by omega) (by omega), chk_true, chk_true, tn_nI (by omega), hm1.o0 hk, show (1 : Int32) - nI (if on.testBit k then 1 else 0) = nI (if (on ^^^ 2 ^ k).testBit k then 1 else 0) by rw [hb]; cases on.testBit k <;> rfl, bnd_x, bd_s, show nI (4 + 3 * k) + 2 = nI (6 + 3 * k) by rw [show (2 : Int32) = nI 2 from rfl, nI_add, show 4 + 3 * k + 2 = 6 + 3 * k by omega], ix_nI (by omega) (by omega), chk_true, tn_nI (by omega), wI_s, Mo_gives_n, bd2_s]
    · exact (Fp.rf.wI (by unfold Ams; omega)).wI (by unfold Ams; omega)
  · refine call_s (r := -1) (v := 1) I ?_ (fun σ1 F => ?_)
    · show RC_turn σ p = _
      unfold RC_turn
      rw [isThere_g hc.1 (by omega), if_neg hx, bd_s, if_pos rfl, RC_refuse_n, bd2_s]
    · show Mo_turn σ1 p = _
      unfold Mo_turn
      rw [isClass_g (hm.w F) (by omega), if_neg hx, bd_s, if_pos rfl, Mo_refuse_n, bd2_s]
