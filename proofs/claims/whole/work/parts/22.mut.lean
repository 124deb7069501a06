theorem sub1 {c : Nat} : nI (c + 1) - 1 = nI c := by
  have := sub_nI (a := c + 1) (b := 1) (by omega)
  exact this
theorem WF.push {c od on on' : Nat} {rs md nm : Nat → Nat} (w : WF c od on rs md nm) (hc : c < 12) {r m l : Nat} (hr : r < m) (hm2 : m ≤ 60) (hl : l < 1099511627776) (ho : on' < 2 ^ (c + 1)) : WF (c + 1) od on' (fset rs c r) (fset md c m) (fset nm c l) := by
  refine ⟨by omega, w.2.1, ho, fun k hk => ?_, fun k hk => ?_⟩
  · by_cases e : k = c
    · rw [e, fset_1, fset_1]; omega
    · rw [fset_2 _ _ e, fset_2 _ _ e]; exact w.2.2.2.1 k (by omega)
  · by_cases e : k = c
    · rw [e, fset_1]; exact hl
    · rw [fset_2 _ _ e]; exact w.2.2.2.2 k (by omega)
theorem or_lt {c on : Nat} (h : on < 2 ^ c) : on ||| 2 ^ c < 2 ^ (c + 1) :=
  Nat.or_lt_two_pow (Nat.lt_of_lt_of_le h (Nat.pow_le_pow_right (by decide) (by omega))) (Nat.pow_lt_pow_right (by decide) (by omega))
theorem call_add {σ : St} (I : Inv σ) (p p2 : Int32) : Call (fun σ => RC_add σ p p2) (fun σ => Mo_add σ p p2) σ := by
  obtain ⟨c, od, on, rs, md, nm, hc, hm, w⟩ := I.2.2.2.2.1
  have hc12 := w.1
  rcases within_ex p (lo := 0) (hi := 59) 0 59 rfl rfl (by omega) with h | ⟨r, _, hr, rfl, h⟩
  · refine call_s (r := -1) (v := 1) I ?_ (fun σ1 F => ?_)
    · show RC_add σ p p2 = _
      unfold RC_add
      rw [h, bd_s, if_pos rfl, RC_refuse_n, bd2_s]
    · show Mo_add σ1 p p2 = _
      unfold Mo_add
      rw [isFrom_w, h, bd_s, if_pos rfl, Mo_refuse_n, bd2_s]
  · rcases within_ex p2 (lo := 1) (hi := 60) 1 60 rfl rfl (by omega) with h' | ⟨m, hm1, hm2, rfl, h'⟩
    · refine call_s (r := -1) (v := 1) I ?_ (fun σ1 F => ?_)
      · show RC_add σ (nI r) p2 = _
        unfold RC_add
        rw [h, bd_s, if_neg (by decide), h', bd_s, if_pos rfl, RC_refuse_n, bd2_s]
      · show Mo_add σ1 (nI r) p2 = _
        unfold Mo_add
        rw [isFrom_w, h, bd_s, if_neg (by decide), isFrom_w, h', bd_s, if_pos rfl, Mo_refuse_n, bd2_s]
    · by_cases hf : c = 12
      · refine call_s (r := -1) (v := 4) I ?_ (fun σ1 F => ?_)
        · show RC_add σ (nI r) (nI m) = _
          unfold RC_add
          rw [h, bd_s, if_neg (by decide), h', bd_s, if_neg (by decide), hc.1, if_neg (by rw [show (12 : Int32) = nI 12 from rfl, lt_nI (by omega) (by omega)]; omega), RC_refuse_n, bd2_s]
        · show Mo_add σ1 (nI r) (nI m) = _
          unfold Mo_add
          rw [isFrom_w, h, bd_s, if_neg (by decide), isFrom_w, h', bd_s, if_neg (by decide), ix00, chk_true, tn00, (hm.w F).c0, if_pos (by rw [hf]; rfl), Mo_refuse_n, bd2_s]
      · obtain ⟨τ, s1, s2⟩ := append_on hc w (by omega) (r := r) (m := m) (l := 0) (by omega) hm1 hm2
        have s1' : Cl_append σ 7 (nI r) (nI m) 1 0 = some τ := s1
        have e1 : RC_add σ (nI r) (nI m) = some (nI c, wI τ 0 0 0) := by
          unfold RC_add
          rw [h, bd_s, if_neg (by decide), h', bd_s, if_neg (by decide), hc.1, if_pos (by rw [show (12 : Int32) = nI 12 from rfl, lt_nI (by omega) (by omega)]; omega), s1', bd_s, s2.1, sub1, RC_answer_n, bd2_s]
        have F1 := (fp_RC_add (A := Acs) (Fp.rf (σ := σ)) (by intros; unfold Acs; omega) (by intros; unfold Acs; omega) (by intros; unfold Acs; omega) (by intros; unfold Acs; omega) (by intros; unfold Acs; omega) (by intros; unfold Acs; omega) _ e1).2
        have hmm := hm.ws F1
        obtain ⟨υ, t1, t2, t3⟩ := puts_n hmm (by omega) (on' := on ||| 2 ^ c) (r := r % m) (m := m) (v := 1) (fun j hj => by rw [or_bit, decide_eq_false (by omega), Bool.or_false]) (by rw [or_bit, decide_eq_true rfl, Bool.or_true, if_pos rfl])
        have t1' : Mo_puts (wI τ 0 0 0) (nI (r % m)) (nI m) 1 = some υ := t1
        refine call_m (v := 0) (σ2 := wI υ 92 2 0) I e1 F1 wI_s (CV.st s2 (by omega) 0) ?_ ?_ wI_s (MV.st t2 0) (w.push (by omega) (Nat.mod_lt _ (by omega)) hm2 (by omega) (or_lt w.2.2.1))
        · show Mo_add _ _ _ = _
          unfold Mo_add
          rw [isFrom_w, h, bd_s, if_neg (by decide), isFrom_w, h', bd_s, if_neg (by decide), ix00, chk_true, tn00, hmm.c0, if_neg (by rw [show (12 : Int32) = nI 12 from rfl, eq_nI (by omega) (by omega)]; exact hf), nz_nI (by omega) (by omega), chk_true, rem_nI (by omega) (by omega) (by omega), t1', bd_s, chk_true, t2.c0, sub1, Mo_gives_n, bd2_s]
        · exact (t3.mono Ms.q).wI (by unfold Ams; omega)
