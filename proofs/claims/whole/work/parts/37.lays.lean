section LAY2
variable {σ : St} {c od on : Nat} {rs md nm : Nat → Nat}
/-- what Mo_lays leaves: the span, and for each number of it the set that catches it -/
theorem lays_n (h : MV σ 0 0 c od on rs md nm) (w : WF c od on rs md nm) {s : Nat} (hs : s < 4096) (h0 : ¬ spn md s c = 0) : ∃ σ', Mo_lays σ (nI s) = some (1, σ') ∧ σ'.1 92 23 = nI (spn md s c) ∧ ∀ y, y < spn md s c → σ'.1 101 y = nI (hb s rs md y c) := by
  have hc := w.1
  have hS := spn_le md s c
  obtain ⟨S, hSe⟩ : ∃ S, S = spn md s c := ⟨_, rfl⟩
  have hsp := spanM_n h w (s := s) (by omega)
  rw [if_neg h0] at hsp
  rw [← hSe] at hS hsp h0 ⊢
  have hv0 : MV (wI σ 92 23 (nI S)) 0 0 c od on rs md nm := h.keep (fun b j q1 q2 => (Fp.wI (A := fun a i => a = 92) Fp.rf rfl) b j (by omega))
  obtain ⟨τ, a1, a2, a3⟩ := iter_cnt (body := fun u : (Int32 × St) => Mo_lays_L11 (nI s) u.2 u.1) (fun k u => u.1 = nI k ∧ MV u.2 0 0 c od on rs md nm ∧ u.2.1 92 23 = nI S ∧ ∀ j, j < k → u.2.1 101 j = nI 0) (fun e => MV e 0 0 c od on rs md nm ∧ e.1 92 23 = nI S ∧ ∀ j, j < S → e.1 101 j = nI 0) (lo := 0) (hi := S) (n := FUEL) (Nat.zero_le _) (fuel (by omega)) (by
    rintro k ⟨x, u⟩ _ hk ⟨rfl, hv, g1, g2⟩
    refine ⟨(nI (k + 1), wI u 101 k (nI 0)), ?_, rfl, hv.h _ _, (wI_ne (by omega)).trans g1, fun j hj => ?_⟩
    · show Mo_lays_L11 (nI s) u (nI k) = _
      unfold Mo_lays_L11
      rw [show u.1 92 23 = nI S from g1, if_neg (by rw [le_nI (by omega) (by omega)]; omega), ix_nI (by omega) (by omega), chk_true, tn_nI (by omega), bnd_x, bnd_x, nI_1]
      rfl
    · by_cases e : j = k
      · rw [e, wI_s]
      · rw [wI_ne (by omega)]; exact g2 j (by omega)) (by
    rintro ⟨x, u⟩ ⟨rfl, hv, g1, g2⟩
    refine ⟨u, ?_, hv, g1, g2⟩
    show Mo_lays_L11 (nI s) u (nI S) = _
    unfold Mo_lays_L11
    rw [show u.1 92 23 = nI S from g1, if_pos (by rw [le_nI (by omega) (by omega)]; omega)]) (s := (0, wI σ 92 23 (nI S))) ⟨rfl, hv0, wI_s, fun j hj => by omega⟩
  obtain ⟨υ, b1, b2, b3⟩ := iter_cnt (body := fun u : (Int32 × St) => Mo_lays_L34 (nI s) u.2 u.1) (fun k u => u.1 = nI k ∧ MV u.2 0 0 c od on rs md nm ∧ Lq S k (fun y => hb s rs md y k) u.2) (fun e => MV e 0 0 c od on rs md nm ∧ Lq S c (fun y => hb s rs md y c) e) (lo := 0) (hi := c) (n := FUEL) (Nat.zero_le _) (fuel (by omega)) (by
    rintro k ⟨x, u⟩ _ hk ⟨rfl, hv, g⟩
    have hbody : ∀ {υ : St}, iter (fun u : (Int32 × St) => Mo_lays_L58 (nI s) (nI k) u.2 u.1) FUEL (nI (rs k), u) = some υ → Mo_lays_L34 (nI s) u (nI k) = some (.inl (nI (k + 1), υ)) := fun e => by
      unfold Mo_lays_L34
      rw [ix00, chk_true, tn00, hv.c0, if_neg (by rw [le_nI (by omega) (by omega)]; omega), show u.1 92 23 = nI S from g.1, if_neg (nI_m1 (by omega)), restOf_n hv w hk, bd_s, e, bd_s, bnd_x, nI_1]
    by_cases hbit : s.testBit k = true
    · obtain ⟨υ, c1, c2, c3⟩ := lay1_n w hk hs hS hbit hv g
      exact ⟨(nI (k + 1), υ), hbody c1, rfl, c2, c3⟩
    · refine ⟨(nI (k + 1), u), hbody ?_, rfl, hv, g.1, fun y hy => ?_⟩
      · refine iter_for (body := fun u : (Int32 × St) => Mo_lays_L58 (nI s) (nI k) u.2 u.1) (fun _ => (nI (rs k), u)) (lo := 0) (hi := 0) (n := FUEL) (Nat.le_refl _) (fuel (by omega)) (fun k _ q => by omega) ?_
        show Mo_lays_L58 (nI s) (nI k) u (nI (rs k)) = _
        unfold Mo_lays_L58
        rw [isInM_b (by omega) (by omega), if_neg hbit, bd_s, if_pos rfl]
        by_cases z : u.1 92 23 ≤ nI (rs k)
        · rw [if_pos z]
        · rw [if_neg z]
      · refine (g.2 y hy).trans ?_
        show nI (hb s rs md y k) = nI (hb s rs md y (k + 1))
        rw [hb_succ, if_neg (fun e => hbit e.1)]) (by
    rintro ⟨x, u⟩ ⟨rfl, hv, g⟩
    refine ⟨u, ?_, hv, g⟩
    show Mo_lays_L34 (nI s) u (nI c) = _
    unfold Mo_lays_L34
    rw [ix00, chk_true, tn00, hv.c0, if_pos (by rw [le_nI (by omega) (by omega)]; omega)]) (s := (0, τ)) ⟨rfl, a2, a3.1, a3.2⟩
  refine ⟨υ, ?_, b3.1, b3.2⟩
  unfold Mo_lays
  rw [hsp, bd_s, bnd_x, a1, bd_s, b1, bd_s, b3.1, if_neg (nI_m1 (by omega))]
end LAY2
