section DLP
variable {n : Nat} {bt : Nat → Nat} {τ0 : St} {c od on : Nat} {rs md nm : Nat → Nat}
theorem dayLoop (hM : MV τ0 0 0 c od on rs md nm) (w : WF c od on rs md nm) (hn3 : n ≤ 300) : ∀ (d k : Nat) (σ τ : St) (y F1 F2 m st dp : Nat) (stk kd te sg wh nu pa : Nat → Nat), nT bt n - k ≤ d → PK τ0 σ τ bt n k → CV σ 7 c od on rs md nm → DQ σ τ m st dp stk kd te sg wh nu pa → y ≤ k → d + 2 ≤ F1 → d + 2 ≤ F2 → (∃ σ' τ', iter (fun s : (Int32 × Int32 × St) => DT_take_L9 7 22 s.2.2 s.1 s.2.1) F1 (tp dp stk, nI y, σ) = some (1, wI σ' 22 8 1) ∧ iter (fun s : (Int32 × St) => Mo_days_L38 s.2 s.1) F2 (1, τ) = some τ' ∧ (∃ k', PK τ0 σ' τ' bt n k') ∧ ∃ (m st : Nat) (stk kd te sg wh nu pa : Nat → Nat), DQ σ' τ' m st 0 stk kd te sg wh nu pa) ∨ (∃ σ' τ' τ2, iter (fun s : (Int32 × Int32 × St) => DT_take_L9 7 22 s.2.2 s.1 s.2.1) F1 (tp dp stk, nI y, σ) = some (0, σ') ∧ iter (fun s : (Int32 × St) => Mo_days_L38 s.2 s.1) F2 (1, τ) = some τ' ∧ Mo_days_J57 τ' = Mo_days_J77 τ2 ∧ FL τ0 σ' τ2)
  | d, k, σ, τ, y, F1, F2, m, st, dp, stk, kd, te, sg, wh, nu, pa, hd, h, hC, hq, hy, hF1, hF2 => by
    obtain ⟨G1, rfl⟩ : ∃ G, F1 = G + 1 := ⟨F1 - 1, by omega⟩
    obtain ⟨G2, rfl⟩ : ∃ G, F2 = G + 1 := ⟨F2 - 1, by omega⟩
    have hnT := (nT_p (n := n) (bt := bt)).1
    have hkN := h.1.2.2.2.1
    have e300 : ¬ (300 : Int32) < nI y := by rw [show (300 : Int32) = nI 300 from rfl, lt_nI (by omega) (by omega)]; omega
    by_cases z : kC bt n (ts bt n k) = 0
    · have s2 : iter (fun s : (Int32 × St) => Mo_days_L38 s.2 s.1) (G2 + 1) (1, τ) = some τ := by
        refine iter_exit ?_
        show Mo_days_L38 τ 1 = _
        unfold Mo_days_L38
        rw [if_neg (by decide), if_pos (h.2.1.r.1.mpr z)]
      have hb : DT_take_L9 7 22 σ (tp dp stk) (nI y) = DT_take_J56_9 σ 22 (tp dp stk) := by
        unfold DT_take_L9
        rw [if_neg e300, token_n h.1, bd_s, z, if_pos (by rfl)]
      by_cases d0 : dp = 0
      · left
        refine ⟨σ, τ, ?_, s2, ⟨k, h⟩, m, st, stk, kd, te, sg, wh, nu, pa, by rw [← d0]; exact hq⟩
        refine iter_exit ?_
        show DT_take_L9 7 22 σ (tp dp stk) (nI y) = _
        rw [hb]
        unfold DT_take_J56_9
        rw [if_pos (show tp dp stk = -1 by unfold tp; rw [if_pos d0]), bnd_x]
      · right
        obtain ⟨σ', τ', e1, e2, e3⟩ := blame_n h (p := 2) (by omega) (by omega)
        refine ⟨σ', τ, τ', ?_, s2, ?_, e3⟩
        · refine iter_exit ?_
          show DT_take_L9 7 22 σ (tp dp stk) (nI y) = _
          have hs := (hq.2.2.2.2.2.2.2.2.2.2.2.2.1 (dp - 1) (by omega)).1
          have h60 : m + dp ≤ 2 * st := hq.2.2.2.2.2.1
          have h30 : st ≤ 30 := hq.2.2.2.2.2.2.1
          rw [hb]
          unfold DT_take_J56_9
          rw [if_neg (show ¬ tp dp stk = -1 by unfold tp; rw [if_neg d0]; exact nI_m1 (by omega)), show (2 : Int32) = nI 2 from rfl, e1, bd2_s, kz0, chk_true]
        · have h3 : dp ≤ 3 := hq.2.2.2.2.2.2.2.1
          unfold Mo_days_J57
          rw [if_pos h.2.2.1, hq.2.2.2.1, if_neg (show ¬ nI dp ≤ 0 by rw [show (0 : Int32) = nI 0 from rfl, le_nI (by omega) (by omega)]; omega), show (2 : Int32) = nI 2 from rfl, e2, bd2_s]
    · have hlt := h.1.go z
      have hb : DT_take_L9 7 22 σ (tp dp stk) (nI y) = bd2 (DT_takeOne σ 7 22 (tp dp stk)) (fun r14 s15 => if r14 = 0 then (some (.inr (0, s15))) else (bd2 (DT_innermostBehind s15 22 (nI (kC bt n (ts bt n k))) (tp dp stk)) (fun r17 s18 => some (.inl (r17, nI (y + 1), s18))))) := by
        unfold DT_take_L9
        rw [if_neg e300, token_n h.1, bd_s, if_neg (show ¬ nI (kC bt n (ts bt n k)) = 0 by
          have hkl := (kC_lt bt n (ts bt n k)).1
          rw [show (0 : Int32) = nI 0 from rfl, eq_nI (by omega) (by omega)]; exact z), bd_s, nI_1]
        rfl
      have m0 : Mo_days_L38 τ 1 = bd2 (Mo_dayStep τ) (fun r s => some (.inl (r, s))) := by
        unfold Mo_days_L38
        rw [if_neg (by decide), if_neg (fun q => z (h.2.1.r.1.mp q))]
      rcases one_x h z hC hM w hq with ⟨σ1, τ1, e1, e2, x', σ4, k', m', st', dp', stk', kd', te', sg', wh', nu', pa', p1, p2, p3, p4, p5, p6⟩ | ⟨σ1, τ1, e1, e2, e3⟩
      · have s1 : iter (fun s : (Int32 × Int32 × St) => DT_take_L9 7 22 s.2.2 s.1 s.2.1) (G1 + 1) (tp dp stk, nI y, σ) = iter (fun s : (Int32 × Int32 × St) => DT_take_L9 7 22 s.2.2 s.1 s.2.1) G1 (tp dp' stk', nI (y + 1), σ4) := by
          refine iter_step ?_
          show DT_take_L9 7 22 σ (tp dp stk) (nI y) = _
          rw [hb, e1, bd2_s, if_neg (by decide), p1, bd2_s, p5]
        have s2 : iter (fun s : (Int32 × St) => Mo_days_L38 s.2 s.1) (G2 + 1) (1, τ) = iter (fun s : (Int32 × St) => Mo_days_L38 s.2 s.1) G2 (1, τ1) := by
          refine iter_step ?_
          show Mo_days_L38 τ 1 = _
          rw [m0, e2, bd2_s]
        rw [s1, s2]
        exact dayLoop hM w hn3 (d - 1) k' σ4 τ1 (y + 1) G1 G2 m' st' dp' stk' kd' te' sg' wh' nu' pa' (by omega) p3 p6 p4 (by omega) (by omega) (by omega)
      · right
        refine ⟨σ1, τ1, τ1, ?_, ?_, ?_, e3⟩
        · refine iter_exit ?_
          show DT_take_L9 7 22 σ (tp dp stk) (nI y) = _
          rw [hb, e1, bd2_s, if_pos rfl]
        · obtain ⟨G3, rfl⟩ : ∃ G, G2 = G + 1 := ⟨G2 - 1, by omega⟩
          have s2 : iter (fun s : (Int32 × St) => Mo_days_L38 s.2 s.1) (G3 + 1 + 1) (1, τ) = iter (fun s : (Int32 × St) => Mo_days_L38 s.2 s.1) (G3 + 1) (0, τ1) := by
            refine iter_step ?_
            show Mo_days_L38 τ 1 = _
            rw [m0, e2, bd2_s]
          rw [s2]
          refine iter_exit ?_
          show Mo_days_L38 τ1 0 = _
          unfold Mo_days_L38
          rw [if_pos rfl]
        · obtain ⟨e, f1, f2, f3, f4, f5⟩ := e3
          unfold Mo_days_J57
          rw [if_neg (show ¬ τ1.1 92 18 = 0 by rw [f4, show (0 : Int32) = nI 0 from rfl, eq_nI (by omega) (by omega)]; omega)]
  termination_by d => d
  decreasing_by omega
end DLP
