def ctn (p : Nat → Bool) : Nat → Nat
  | 0 => 0
  | k + 1 => if p k then ctn p k + 1 else ctn p k
theorem ctn_le (p : Nat → Bool) : ∀ k, ctn p k ≤ k
  | 0 => by unfold ctn; omega
  | k + 1 => by have := ctn_le p k; unfold ctn; split <;> omega
section JUS
variable {σ : St} {c od on : Nat} {rs md nm : Nat → Nat}
theorem lays_0 (h : MV σ 0 0 c od on rs md nm) (w : WF c od on rs md nm) {s : Nat} (hs : s < 4096) (h0 : spn md s c = 0) : Mo_lays σ (nI s) = some (0, wI σ 92 23 (-1)) := by
  have hc := w.1
  have hsp := spanM_n h w (s := s) (by omega)
  rw [if_pos h0] at hsp
  have hv0 : MV (wI σ 92 23 (-1)) 0 0 c od on rs md nm := h.keep (fun b j q1 q2 => (Fp.wI (A := fun a i => a = 92) Fp.rf rfl) b j (by omega))
  have a1 : iter (fun u : (Int32 × St) => Mo_lays_L11 (nI s) u.2 u.1) FUEL (0, wI σ 92 23 (-1)) = some (wI σ 92 23 (-1)) := by
    refine iter_for (body := fun u : (Int32 × St) => Mo_lays_L11 (nI s) u.2 u.1) (fun _ => (0, wI σ 92 23 (-1))) (lo := 0) (hi := 0) (n := FUEL) (Nat.le_refl _) (fuel (by omega)) (fun k _ q => by omega) ?_
    show Mo_lays_L11 (nI s) (wI σ 92 23 (-1)) 0 = _
    unfold Mo_lays_L11
    rw [wI_s, if_pos (by decide)]
  have a2 : iter (fun u : (Int32 × St) => Mo_lays_L34 (nI s) u.2 u.1) FUEL (0, wI σ 92 23 (-1)) = some (wI σ 92 23 (-1)) := by
    refine iter_for (body := fun u : (Int32 × St) => Mo_lays_L34 (nI s) u.2 u.1) (fun _ => (0, wI σ 92 23 (-1))) (lo := 0) (hi := 0) (n := FUEL) (Nat.le_refl _) (fuel (by omega)) (fun k _ q => by omega) ?_
    show Mo_lays_L34 (nI s) (wI σ 92 23 (-1)) 0 = _
    unfold Mo_lays_L34
    rw [ix00, chk_true, tn00, hv0.c0]
    by_cases z : nI c ≤ 0
    · rw [if_pos z]
    · rw [if_neg z, wI_s, if_pos rfl]
  unfold Mo_lays
  rw [hsp, bd_s, bnd_x, a1, bd_s, a2, bd_s, wI_s, if_pos rfl]
theorem justBy_n {S v : Nat} {f : Nat → Nat} (hS : S ≤ 5040) (h1 : σ.1 92 23 = nI S) (h2 : ∀ y, y < S → σ.1 101 y = nI (f y)) (hf : ∀ y, y < S → f y < 2147483648) (hv : v < 2147483648) : Mo_justBy σ (nI v) = some (nI (ctn (fun y => decide (f y = v)) S)) := by
  unfold Mo_justBy
  have key := iter_for (body := fun u : (Int32 × Int32) => Mo_justBy_L4 (nI v) σ u.1 u.2) (fun k => (nI (ctn (fun y => decide (f y = v)) k), nI k)) (lo := 0) (hi := S) (n := FUEL) (e := nI (ctn (fun y => decide (f y = v)) S)) (Nat.zero_le _) (fuel (by omega)) ?_ ?_
  · exact congrArg (fun o => bd o (fun v => some v)) key
  · intro k _ hk
    show Mo_justBy_L4 (nI v) σ (nI (ctn (fun y => decide (f y = v)) k)) (nI k) = some (.inl (nI (ctn (fun y => decide (f y = v)) (k + 1)), nI (k + 1)))
    unfold Mo_justBy_L4
    rw [h1, if_neg (by rw [le_nI (by omega) (by omega)]; omega), ix_nI (by omega) (by omega), chk_true, tn_nI (by omega), h2 k hk, show ctn (fun y => decide (f y = v)) (k + 1) = if decide (f k = v) = true then ctn (fun y => decide (f y = v)) k + 1 else ctn (fun y => decide (f y = v)) k from rfl]
    by_cases q : f k = v
    · rw [if_pos (by rw [q]), bnd_x, bnd_x, nI_1, nI_1, if_pos (decide_eq_true q)]
    · rw [if_neg (by rw [eq_nI (hf k hk) hv]; exact q), bnd_x, bnd_x, nI_1, if_neg (by simpa using q), show nI (ctn (fun y => decide (f y = v)) k) + 0 = nI (ctn (fun y => decide (f y = v)) k) from Int32.add_zero _]
  · show Mo_justBy_L4 (nI v) σ (nI (ctn (fun y => decide (f y = v)) S)) (nI S) = _
    unfold Mo_justBy_L4
    rw [h1, if_pos (by rw [le_nI (by omega) (by omega)]; omega)]
end JUS
