section CHP
variable {m r : Nat → Nat} {n mode L : Nat} {σ : St}
def CB (σ : St) (m r : Nat → Nat) (L d : Nat) : Prop := ∀ w, 64 * w < L → ∀ j, j < 64 → lb (σ.2 (40 + d) w) j = (hit m r (64 * w + j) d && decide (64 * w + j < L))
/-- the state that the class's walk through the ways keeps -/
def CS (σ : St) (m : Nat → Nat) (n mode L : Nat) : Prop := σ.1 36 3 = nI n ∧ σ.1 36 4 = nI mode ∧ σ.1 36 5 = nI L ∧ ∀ i, i < n → σ.1 37 i = nI (m i)
theorem layC {d : Nat} (hM : MO m n) (hL1 : 1 ≤ L) (hL2 : L ≤ 5040) (hmo : mode ≤ 2) (hS : CS σ m n mode L) (hd : d < n) (hr : r d < m d) (hB : CB σ m r L d) : ∃ σ', Ch_lay σ (nI d) (nI (r d)) = some ((if mode = 0 ∨ lok m r L d = true then 1 else 0), σ') ∧ Fp (fun a i => a = 41 + d) σ σ' ∧ (mode = 0 ∨ lok m r L d = true → CB σ' m r L (d + 1)) := by
  have hn := hM.1
  obtain ⟨m1, m2⟩ := hM.2.1 d hd
  obtain ⟨x, c1, c2⟩ := comb_n m1 m2
  obtain ⟨W, hW⟩ : ∃ W, W = (L + 63) / 64 := ⟨_, rfl⟩
  have hW79 : W ≤ 79 := by omega
  have hWL : ∀ w, w < W → 64 * w < L := fun w hw => by omega
  have hwords := words_n hL1 hL2
  rw [← hW] at hwords
  obtain ⟨s1, s2, s3, s4⟩ := hS
  have key := iter_ix (body := fun s : (Int32 × St) => Ch_lay_L40 (nI d) (nI (r d)) x (40 + d) (40 + (d + 1)) (nI W) s.2 s.1) (fun k u => ∃ w, k = W - w ∧ w ≤ W ∧ u.1 = nI w ∧ Fp (fun a i => a = 41 + d) σ u.2 ∧ (∀ v, v < w → ∀ j, j < 64 → lb (u.2.2 (41 + d) v) j = (hit m r (64 * v + j) (d + 1) && decide (64 * v + j < L))) ∧ (¬ mode = 0 → ∀ y, y < 64 * w → y < L → ¬ (hit m r y d = true ∧ y % m d = r d))) (fun e => e.1 = (if mode = 0 ∨ lok m r L d = true then (1 : Int32) else 0) ∧ Fp (fun a i => a = 41 + d) σ e.2 ∧ (mode = 0 ∨ lok m r L d = true → CB e.2 m r L (d + 1))) ?_ FUEL W (0, σ) ⟨0, by omega, by omega, rfl, Fp.rf, fun v hv => by omega, fun _ y hy => by omega⟩ (fuel (by omega))
  · obtain ⟨⟨v, τ⟩, b1, b2, b3, b4⟩ := key
    have b2' : v = (if mode = 0 ∨ lok m r L d = true then (1 : Int32) else 0) := b2
    refine ⟨τ, ?_, b3, b4⟩
    unfold Ch_lay
    rw [ix_nI (show d < 6 by omega) (by omega), chk_true, tn_nI (show d < 2147483648 by omega), s4 d hd, c1, bd_s, ix_nI (show d < 7 by omega) (by omega), chk_true, nI_1, ix_nI (show d + 1 < 7 by omega) (by omega), chk_true, s3, hwords, bd_s, rfs_A, tn_nI (show d + 1 < 2147483648 by omega), rfs_A, b1, b2']
  · rintro k ⟨w', u⟩ ⟨w, rfl, hw, rfl, hF, h1, h2⟩
    have hF' : Fp (fun a i => a = 41 + d) σ u := hF
    have h1' : ∀ v, v < w → ∀ j, j < 64 → lb (u.2 (41 + d) v) j = (hit m r (64 * v + j) (d + 1) && decide (64 * v + j < L)) := h1
    by_cases z : w < W
    · have hwl := hWL w z
      obtain ⟨y, y1, y2⟩ := word_n m1 m2 hr (show w ≤ 79 by omega) c2
      obtain ⟨t, t1, t2⟩ := inside_n hwl hL2
      have e37 : u.1 37 d = nI (m d) := (hF'.i (by omega)).trans (s4 d hd)
      have e36 : u.1 36 5 = nI L := (hF'.i (by omega)).trans s3
      have e364 : u.1 36 4 = nI mode := (hF'.i (by omega)).trans s2
      have e40 : u.2 (40 + d) w = σ.2 (40 + d) w := hF'.l (by omega)
      have hv : ∀ j, j < 64 → lb (y &&& t) j = (decide ((64 * w + j) % m d = r d) && decide (64 * w + j < L)) := fun j hj => by rw [lb_and, y2 j hj, t2 j hj]
      have hnew : ∀ j, j < 64 → lb (σ.2 (40 + d) w ||| (y &&& t)) j = (hit m r (64 * w + j) (d + 1) && decide (64 * w + j < L)) := fun j hj => by
        rw [lb_or, hB w hwl j hj, hv j hj]
        show _ = ((hit m r (64 * w + j) d || decide ((64 * w + j) % m d = r d)) && decide (64 * w + j < L))
        cases hit m r (64 * w + j) d <;> cases decide ((64 * w + j) % m d = r d) <;> cases decide (64 * w + j < L) <;> rfl
      have hz : (σ.2 (40 + d) w &&& (y &&& t)) = 0 ↔ ∀ j, j < 64 → 64 * w + j < L → ¬ (hit m r (64 * w + j) d = true ∧ (64 * w + j) % m d = r d) := by
        constructor
        · intro h j hj hl e
          have e1 : lb (σ.2 (40 + d) w &&& (y &&& t)) j = false := by rw [h, lb_0]
          rw [lb_and, hB w hwl j hj, hv j hj, e.1, decide_eq_true e.2, decide_eq_true hl] at e1
          exact absurd e1 (by decide)
        · intro h
          refine lb_ext (fun j hj => ?_)
          rw [lb_0, lb_and, hB w hwl j hj, hv j hj]
          by_cases hl : 64 * w + j < L
          · have := h j hj hl
            by_cases g : hit m r (64 * w + j) d = true
            · rw [decide_eq_false (fun e => this ⟨g, e⟩), Bool.false_and, Bool.and_false]
            · rw [Bool.eq_false_iff.mpr g, Bool.false_and, Bool.false_and]
          · rw [decide_eq_false hl, Bool.and_false, Bool.false_and]
      have hJ : Ch_lay_J94_40 u (nI d) (nI (r d)) x (40 + d) (40 + (d + 1)) (nI W) (nI w) (y &&& t) = some (.inl (nI (w + 1), wL u (41 + d) w (σ.2 (40 + d) w ||| (y &&& t)))) := by
        unfold Ch_lay_J94_40
        rw [ix_nI (show w < 79 by omega) (by omega), chk_true, chk_true, tn_nI (show w < 2147483648 by omega), e40, show 40 + (d + 1) = 41 + d by omega, bnd_x, nI_1, bnd_x]
      have hpre : Ch_lay_L40 (nI d) (nI (r d)) x (40 + d) (40 + (d + 1)) (nI W) u (nI w) = if nI mode = 0 then some (.inl (nI (w + 1), wL u (41 + d) w (σ.2 (40 + d) w ||| (y &&& t)))) else if (σ.2 (40 + d) w &&& (y &&& t)) = 0 then some (.inl (nI (w + 1), wL u (41 + d) w (σ.2 (40 + d) w ||| (y &&& t)))) else some (.inr (0, u)) := by
        unfold Ch_lay_L40
        rw [if_neg (by rw [le_nI (by omega) (by omega)]; omega), ix_nI (show d < 6 by omega) (by omega), chk_true, tn_nI (show d < 2147483648 by omega), e37, y1, bd_s, e36, t1, bd_s, bnd_x, e364, hJ, ix_nI (show w < 79 by omega) (by omega), chk_true, tn_nI (show w < 2147483648 by omega), e40]
      have step : (mode = 0 ∨ (σ.2 (40 + d) w &&& (y &&& t)) = 0) → ∃ s' m', Ch_lay_L40 (nI d) (nI (r d)) x (40 + d) (40 + (d + 1)) (nI W) u (nI w) = some (.inl s') ∧ (∃ w, m' = W - w ∧ w ≤ W ∧ s'.1 = nI w ∧ Fp (fun a i => a = 41 + d) σ s'.2 ∧ (∀ v, v < w → ∀ j, j < 64 → lb (s'.2.2 (41 + d) v) j = (hit m r (64 * v + j) (d + 1) && decide (64 * v + j < L))) ∧ (¬ mode = 0 → ∀ y, y < 64 * w → y < L → ¬ (hit m r y d = true ∧ y % m d = r d))) ∧ m' < W - w := fun hc => by
        refine ⟨(nI (w + 1), wL u (41 + d) w (σ.2 (40 + d) w ||| (y &&& t))), W - (w + 1), ?_, ⟨w + 1, rfl, by omega, rfl, Fp.wL (A := fun a i => a = 41 + d) hF' (show 41 + d = 41 + d from rfl), fun v hv2 j hj => ?_, fun hm0 q hq1 hq2 => ?_⟩, by omega⟩
        · rw [hpre]
          rcases hc with hc | hc
          · rw [if_pos (by rw [hc]; rfl)]
          · by_cases z0 : nI mode = 0
            · rw [if_pos z0]
            · rw [if_neg z0, if_pos hc]
        · show lb ((wL u (41 + d) w (σ.2 (40 + d) w ||| (y &&& t))).2 (41 + d) v) j = _
          by_cases e : v = w
          · rw [e, wL_s, hnew j hj]
          · rw [wL_ne (by omega)]; exact h1' v (by omega) j hj
        · by_cases e : q < 64 * w
          · exact h2 hm0 q e hq2
          · have hc' := hz.mp (hc.resolve_left hm0) (q - 64 * w) (by omega) (by rw [show 64 * w + (q - 64 * w) = q by omega]; exact hq2)
            rwa [show 64 * w + (q - 64 * w) = q by omega] at hc'
      by_cases c : mode = 0 ∨ (σ.2 (40 + d) w &&& (y &&& t)) = 0
      · left; exact step c
      · right
        have c0 : ¬ mode = 0 := fun e => c (Or.inl e)
        have c1 : ¬ (σ.2 (40 + d) w &&& (y &&& t)) = 0 := fun e => c (Or.inr e)
        have hl : ¬ (mode = 0 ∨ lok m r L d = true) := fun e => by
          rcases e with e | e
          · exact c0 e
          · refine c1 (hz.mpr (fun j hj hl g => ?_))
            obtain ⟨i, i1, i2⟩ := hit_ex.mp g.1
            exact lok_iff.mp e i i1 _ hl ⟨i2, g.2⟩
        refine ⟨(0, u), ?_, (if_neg hl).symm, hF', fun e => absurd e hl⟩
        show Ch_lay_L40 (nI d) (nI (r d)) x (40 + d) (40 + (d + 1)) (nI W) u (nI w) = _
        rw [hpre, if_neg (by rw [show (0 : Int32) = nI 0 from rfl, eq_nI (by omega) (by omega)]; exact c0), if_neg c1]
    · right
      have e : w = W := by omega
      have hyes : mode = 0 ∨ lok m r L d = true := by
        by_cases c0 : mode = 0
        · exact Or.inl c0
        · right
          rw [lok_iff]
          intro i hi y hy g
          exact h2 c0 y (by omega) hy ⟨hit_ex.mpr ⟨i, hi, g.1⟩, g.2⟩
      refine ⟨(1, u), ?_, (if_pos hyes).symm, hF', fun _ v hv j hj => ?_⟩
      · show Ch_lay_L40 (nI d) (nI (r d)) x (40 + d) (40 + (d + 1)) (nI W) u (nI w) = _
        unfold Ch_lay_L40
        rw [if_pos (by rw [le_nI (by omega) (by omega)]; omega)]
      · show lb (u.2 (40 + (d + 1)) v) j = _
        rw [show 40 + (d + 1) = 41 + d by omega]
        exact h1' v (by omega) j hj
end CHP
