/-! finding a name -/
def fN (nm : Nat → Nat) (c x : Nat) : Nat := scan (fun k => decide (¬ nm k = x)) c 0
theorem fN_le (nm : Nat → Nat) (c x : Nat) : fN nm c x ≤ c := (scan_in (p := fun k => decide (¬ nm k = x)) (Nat.zero_le c)).2
section FND
variable {σ : St} {a o q c od on : Nat} {rs md nm : Nat → Nat}
theorem findCl (h : CV σ a c od on rs md nm) (w : WF c od on rs md nm) {x : Nat} (hx : x < 1099511627776) : Cl_find σ a (lN x) = some (if fN nm c x < c then nI (fN nm c x) else -1) := by
  have hc := w.1
  have key := iter_ix (body := fun s : Int32 => Cl_find_L2 a (lN x) σ s) (fun m u => ∃ j, m = c - j ∧ j ≤ c ∧ u = nI j ∧ scan (fun k => decide (¬ nm k = x)) c j = fN nm c x) (fun r => r = if fN nm c x < c then nI (fN nm c x) else -1) ?_ FUEL c (nI 0) ⟨0, rfl, by omega, rfl, rfl⟩ (fuel (by omega))
  · obtain ⟨r, b1, b2⟩ := key
    unfold Cl_find
    rw [show (0 : Int32) = nI 0 from rfl, b1, b2]
  · rintro m _ ⟨j, rfl, hj, rfl, hq⟩
    by_cases z : j = c
    · right
      refine ⟨-1, ?_, ?_⟩
      · show Cl_find_L2 a (lN x) σ (nI j) = _
        unfold Cl_find_L2
        rw [h.1, if_pos (by rw [le_nI (by omega) (by omega)]; omega)]
      · have : fN nm c x = c := by rw [← hq, scan_no (by omega), z]
        rw [this, if_neg (Nat.lt_irrefl _)]
    · have hj' : j < c := by omega
      have hn := w.2.2.2.2 j hj'
      have hpre : Cl_find_L2 a (lN x) σ (nI j) = if nm j = x then some (.inr (nI j)) else some (.inl (nI (j + 1))) := by
        unfold Cl_find_L2
        rw [h.1, if_neg (by rw [le_nI (by omega) (by omega)]; omega), ix_nI (by omega) (by omega), chk_true, tn_nI (by omega), h.2.2.2.2.2 j hj', nI_1, bnd_x]
        by_cases e : nm j = x
        · rw [if_pos e, if_pos (by rw [e])]
        · rw [if_neg e, if_neg (fun y => e ((fb_lN_inj (by omega) (by omega)).mp y))]
      by_cases e : nm j = x
      · right
        refine ⟨nI j, ?_, ?_⟩
        · show Cl_find_L2 a (lN x) σ (nI j) = _
          rw [hpre, if_pos e]
        · have : fN nm c x = j := by rw [← hq]; exact scan_no (fun y => by have := y.2; simp [e] at this)
          rw [this, if_pos hj']
      · left
        refine ⟨nI (j + 1), c - (j + 1), ?_, ⟨j + 1, rfl, by omega, rfl, ?_⟩, by omega⟩
        · show Cl_find_L2 a (lN x) σ (nI j) = _
          rw [hpre, if_neg e]
        · rw [← scan_go (p := fun k => decide (¬ nm k = x)) hj' (by simpa using e)]; exact hq
theorem findMo (h : MV σ o q c od on rs md nm) (w : WF c od on rs md nm) (hq60 : q ≤ 48) {x : Nat} (hx : x < 1099511627776) (hN : Mo_nameHere σ = some (lN (g8 x))) : Mo_findHere σ (nI q) (nI c) = some (if fN nm c x < c then nI (fN nm c x) else -1) := by
  have hc := w.1
  have key := iter_ix (body := fun s : Int32 => Mo_findHere_L2 (nI q) (nI c) σ s) (fun m u => ∃ j, m = c - j ∧ j ≤ c ∧ u = nI j ∧ scan (fun k => decide (¬ nm k = x)) c j = fN nm c x) (fun r => r = if fN nm c x < c then nI (fN nm c x) else -1) ?_ FUEL c (nI 0) ⟨0, rfl, by omega, rfl, rfl⟩ (fuel (by omega))
  · obtain ⟨r, b1, b2⟩ := key
    unfold Mo_findHere
    rw [show (0 : Int32) = nI 0 from rfl, b1, b2]
  · rintro m _ ⟨j, rfl, hj, rfl, hq⟩
    by_cases z : j = c
    · right
      refine ⟨-1, ?_, ?_⟩
      · show Mo_findHere_L2 (nI q) (nI c) σ (nI j) = _
        unfold Mo_findHere_L2
        rw [if_pos (by rw [le_nI (by omega) (by omega)]; omega)]
      · have : fN nm c x = c := by rw [← hq, scan_no (by omega), z]
        rw [this, if_neg (Nat.lt_irrefl _)]
    · have hj' : j < c := by omega
      have hn := w.2.2.2.2 j hj'
      have hpre : Mo_findHere_L2 (nI q) (nI c) σ (nI j) = if nm j = x then some (.inr (nI j)) else some (.inl (nI (j + 1))) := by
        unfold Mo_findHere_L2
        rw [if_neg (by rw [le_nI (by omega) (by omega)]; omega), nI_add, ix_nI (by omega) (by omega), chk_true, tn_nI (by omega), h.2.2.2.2.2 j hj', hN, bd_s, nI_1, bnd_x]
        by_cases e : nm j = x
        · rw [if_pos e, if_pos (by rw [e])]
        · rw [if_neg e, if_neg (fun y => e ((g8_inj hn hx).mp y))]
      by_cases e : nm j = x
      · right
        refine ⟨nI j, ?_, ?_⟩
        · show Mo_findHere_L2 (nI q) (nI c) σ (nI j) = _
          rw [hpre, if_pos e]
        · have : fN nm c x = j := by rw [← hq]; exact scan_no (fun y => by have := y.2; simp [e] at this)
          rw [this, if_pos hj']
      · left
        refine ⟨nI (j + 1), c - (j + 1), ?_, ⟨j + 1, rfl, by omega, rfl, ?_⟩, by omega⟩
        · show Mo_findHere_L2 (nI q) (nI c) σ (nI j) = _
          rw [hpre, if_neg e]
        · rw [← scan_go (p := fun k => decide (¬ nm k = x)) hj' (by simpa using e)]; exact hq
theorem MVpush {τ τ' : St} (h : MV τ o q c od on rs md nm) (ho : on < 2 ^ c) {r m l : Nat} {b : Bool} (e0 : τ'.1 93 o = nI (c + 1)) (eo : ∀ j, 1 ≤ j → j < 4 + 3 * c → τ'.1 93 (o + j) = τ.1 93 (o + j)) (en : ∀ j, j < c → τ'.2 94 (q + j) = τ.2 94 (q + j)) (v1 : τ'.1 93 (o + (4 + 3 * c)) = nI r) (v2 : τ'.1 93 (o + (5 + 3 * c)) = nI m) (v3 : τ'.1 93 (o + (6 + 3 * c)) = nI (if b then 1 else 0)) (v4 : τ'.2 94 (q + c) = lN (g8 l)) : MV τ' o q (c + 1) od (onb on c b) (fset rs c r) (fset md c m) (fset nm c l) := by
  obtain ⟨h1, h2, h3, h4, h5, h6⟩ := h
  refine ⟨e0, (eo 1 (by omega) (by omega)).trans h2, fun k hk => ?_, fun k hk => ?_, fun k hk => ?_, fun k hk => ?_⟩
  · by_cases e : k = c
    · rw [e, fset_1]; exact v1
    · rw [fset_2 _ _ e]; exact (eo _ (by omega) (by omega)).trans (h3 k (by omega))
  · by_cases e : k = c
    · rw [e, fset_1]; exact v2
    · rw [fset_2 _ _ e]; exact (eo _ (by omega) (by omega)).trans (h4 k (by omega))
  · by_cases e : k = c
    · rw [e, onb_new ho]; exact v3
    · rw [onb_old (by omega)]; exact (eo _ (by omega) (by omega)).trans (h5 k (by omega))
  · by_cases e : k = c
    · rw [e, fset_1]; exact v4
    · rw [fset_2 _ _ e]; exact (en _ (by omega)).trans (h6 k (by omega))
end FND
