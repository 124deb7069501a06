theorem numC {σ : St} {n : Nat} {bt : Nat → Nat} (h : TxC σ n bt) {i : Nat} (hi : i ≤ n) (l1 : Int32) : iter (fun s : (Int32 × Int64) => Re_findNumber_L4 l1 σ s.1 s.2) FUEL (nI i, 0) = some (nI (scan (dgt bt) n i), nv bt i (scan (dgt bt) n i - i)) := by
  obtain ⟨h1, h2, h3⟩ := h
  have key := iter_ix (body := fun s : (Int32 × Int64) => Re_findNumber_L4 l1 σ s.1 s.2) (fun k u => ∃ j, k = n - j ∧ i ≤ j ∧ j ≤ n ∧ u.1 = nI j ∧ u.2 = nv bt i (j - i) ∧ scan (dgt bt) n j = scan (dgt bt) n i) (fun e => e = (nI (scan (dgt bt) n i), nv bt i (scan (dgt bt) n i - i))) ?_ FUEL (n - i) (nI i, 0) ⟨i, rfl, Nat.le_refl _, hi, rfl, by rw [Nat.sub_self]; rfl, rfl⟩ (fuel (by omega))
  · obtain ⟨e, b1, b2⟩ := key
    rw [b1, b2]
  · rintro k ⟨_, _⟩ ⟨j, rfl, hij, hj, rfl, rfl, hs⟩
    by_cases z : j < n
    · obtain ⟨y1, y2⟩ := h3 j z
      have hl := digit_c y1
      rw [y2] at hl
      by_cases c : 48 ≤ bt j ∧ bt j ≤ 57
      · left
        have ex : σ.1 3 j = nI (bt j) := by rw [← y2]; exact ub_x y1 (by omega)
        refine ⟨(nI (j + 1), nv bt i (j + 1 - i)), n - (j + 1), ?_, ⟨j + 1, rfl, by omega, by omega, rfl, rfl, ?_⟩, by omega⟩
        · show Re_findNumber_L4 l1 σ (nI j) (nv bt i (j - i)) = _
          unfold Re_findNumber_L4
          rw [h2, if_neg (by rw [le_nI (by omega) (by omega)]; omega), ix_nI (by omega) (by omega), chk_true, tn_nI (by omega), hl, bd_s, if_pos c, if_neg (by decide), chk_true, ex, bnd_x, nI_1, bnd_x, show j + 1 - i = (j - i) + 1 by omega]
          show _ = some (Sum.inl (nI (j + 1), nv bt i (j - i) * 10 + (nI (bt (i + (j - i)))).toInt64 - 48))
          rw [show i + (j - i) = j by omega]
        · rw [← scan_go z (by unfold dgt; simpa using c)]; exact hs
      · right
        have e : scan (dgt bt) n j = j := scan_no (fun e => c (by have := e.2; unfold dgt at this; simpa using this))
        refine ⟨(nI j, nv bt i (j - i)), ?_, ?_⟩
        · show Re_findNumber_L4 l1 σ (nI j) (nv bt i (j - i)) = _
          unfold Re_findNumber_L4
          rw [h2, if_neg (by rw [le_nI (by omega) (by omega)]; omega), ix_nI (by omega) (by omega), chk_true, tn_nI (by omega), hl, bd_s, if_neg c, if_pos rfl]
        · rw [← hs, e]
    · right
      have e : scan (dgt bt) n j = j := scan_no (fun e => z e.1)
      refine ⟨(nI j, nv bt i (j - i)), ?_, ?_⟩
      · show Re_findNumber_L4 l1 σ (nI j) (nv bt i (j - i)) = _
        unfold Re_findNumber_L4
        rw [h2, if_pos (by rw [le_nI (by omega) (by omega)]; omega)]
      · rw [← hs, e]
