/-! one token ahead: the reference's -/
noncomputable def ATl (σ : St) : Option St := (bnd (wI σ 92 13 (σ.1 92 14)) (fun σ62 => bd (Mo_byteAt σ62 (σ62.1 92 14)) (fun r64 => bnd (wI σ62 92 15 r64) (fun σ65 => if r64 = (-1) then (bnd (wI σ65 92 12 0) (fun σ91 => some σ91)) else (bd (Mo_isSmall r64) (fun r67 => if r67 = 0 then (bd (Mo_isDigit r64) (fun r69 => if r69 = 0 then (bnd (wI σ65 92 14 ((σ65.1 92 14) + 1)) (fun σ70 => if r64 = 59 then (bnd (wI σ70 92 12 4) (fun σ71 => some σ71)) else (if r64 = 60 then (bnd (wI σ70 92 12 4) (fun σ72 => some σ72)) else (if r64 = 62 then (bnd (wI σ70 92 12 4) (fun σ73 => some σ73)) else (if r64 = 61 then (bnd (wI σ70 92 12 4) (fun σ75 => some σ75)) else (bnd (wI σ70 92 12 1) (fun σ74 => some σ74))))))) else (bnd (wI σ65 92 15 0) (fun σ80 => bd (iter (fun s : St => Mo_ahead_L128 s) FUEL σ80) (fun σ81 => if ((σ81.1 92 14) - (σ81.1 92 13)) ≤ 4 then (bnd (wI σ81 92 12 3) (fun σ83 => some σ83)) else (bnd (wI σ81 92 12 1) (fun σ84 => some σ84))))))) else (bd (iter (fun s : St => Mo_ahead_L81 s) FUEL σ65) (fun σ87 => bnd (wI σ87 92 12 2) (fun σ89 => some σ89)))))))))
theorem skipM {σ : St} {n : Nat} {bt : Nat → Nat} (h : TxM σ n bt) {i : Nat} (hi : i ≤ n) (h14 : σ.1 92 14 = nI i) : ∃ σ', iter (fun s : St => Mo_ahead_L0 s) FUEL σ = some σ' ∧ σ'.1 92 14 = nI (scan (blk bt) n i) ∧ Fp (fun a j => a = 92 ∧ j = 14) σ σ' := by
  have hn := h.1
  have key := iter_ix (body := fun s : St => Mo_ahead_L0 s) (fun k u => ∃ j, k = n - j ∧ j ≤ n ∧ u.1 92 14 = nI j ∧ Fp (fun a j => a = 92 ∧ j = 14) σ u ∧ scan (blk bt) n j = scan (blk bt) n i) (fun e => e.1 92 14 = nI (scan (blk bt) n i) ∧ Fp (fun a j => a = 92 ∧ j = 14) σ e) ?_ FUEL (n - i) σ ⟨i, rfl, hi, h14, Fp.rf, rfl⟩ (fuel (by omega))
  · exact key
  · rintro k u ⟨j, rfl, hj, e14, hF, hs⟩
    have hu : TxM u n bt := ⟨h.1, (hF.i (by omega)).trans h.2.1, fun k hk => ⟨(h.2.2 k hk).1, by rw [hF.i (by omega)]; exact (h.2.2 k hk).2⟩⟩
    have hb := byteAt_n hu (k := j) (by omega)
    by_cases z : j < n
    · have hb2 := (hu.2.2 j z).1
      rw [if_pos z] at hb
      have hpre : Mo_ahead_L0 u = if bt j = 32 ∨ bt j = 10 then some (.inl (wI u 92 14 (nI (j + 1)))) else some (.inr u) := by
        unfold Mo_ahead_L0
        rw [e14, hb, bd_s, nI_1, bnd_x, bd_s, show (32 : Int32) = nI 32 from rfl, show (10 : Int32) = nI 10 from rfl]
        by_cases c : bt j = 32
        · rw [if_pos (by rw [c]), if_pos (Or.inl c)]
        · rw [if_neg (by rw [eq_nI (by omega) (by omega)]; exact c)]
          by_cases d : bt j = 10
          · rw [if_pos (by rw [d]), if_pos (Or.inr d)]
          · rw [if_neg (by rw [eq_nI (by omega) (by omega)]; exact d), if_neg (fun e => e.elim c d)]
      by_cases c : bt j = 32 ∨ bt j = 10
      · left
        refine ⟨wI u 92 14 (nI (j + 1)), n - (j + 1), ?_, ⟨j + 1, rfl, by omega, wI_s, Fp.wI (A := fun a j => a = 92 ∧ j = 14) hF ⟨rfl, rfl⟩, ?_⟩, by omega⟩
        · rw [hpre, if_pos c]
        · rw [← scan_go z (by unfold blk; simpa using c)]; exact hs
      · right
        have e : scan (blk bt) n j = j := scan_no (fun e => c (by have := e.2; unfold blk at this; simpa using this))
        refine ⟨u, ?_, ?_, hF⟩
        · rw [hpre, if_neg c]
        · rw [← hs, e]; exact e14
    · right
      have e : scan (blk bt) n j = j := scan_no (fun e => z e.1)
      rw [if_neg z] at hb
      refine ⟨u, ?_, ?_, hF⟩
      · unfold Mo_ahead_L0
        rw [e14, hb, bd_s, if_neg (by decide), bd_s, if_neg (by decide)]
      · rw [← hs, e]; exact e14
theorem TxM.k {σ σ2 : St} {n : Nat} {bt : Nat → Nat} (h : TxM σ n bt) {A : Nat → Nat → Prop} (F : Fp A σ σ2) (hA : ¬ A 92 11 ∧ ∀ i, ¬ A 99 i) : TxM σ2 n bt := ⟨h.1, (F.i hA.1).trans h.2.1, fun k hk => ⟨(h.2.2 k hk).1, by rw [F.i (hA.2 k)]; exact (h.2.2 k hk).2⟩⟩
theorem aheadT {σ : St} {n : Nat} {bt : Nat → Nat} (h : TxM σ n bt) {i : Nat} (hi : i ≤ n) (h14 : σ.1 92 14 = nI i) : ∃ σ', Mo_ahead σ = ATl σ' ∧ σ'.1 92 14 = nI (scan (blk bt) n i) ∧ Fp (fun a j => a = 92 ∧ j = 14) σ σ' := by
  have hn := h.1
  have hb := byteAt_n h (k := i) (by omega)
  by_cases z : i < n
  · have hb2 := (h.2.2 i z).1
    rw [if_pos z] at hb
    by_cases c : bt i = 32 ∨ bt i = 10
    · have F1 : Fp (fun a j => a = 92 ∧ j = 14) σ (wI σ 92 14 (nI (i + 1))) := Fp.wI (A := fun a j => a = 92 ∧ j = 14) (Fp.rf (A := fun a j => a = 92 ∧ j = 14)) ⟨rfl, rfl⟩
      obtain ⟨τ, t1, t2, t3⟩ := skipM (h.k F1 ⟨by omega, fun i => by omega⟩) (i := i + 1) (by omega) wI_s
      refine ⟨τ, ?_, ?_, F1.tr t3⟩
      · unfold Mo_ahead ATl
        by_cases d : bt i = 32
        · rw [h14, hb, bd_s, if_pos (by rw [d]; rfl), nI_1, bnd_x, t1, bd_s]
        · rw [h14, hb, bd_s, show (32 : Int32) = nI 32 from rfl, if_neg (by rw [eq_nI (by omega) (by omega)]; exact d), bd_s, if_pos (by rw [c.resolve_left d]; rfl), nI_1, bnd_x, t1, bd_s]
      · rw [t2, ← scan_go z (by unfold blk; simpa using c)]
    · refine ⟨σ, ?_, ?_, Fp.rf⟩
      · unfold Mo_ahead ATl
        rw [h14, hb, bd_s, show (32 : Int32) = nI 32 from rfl, if_neg (by rw [eq_nI (by omega) (by omega)]; exact fun e => c (Or.inl e)), bd_s, show (10 : Int32) = nI 10 from rfl, if_neg (by rw [eq_nI (by omega) (by omega)]; exact fun e => c (Or.inr e))]
      · rw [h14, scan_no (fun e => c (by have := e.2; unfold blk at this; simpa using this))]
  · rw [if_neg z] at hb
    refine ⟨σ, ?_, ?_, Fp.rf⟩
    · unfold Mo_ahead ATl
      rw [h14, hb, bd_s, if_neg (by decide), bd_s, if_neg (by decide)]
    · rw [h14, scan_no (fun e => z e.1)]
