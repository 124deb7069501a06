section AHB
variable {n : Nat} {bt : Nat → Nat}
def cvN (bt : Nat → Nat) (s : Nat) : Nat → Nat
  | 0 => 0
  | k + 1 => min 100000 (10 * cvN bt s k + (bt (s + k) - 48))
theorem cvN_le (s : Nat) : ∀ k, cvN bt s k ≤ 100000
  | 0 => Nat.zero_le _
  | _ + 1 => Nat.min_le_left _ _
def tkE (bt : Nat → Nat) (n s : Nat) : Nat := if s < n then (if ltr bt s = true then scan (ltr bt) n s else if dgt bt s = true then scan (dgt bt) n s else s + 1) else s
def sgn (b : Nat) : Bool := decide (b = 59) || decide (b = 60) || decide (b = 61) || decide (b = 62)
def tkR (bt : Nat → Nat) (n s : Nat) : Nat := if s < n then (if ltr bt s = true then 2 else if dgt bt s = true then (if scan (dgt bt) n s - s ≤ 4 then 3 else 1) else if sgn (bt s) = true then 4 else 1) else 0
def tkV (bt : Nat → Nat) (n s : Nat) : Nat := if dgt bt s = true then cvN bt s (scan (dgt bt) n s - s) else bt s
theorem wordsM {σ : St} (h : TxM σ n bt) {i : Nat} (hi : i ≤ n) (h14 : σ.1 92 14 = nI i) : ∃ σ', iter (fun s : St => Mo_ahead_L81 s) FUEL σ = some σ' ∧ σ'.1 92 14 = nI (scan (ltr bt) n i) ∧ Fp (fun a j => a = 92 ∧ j = 14) σ σ' := by
  have hn := h.1
  have key := iter_ix (body := fun s : St => Mo_ahead_L81 s) (fun k u => ∃ j, k = n - j ∧ j ≤ n ∧ u.1 92 14 = nI j ∧ Fp (fun a j => a = 92 ∧ j = 14) σ u ∧ scan (ltr bt) n j = scan (ltr bt) n i) (fun e => e.1 92 14 = nI (scan (ltr bt) n i) ∧ Fp (fun a j => a = 92 ∧ j = 14) σ e) ?_ FUEL (n - i) σ ⟨i, rfl, hi, h14, Fp.rf, rfl⟩ (fuel (by omega))
  · exact key
  · rintro k u ⟨j, rfl, hj, e14, hF, hs⟩
    have hu : TxM u n bt := h.k hF ⟨by omega, fun i => by omega⟩
    have hb := byteAt_n hu (k := j) (by omega)
    by_cases z : j < n
    · have hb2 := (hu.2.2 j z).1
      rw [if_pos z] at hb
      by_cases c : 97 ≤ bt j ∧ bt j ≤ 122
      · left
        refine ⟨wI u 92 14 (nI (j + 1)), n - (j + 1), ?_, ⟨j + 1, rfl, by omega, wI_s, Fp.wI (A := fun a j => a = 92 ∧ j = 14) hF ⟨rfl, rfl⟩, ?_⟩, by omega⟩
        · unfold Mo_ahead_L81
          rw [e14, hb, bd_s, letter_m hb2, bd_s, if_pos c, if_neg (by decide), nI_1, bnd_x]
        · rw [← scan_go z (by unfold ltr; simpa using c)]; exact hs
      · right
        have e : scan (ltr bt) n j = j := scan_no (fun e => c (by have := e.2; unfold ltr at this; simpa using this))
        refine ⟨u, ?_, ?_, hF⟩
        · unfold Mo_ahead_L81
          rw [e14, hb, bd_s, letter_m hb2, bd_s, if_neg c, if_pos rfl]
        · rw [← hs, e]; exact e14
    · right
      have e : scan (ltr bt) n j = j := scan_no (fun e => z e.1)
      rw [if_neg z] at hb
      refine ⟨u, ?_, ?_, hF⟩
      · unfold Mo_ahead_L81
        rw [e14, hb, bd_s, show Mo_isSmall (-1) = some 0 from by decide, bd_s, if_pos rfl]
      · rw [← hs, e]; exact e14
theorem numsM {σ : St} (h : TxM σ n bt) {i : Nat} (hi : i ≤ n) (h14 : σ.1 92 14 = nI i) (h15 : σ.1 92 15 = 0) : ∃ σ', iter (fun s : St => Mo_ahead_L128 s) FUEL σ = some σ' ∧ σ'.1 92 14 = nI (scan (dgt bt) n i) ∧ σ'.1 92 15 = nI (cvN bt i (scan (dgt bt) n i - i)) ∧ Fp (fun a j => a = 92 ∧ (j = 14 ∨ j = 15)) σ σ' := by
  have hn := h.1
  have key := iter_ix (body := fun s : St => Mo_ahead_L128 s) (fun k u => ∃ j, k = n - j ∧ i ≤ j ∧ j ≤ n ∧ u.1 92 14 = nI j ∧ u.1 92 15 = nI (cvN bt i (j - i)) ∧ Fp (fun a j => a = 92 ∧ (j = 14 ∨ j = 15)) σ u ∧ scan (dgt bt) n j = scan (dgt bt) n i) (fun e => e.1 92 14 = nI (scan (dgt bt) n i) ∧ e.1 92 15 = nI (cvN bt i (scan (dgt bt) n i - i)) ∧ Fp (fun a j => a = 92 ∧ (j = 14 ∨ j = 15)) σ e) ?_ FUEL (n - i) σ ⟨i, rfl, Nat.le_refl _, hi, h14, by rw [Nat.sub_self]; exact h15, Fp.rf, rfl⟩ (fuel (by omega))
  · exact key
  · rintro k u ⟨j, rfl, hij, hj, e14, e15, hF, hs⟩
    have hu : TxM u n bt := h.k hF ⟨by omega, fun i => by omega⟩
    have hb := byteAt_n hu (k := j) (by omega)
    by_cases z : j < n
    · have hb2 := (hu.2.2 j z).1
      rw [if_pos z] at hb
      by_cases c : 48 ≤ bt j ∧ bt j ≤ 57
      · left
        have hv := cvN_le (bt := bt) i (j - i)
        have en : cvN bt i (j + 1 - i) = min 100000 (10 * cvN bt i (j - i) + (bt j - 48)) := by
          rw [show j + 1 - i = (j - i) + 1 by omega]
          show min 100000 (10 * cvN bt i (j - i) + (bt (i + (j - i)) - 48)) = _
          rw [show i + (j - i) = j by omega]
        refine ⟨wI (wI u 92 15 (nI (cvN bt i (j + 1 - i)))) 92 14 (nI (j + 1)), n - (j + 1), ?_, ⟨j + 1, rfl, by omega, by omega, wI_s, (wI_ne (by omega)).trans wI_s, Fp.wI (A := fun a j => a = 92 ∧ (j = 14 ∨ j = 15)) (Fp.wI (A := fun a j => a = 92 ∧ (j = 14 ∨ j = 15)) hF ⟨rfl, Or.inr rfl⟩) ⟨rfl, Or.inl rfl⟩, ?_⟩, by omega⟩
        · unfold Mo_ahead_L128
          rw [e14, hb, bd_s, digit_m hb2, bd_s, if_pos c, if_neg (by decide), bd_s, e15, show (10 : Int32) = nI 10 from rfl, pk_mul, nI_add, show (48 : Int32) = nI 48 from rfl, sub_nI (by omega), show (100000 : Int32) = nI 100000 from rfl, jmin_nI (by omega) (by omega), bnd_x, show 10 * cvN bt i (j - i) + bt j - 48 = 10 * cvN bt i (j - i) + (bt j - 48) by omega, ← en, show (wI u 92 15 (nI (cvN bt i (j + 1 - i)))).1 92 14 = nI j from (wI_ne (by omega)).trans e14, nI_1, bnd_x]
        · rw [← scan_go z (by unfold dgt; simpa using c)]; exact hs
      · right
        have e : scan (dgt bt) n j = j := scan_no (fun e => c (by have := e.2; unfold dgt at this; simpa using this))
        refine ⟨u, ?_, ?_, ?_, hF⟩
        · unfold Mo_ahead_L128
          rw [e14, hb, bd_s, digit_m hb2, bd_s, if_neg c, if_pos rfl]
        · rw [← hs, e]; exact e14
        · rw [← hs, e]; exact e15
    · right
      have e : scan (dgt bt) n j = j := scan_no (fun e => z e.1)
      rw [if_neg z] at hb
      refine ⟨u, ?_, ?_, ?_, hF⟩
      · unfold Mo_ahead_L128
        rw [e14, hb, bd_s, show Mo_isDigit (-1) = some 0 from by decide, bd_s, if_pos rfl]
      · rw [← hs, e]; exact e14
      · rw [← hs, e]; exact e15
end AHB
