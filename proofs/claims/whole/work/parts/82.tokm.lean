/-! the reference's view of a token -/
section TKM
variable {n : Nat} {bt : Nat → Nat}
def TkM (σ : St) (bt : Nat → Nat) (n s : Nat) : Prop := TxM σ n bt ∧ s ≤ n ∧ σ.1 92 12 = nI (tkR bt n s) ∧ σ.1 92 13 = nI s ∧ σ.1 92 14 = nI (tkE bt n s) ∧ (s < n → σ.1 92 15 = nI (tkV bt n s))
theorem aheadN {σ : St} (h : TxM σ n bt) {i : Nat} (hi : i ≤ n) (h14 : σ.1 92 14 = nI i) : ∃ σ', Mo_ahead σ = some σ' ∧ TkM σ' bt n (scan (blk bt) n i) ∧ Fp A4 σ σ' := by
  obtain ⟨τ, t1, t2, t3⟩ := aheadT h hi h14
  have hT := h.k t3 ⟨by omega, fun i => by omega⟩
  have hb := (scan_in (p := blk bt) hi).2
  obtain ⟨ρ, r1, r2, r3, r4, r5, r6⟩ := ATl_n hT hb t2
  exact ⟨ρ, t1.trans r1, ⟨hT.k r2 ⟨by unfold A4; omega, fun i => by unfold A4; omega⟩, hb, r5, r3, r4, r6⟩, (t3.mono (fun a j q => by unfold A4; omega)).tr r2⟩
theorem tk_cases (bt : Nat → Nat) (n s : Nat) : (¬ s < n ∧ tkR bt n s = 0 ∧ kC bt n s = 0) ∨ (s < n ∧ ltr bt s = true ∧ tkR bt n s = 2 ∧ tkE bt n s = scan (ltr bt) n s ∧ ((wix bt s (scan (ltr bt) n s) < 16 ∧ kC bt n s = 10 + wix bt s (scan (ltr bt) n s)) ∨ (¬ wix bt s (scan (ltr bt) n s) < 16 ∧ scan (ltr bt) n s - s ≤ 8 ∧ kC bt n s = 3) ∨ (¬ wix bt s (scan (ltr bt) n s) < 16 ∧ ¬ scan (ltr bt) n s - s ≤ 8 ∧ kC bt n s = 4))) ∨ (s < n ∧ ltr bt s = false ∧ dgt bt s = true ∧ tkV bt n s = cvN bt s (scan (dgt bt) n s - s) ∧ ((scan (dgt bt) n s - s ≤ 4 ∧ tkR bt n s = 3 ∧ kC bt n s = 2) ∨ (¬ scan (dgt bt) n s - s ≤ 4 ∧ tkR bt n s = 1 ∧ kC bt n s = 1))) ∨ (s < n ∧ ltr bt s = false ∧ dgt bt s = false ∧ tkV bt n s = bt s ∧ ((bt s = 59 ∧ tkR bt n s = 4 ∧ kC bt n s = 5) ∨ (bt s = 60 ∧ tkR bt n s = 4 ∧ kC bt n s = 6) ∨ (bt s = 61 ∧ tkR bt n s = 4 ∧ kC bt n s = 8) ∨ (bt s = 62 ∧ tkR bt n s = 4 ∧ kC bt n s = 7) ∨ (¬ bt s = 59 ∧ ¬ bt s = 60 ∧ ¬ bt s = 61 ∧ ¬ bt s = 62 ∧ tkR bt n s = 1 ∧ kC bt n s = 1))) := by
  by_cases z : s < n
  · right
    by_cases l : ltr bt s = true
    · left
      refine ⟨z, l, by unfold tkR; rw [if_pos z, if_pos l], by unfold tkE; rw [if_pos z, if_pos l], ?_⟩
      by_cases w : wix bt s (scan (ltr bt) n s) < 16
      · exact Or.inl ⟨w, by unfold kC; rw [if_pos z, if_pos l, if_pos w]⟩
      · by_cases c : scan (ltr bt) n s - s ≤ 8
        · exact Or.inr (Or.inl ⟨w, c, by unfold kC; rw [if_pos z, if_pos l, if_neg w, if_pos c]⟩)
        · exact Or.inr (Or.inr ⟨w, c, by unfold kC; rw [if_pos z, if_pos l, if_neg w, if_neg c]⟩)
    · right
      have l' : ltr bt s = false := by simpa using l
      by_cases d : dgt bt s = true
      · left
        refine ⟨z, l', d, by unfold tkV; rw [if_pos d], ?_⟩
        by_cases c : scan (dgt bt) n s - s ≤ 4
        · exact Or.inl ⟨c, by unfold tkR; rw [if_pos z, if_neg l, if_pos d, if_pos c], by unfold kC; rw [if_pos z, if_neg l, if_pos d, if_pos c]⟩
        · exact Or.inr ⟨c, by unfold tkR; rw [if_pos z, if_neg l, if_pos d, if_neg c], by unfold kC; rw [if_pos z, if_neg l, if_pos d, if_neg c]⟩
      · right
        have d' : dgt bt s = false := by simpa using d
        have r : tkR bt n s = if sgn (bt s) = true then 4 else 1 := by unfold tkR; rw [if_pos z, if_neg l, if_neg d]
        have q : kC bt n s = if bt s = 59 then 5 else if bt s = 60 then 6 else if bt s = 61 then 8 else if bt s = 62 then 7 else 1 := by unfold kC; rw [if_pos z, if_neg l, if_neg d]
        refine ⟨z, l', d', by unfold tkV; rw [if_neg d], ?_⟩
        rw [r, q]
        unfold sgn
        by_cases c1 : bt s = 59
        · exact Or.inl ⟨c1, by simp [c1], by rw [if_pos c1]⟩
        · by_cases c2 : bt s = 60
          · exact Or.inr (Or.inl ⟨c2, by simp [c2], by rw [if_neg c1, if_pos c2]⟩)
          · by_cases c3 : bt s = 61
            · exact Or.inr (Or.inr (Or.inl ⟨c3, by simp [c3], by rw [if_neg c1, if_neg c2, if_pos c3]⟩))
            · by_cases c4 : bt s = 62
              · exact Or.inr (Or.inr (Or.inr (Or.inl ⟨c4, by simp [c4], by rw [if_neg c1, if_neg c2, if_neg c3, if_pos c4]⟩)))
              · exact Or.inr (Or.inr (Or.inr (Or.inr ⟨c1, c2, c3, c4, by simp [c1, c2, c3, c4], by rw [if_neg c1, if_neg c2, if_neg c3, if_neg c4]⟩)))
  · left
    exact ⟨z, by unfold tkR; rw [if_neg z], by unfold kC; rw [if_neg z]⟩
theorem kC_lt (bt : Nat → Nat) (n s : Nat) : kC bt n s < 26 ∧ tkR bt n s < 5 := by
  have := wix_le bt s (scan (ltr bt) n s)
  rcases tk_cases bt n s with ⟨a1, a2, a3⟩ | ⟨a1, a2, a3, a4, a5⟩ | ⟨a1, a2, a3, a4, a5⟩ | ⟨a1, a2, a3, a4, a5⟩ <;> omega
theorem kC_r (bt : Nat → Nat) (n s : Nat) : (tkR bt n s = 0 ↔ kC bt n s = 0) ∧ (tkR bt n s = 1 ↔ kC bt n s = 1) ∧ (tkR bt n s = 3 ↔ kC bt n s = 2) ∧ (kC bt n s = 0 ↔ ¬ s < n) := by
  rcases tk_cases bt n s with ⟨a1, a2, a3⟩ | ⟨a1, a2, a3, a4, a5⟩ | ⟨a1, a2, a3, a4, a5⟩ | ⟨a1, a2, a3, a4, a5⟩ <;> omega
theorem TkM.r {σ : St} {s : Nat} (h : TkM σ bt n s) : (σ.1 92 12 = 0 ↔ kC bt n s = 0) ∧ (σ.1 92 12 = 1 ↔ kC bt n s = 1) ∧ (σ.1 92 12 = 3 ↔ kC bt n s = 2) := by
  obtain ⟨hX, hs, h12, h13, h14, h15⟩ := h
  obtain ⟨k0, k1, k3, _⟩ := kC_r bt n s
  have := (kC_lt bt n s).2
  rw [h12, show (0 : Int32) = nI 0 from rfl, show (1 : Int32) = nI 1 from rfl, show (3 : Int32) = nI 3 from rfl, eq_nI (by omega) (by omega), eq_nI (by omega) (by omega), eq_nI (by omega) (by omega)]
  exact ⟨k0, k1, k3⟩
theorem inW {σ : St} {s : Nat} (h : TkM σ bt n s) : Mo_inWords σ = some (if 10 ≤ kC bt n s then nI (kC bt n s - 10) else -1) := by
  obtain ⟨hX, hs, h12, h13, h14, h15⟩ := h
  have hlt := (kC_lt bt n s).2
  rcases tk_cases bt n s with ⟨a1, a2, a3⟩ | ⟨a1, a2, a3, a4, a5⟩ | ⟨a1, a2, a3, a4, a5⟩ | ⟨a1, a2, a3, a4, a5⟩
  · unfold Mo_inWords
    rw [h12, a2, if_neg (by decide), if_neg (by omega)]
  · rw [a3] at h12
    rw [a4] at h14
    obtain ⟨b1, b2⟩ := scan_in (p := ltr bt) hs
    rw [inWordsM hX b1 b2 h12 h13 h14]
    rcases a5 with ⟨w, k⟩ | ⟨w, c, k⟩ | ⟨w, c, k⟩
    · rw [if_pos w, k, if_pos (by omega), Nat.add_sub_cancel_left]
    · rw [if_neg w, k, if_neg (by decide)]
    · rw [if_neg w, k, if_neg (by decide)]
  · unfold Mo_inWords
    rw [h12, show (2 : Int32) = nI 2 from rfl, if_neg (by rw [eq_nI (by omega) (by omega)]; omega), if_neg (by omega)]
  · unfold Mo_inWords
    rw [h12, show (2 : Int32) = nI 2 from rfl, if_neg (by rw [eq_nI (by omega) (by omega)]; omega), if_neg (by omega)]
theorem isSign_n {σ : St} {s : Nat} (h : TkM σ bt n s) {c d : Nat} (hcd : (c = 59 ∧ d = 5) ∨ (c = 60 ∧ d = 6) ∨ (c = 61 ∧ d = 8) ∨ (c = 62 ∧ d = 7)) : Mo_isSign σ (nI c) = some (if kC bt n s = d then 1 else 0) := by
  obtain ⟨hX, hs, h12, h13, h14, h15⟩ := h
  have hlt := (kC_lt bt n s).2
  unfold Mo_isSign
  rw [h12, show (4 : Int32) = nI 4 from rfl]
  rcases tk_cases bt n s with ⟨a1, a2, a3⟩ | ⟨a1, a2, a3, a4, a5⟩ | ⟨a1, a2, a3, a4, a5⟩ | ⟨a1, a2, a3, a4, a5⟩
  · rw [if_neg (by rw [eq_nI (by omega) (by omega)]; omega), if_neg (by omega)]
  · rw [if_neg (by rw [eq_nI (by omega) (by omega)]; omega), if_neg (by omega)]
  · rw [if_neg (by rw [eq_nI (by omega) (by omega)]; omega), if_neg (by omega)]
  · have e15 := h15 a1
    rw [a4] at e15
    have hb := (hX.2.2 s a1).1
    by_cases q : bt s = c
    · have t : tkR bt n s = 4 ∧ kC bt n s = d := by omega
      rw [t.1, if_pos rfl, e15, q, if_pos rfl, if_pos t.2]
    · have t : ¬ kC bt n s = d := by omega
      rw [if_neg t]
      by_cases r : tkR bt n s = 4
      · rw [r, if_pos rfl, e15, if_neg (by rw [eq_nI (by omega) (by omega)]; exact q)]
      · rw [if_neg (by rw [eq_nI (by omega) (by omega)]; exact r)]
theorem isName_n {σ : St} {s : Nat} (h : TkM σ bt n s) : Mo_isName σ = some (if kC bt n s = 3 then 1 else 0) := by
  have hw := inW h
  obtain ⟨hX, hs, h12, h13, h14, h15⟩ := h
  have hn := hX.1
  have hlt := (kC_lt bt n s).2
  unfold Mo_isName
  rw [h12, show (2 : Int32) = nI 2 from rfl]
  rcases tk_cases bt n s with ⟨a1, a2, a3⟩ | ⟨a1, a2, a3, a4, a5⟩ | ⟨a1, a2, a3, a4, a5⟩ | ⟨a1, a2, a3, a4, a5⟩
  · rw [if_neg (by rw [eq_nI (by omega) (by omega)]; omega), if_neg (by omega)]
  · obtain ⟨b1, b2⟩ := scan_in (p := ltr bt) hs
    rw [a3, if_pos rfl, h14, h13, a4, sub_nI b1, show (8 : Int32) = nI 8 from rfl, hw, bd_s]
    rcases a5 with ⟨w, k⟩ | ⟨w, c, k⟩ | ⟨w, c, k⟩
    · have w8 := wix_8 w
      rw [if_neg (by rw [lt_nI (by omega) (by omega)]; omega), if_neg (show ¬ (if 10 ≤ kC bt n s then nI (kC bt n s - 10) else -1) = -1 by rw [if_pos (by omega)]; exact nI_m1 (by omega)), if_neg (by omega)]
    · rw [if_neg (by rw [lt_nI (by omega) (by omega)]; omega), if_pos (show (if 10 ≤ kC bt n s then nI (kC bt n s - 10) else -1) = -1 by rw [if_neg (by omega)]), if_pos k]
    · rw [if_pos (by rw [lt_nI (by omega) (by omega)]; omega), if_neg (by omega)]
  · rw [if_neg (by rw [eq_nI (by omega) (by omega)]; omega), if_neg (by omega)]
  · rw [if_neg (by rw [eq_nI (by omega) (by omega)]; omega), if_neg (by omega)]
theorem cv_n (s : Nat) : ∀ k, k ≤ 4 → (∀ j, j < k → 48 ≤ bt (s + j) ∧ bt (s + j) ≤ 57) → nv bt s k = lN (cvN bt s k) ∧ cvN bt s k < 10 ^ k
  | 0, _, _ => ⟨rfl, by show 0 < 1; omega⟩
  | k + 1, hk, h => by
    obtain ⟨i1, i2⟩ := cv_n s k (by omega) (fun j hj => h j (by omega))
    obtain ⟨g1, g2⟩ := h k (by omega)
    have p : 10 ^ (k + 1) = 10 * 10 ^ k := by rw [Nat.pow_succ, Nat.mul_comm]
    have pm : 10 ^ (k + 1) ≤ 10 ^ 4 := Nat.pow_le_pow_right (by decide) hk
    have pe : (10 : Nat) ^ 4 = 10000 := rfl
    have e : cvN bt s (k + 1) = 10 * cvN bt s k + (bt (s + k) - 48) := by
      show min 100000 (10 * cvN bt s k + (bt (s + k) - 48)) = _
      omega
    refine ⟨?_, by omega⟩
    show nv bt s k * 10 + (nI (bt (s + k))).toInt64 - 48 = _
    rw [i1, nI_l (by omega), show (10 : Int64) = lN 10 from rfl, show (48 : Int64) = lN 48 from rfl, lN_mul, lN_add, lN_sub (by omega), e]
    congr 1; omega
theorem num_n {σ : St} {s : Nat} (h : TkM σ bt n s) (hk : kC bt n s = 2) : ∃ v, v ≤ 9999 ∧ σ.1 92 15 = nI v ∧ vC bt n s = lN v := by
  obtain ⟨hX, hs, h12, h13, h14, h15⟩ := h
  rcases tk_cases bt n s with ⟨a1, a2, a3⟩ | ⟨a1, a2, a3, a4, a5⟩ | ⟨a1, a2, a3, a4, a5⟩ | ⟨a1, a2, a3, a4, a5⟩
  · omega
  · omega
  · have c4 : scan (dgt bt) n s - s ≤ 4 := by omega
    obtain ⟨b1, b2, b3, b4⟩ := scan_b (p := dgt bt) (n := n) (n - s) s (Nat.le_refl _) hs
    have q := cv_n (bt := bt) s (scan (dgt bt) n s - s) c4 (fun j hj => by have := b4 (s + j) (by omega) (by omega); unfold dgt at this; simpa using this)
    have pm : 10 ^ (scan (dgt bt) n s - s) ≤ 10 ^ 4 := Nat.pow_le_pow_right (by decide) c4
    have pe : (10 : Nat) ^ 4 = 10000 := rfl
    refine ⟨cvN bt s (scan (dgt bt) n s - s), by omega, by rw [h15 a1, a4], ?_⟩
    unfold vC
    rw [if_pos a1, if_neg (by rw [a2]; decide), if_pos a3]; exact q.1
  · omega
end TKM
