/-! the pure scanner -/
def scf (p : Nat → Bool) (n : Nat) : Nat → Nat → Nat
  | 0, i => i
  | f + 1, i => if i < n ∧ p i = true then scf p n f (i + 1) else i
def scan (p : Nat → Bool) (n i : Nat) : Nat := scf p n (n - i) i
theorem scan_go {p : Nat → Bool} {n i : Nat} (h : i < n) (hp : p i = true) : scan p n i = scan p n (i + 1) := by
  unfold scan
  obtain ⟨f, hf⟩ : ∃ f, n - i = f + 1 := ⟨n - i - 1, by omega⟩
  rw [hf, show n - (i + 1) = f by omega]
  show (if i < n ∧ p i = true then scf p n f (i + 1) else i) = _
  rw [if_pos ⟨h, hp⟩]
theorem scan_no {p : Nat → Bool} {n i : Nat} (h : ¬ (i < n ∧ p i = true)) : scan p n i = i := by
  unfold scan
  cases n - i with
  | zero => rfl
  | succ f =>
    show (if i < n ∧ p i = true then scf p n f (i + 1) else i) = i
    rw [if_neg h]
theorem scan_b {p : Nat → Bool} {n : Nat} : ∀ (f i : Nat), n - i ≤ f → i ≤ n → i ≤ scan p n i ∧ scan p n i ≤ n ∧ ¬ (scan p n i < n ∧ p (scan p n i) = true) ∧ ∀ j, i ≤ j → j < scan p n i → p j = true
  | 0, i, hf, hi => by
    have e : ¬ (i < n ∧ p i = true) := fun h => by omega
    rw [scan_no e]
    exact ⟨Nat.le_refl _, hi, e, fun j h1 h2 => by omega⟩
  | f + 1, i, hf, hi => by
    by_cases c : i < n ∧ p i = true
    · rw [scan_go c.1 c.2]
      obtain ⟨h1, h2, h3, h4⟩ := scan_b (p := p) (n := n) f (i + 1) (by omega) (by omega)
      refine ⟨by omega, h2, h3, fun j j1 j2 => ?_⟩
      by_cases e : j = i
      · rw [e]; exact c.2
      · exact h4 j (by omega) j2
    · rw [scan_no c]
      exact ⟨Nat.le_refl _, hi, c, fun j h1 h2 => by omega⟩
def blk (bt : Nat → Nat) (k : Nat) : Bool := decide (bt k = 32) || decide (bt k = 10)
def ltr (bt : Nat → Nat) (k : Nat) : Bool := decide (97 ≤ bt k) && decide (bt k ≤ 122)
def dgt (bt : Nat → Nat) (k : Nat) : Bool := decide (48 ≤ bt k) && decide (bt k ≤ 57)
theorem skipC {σ : St} {n : Nat} {bt : Nat → Nat} (h : TxC σ n bt) {i : Nat} (hi : i ≤ n) : Re_skipBlanks σ (nI i) = some (nI (scan (blk bt) n i)) := by
  obtain ⟨h1, h2, h3⟩ := h
  have key := iter_ix (body := fun s : Int32 => Re_skipBlanks_L2 σ s) (fun k u => ∃ j, k = n - j ∧ j ≤ n ∧ u = nI j ∧ scan (blk bt) n j = scan (blk bt) n i) (fun e => e = nI (scan (blk bt) n i)) ?_ FUEL (n - i) (nI i) ⟨i, rfl, hi, rfl, rfl⟩ (fuel (by omega))
  · obtain ⟨e, b1, b2⟩ := key
    unfold Re_skipBlanks
    rw [b1, bd_s, b2]
  · rintro k _ ⟨j, rfl, hj, rfl, hs⟩
    by_cases z : j < n
    · obtain ⟨y1, y2⟩ := h3 j z
      have q32 := ub_eq y1 (c := 32) (by omega)
      have q10 := ub_eq y1 (c := 10) (by omega)
      rw [y2] at q32 q10
      have hpre : Re_skipBlanks_L2 σ (nI j) = if bt j = 32 ∨ bt j = 10 then some (.inl (nI (j + 1))) else some (.inr (nI j)) := by
        unfold Re_skipBlanks_L2
        rw [h2, if_neg (by rw [le_nI (by omega) (by omega)]; omega), ix_nI (by omega) (by omega), chk_true, tn_nI (by omega), chk_true, nI_1, bnd_x]
        by_cases c : bt j = 32
        · rw [if_pos (show σ.1 3 j = 32 from q32.mpr c), if_pos (Or.inl c)]
        · rw [if_neg (show ¬ σ.1 3 j = 32 from fun e => c (q32.mp e))]
          by_cases d : bt j = 10
          · rw [if_pos (show σ.1 3 j = 10 from q10.mpr d), if_pos (Or.inr d)]
          · rw [if_neg (show ¬ σ.1 3 j = 10 from fun e => d (q10.mp e)), if_neg (fun e => e.elim c d)]
      by_cases c : bt j = 32 ∨ bt j = 10
      · left
        refine ⟨nI (j + 1), n - (j + 1), ?_, ⟨j + 1, rfl, by omega, rfl, ?_⟩, by omega⟩
        · show Re_skipBlanks_L2 σ (nI j) = _
          rw [hpre, if_pos c]
        · rw [← scan_go z (by unfold blk; simpa using c)]; exact hs
      · right
        refine ⟨nI j, ?_, ?_⟩
        · show Re_skipBlanks_L2 σ (nI j) = _
          rw [hpre, if_neg c]
        · rw [← hs, scan_no (fun e => c (by have := e.2; unfold blk at this; simpa using this))]
    · right
      refine ⟨nI j, ?_, ?_⟩
      · show Re_skipBlanks_L2 σ (nI j) = _
        unfold Re_skipBlanks_L2
        rw [h2, if_pos (by rw [le_nI (by omega) (by omega)]; omega)]
      · rw [← hs, scan_no (fun e => z e.1)]
