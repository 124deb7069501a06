/-! the tokens of a text -/
section TKS
variable {n : Nat} {bt : Nat → Nat}
theorem scan_lt {p : Nat → Bool} {i : Nat} (h : i < n) (hp : p i = true) : i < scan p n i ∧ scan p n i ≤ n := by
  rw [scan_go h hp]
  obtain ⟨b1, b2, _, _⟩ := scan_b (p := p) (n := n) (n - (i + 1)) (i + 1) (Nat.le_refl _) (by omega)
  exact ⟨by omega, b2⟩
theorem scan_in {p : Nat → Bool} {i : Nat} (hi : i ≤ n) : i ≤ scan p n i ∧ scan p n i ≤ n := by
  obtain ⟨b1, b2, _, _⟩ := scan_b (p := p) (n := n) (n - i) i (Nat.le_refl _) hi
  exact ⟨b1, b2⟩
theorem tkE_b {s : Nat} (hs : s < n) : s < tkE bt n s ∧ tkE bt n s ≤ n := by
  unfold tkE
  rw [if_pos hs]
  by_cases l : ltr bt s = true
  · rw [if_pos l]; exact scan_lt hs l
  · rw [if_neg l]
    by_cases d : dgt bt s = true
    · rw [if_pos d]; exact scan_lt hs d
    · rw [if_neg d]; omega
theorem tkE_n : tkE bt n n = n := by unfold tkE; rw [if_neg (Nat.lt_irrefl _)]
theorem tkE_le {s : Nat} (hs : s ≤ n) : tkE bt n s ≤ n := by
  rcases Nat.lt_or_eq_of_le hs with c | c
  · exact (tkE_b c).2
  · rw [c, tkE_n]; exact Nat.le_refl _
def ts (bt : Nat → Nat) (n : Nat) : Nat → Nat
  | 0 => scan (blk bt) n 0
  | k + 1 => scan (blk bt) n (tkE bt n (ts bt n k))
theorem ts_le : ∀ k, ts bt n k ≤ n
  | 0 => (scan_in (Nat.zero_le _)).2
  | k + 1 => (scan_in (tkE_le (ts_le k))).2
theorem ts_ge : ∀ k, ts bt n k < n → k ≤ ts bt n k
  | 0, _ => Nat.zero_le _
  | k + 1, h => by
    have e : ts bt n (k + 1) = scan (blk bt) n (tkE bt n (ts bt n k)) := rfl
    have b := (scan_in (p := blk bt) (n := n) (tkE_le (bt := bt) (ts_le (bt := bt) k))).1
    rcases Nat.lt_or_eq_of_le (ts_le (bt := bt) (n := n) k) with c | c
    · have := ts_ge k c
      have := (tkE_b (bt := bt) c).1
      omega
    · rw [c, tkE_n] at b
      rw [e, c, tkE_n] at h
      omega
def nT (bt : Nat → Nat) (n : Nat) : Nat := scan (fun k => decide (ts bt n k < n)) n 0
theorem nT_p : nT bt n ≤ n ∧ ts bt n (nT bt n) = n ∧ ∀ j, j < nT bt n → ts bt n j < n := by
  obtain ⟨b1, b2, b3, b4⟩ := scan_b (p := fun k => decide (ts bt n k < n)) (n := n) n 0 (by omega) (by omega)
  refine ⟨b2, ?_, fun j hj => by have := b4 j (by omega) hj; simpa using this⟩
  have hl := ts_le (bt := bt) (n := n) (nT bt n)
  by_cases c : ts bt n (nT bt n) < n
  · have hg := ts_ge (bt := bt) (n := n) (nT bt n) c
    exact absurd ⟨by show nT bt n < n; omega, by show decide (ts bt n (nT bt n) < n) = true; simpa using c⟩ b3
  · omega
def kC (bt : Nat → Nat) (n s : Nat) : Nat := if s < n then (if ltr bt s = true then (if wix bt s (scan (ltr bt) n s) < 16 then 10 + wix bt s (scan (ltr bt) n s) else if scan (ltr bt) n s - s ≤ 8 then 3 else 4) else if dgt bt s = true then (if scan (dgt bt) n s - s ≤ 4 then 2 else 1) else if bt s = 59 then 5 else if bt s = 60 then 6 else if bt s = 61 then 8 else if bt s = 62 then 7 else 1) else 0
def vC (bt : Nat → Nat) (n s : Nat) : Int64 := if s < n then (if ltr bt s = true then wv bt s (scan (ltr bt) n s - s) else if dgt bt s = true then nv bt s (scan (dgt bt) n s - s) else 0) else 0
theorem signC {x : Int32} (h : vp_nar .byte x = x) : Re_signOf x = some (nI (if ub x = 59 then 5 else if ub x = 60 then 6 else if ub x = 61 then 8 else if ub x = 62 then 7 else 1)) := by
  unfold Re_signOf
  have e := fun c (hc : c < 128) => ub_eq h (c := c) hc
  rw [show (59 : Int32) = nI 59 from rfl, show (60 : Int32) = nI 60 from rfl, show (61 : Int32) = nI 61 from rfl, show (62 : Int32) = nI 62 from rfl]
  by_cases c1 : ub x = 59
  · rw [if_pos c1, if_pos ((e 59 (by omega)).mpr c1)]; rfl
  · rw [if_neg c1, if_neg (fun q => c1 ((e 59 (by omega)).mp q))]
    by_cases c2 : ub x = 60
    · rw [if_pos c2, if_pos ((e 60 (by omega)).mpr c2)]; rfl
    · rw [if_neg c2, if_neg (fun q => c2 ((e 60 (by omega)).mp q))]
      by_cases c3 : ub x = 61
      · rw [if_pos c3, if_pos ((e 61 (by omega)).mpr c3)]; rfl
      · rw [if_neg c3, if_neg (fun q => c3 ((e 61 (by omega)).mp q))]
        by_cases c4 : ub x = 62
        · rw [if_pos c4, if_pos ((e 62 (by omega)).mpr c4)]; rfl
        · rw [if_neg c4, if_neg (fun q => c4 ((e 62 (by omega)).mp q))]; rfl
theorem keepC {σ : St} {j : Nat} (h : σ.1 2 6 = nI j) (hj : j ≤ 900) (a b : Int32) (v : Int64) : Re_keep σ a b v = some (wI (wL (wI (wI σ 4 j a) 5 j b) 6 j v) 2 6 (nI (j + 1))) := by
  have e1 : (wI σ 4 j a).1 2 6 = nI j := (wI_ne (by omega)).trans h
  have e2 : (wI (wI σ 4 j a) 5 j b).1 2 6 = nI j := (wI_ne (by omega)).trans e1
  have e3 : (wL (wI (wI σ 4 j a) 5 j b) 6 j v).1 2 6 = nI j := e2
  unfold Re_keep
  rw [h, show (900 : Int32) = nI 900 from rfl, if_neg (by rw [lt_nI (by omega) (by omega)]; omega), ix_nI (by omega) (by omega), chk_true, tn_nI (by omega), bnd_x, e1, ix_nI (by omega) (by omega), chk_true, tn_nI (by omega), bnd_x, e2, ix_nI (by omega) (by omega), chk_true, tn_nI (by omega), bnd_x, e3, nI_1, bnd_x]
theorem TxC.k {σ σ2 : St} (h : TxC σ n bt) {A : Nat → Nat → Prop} (F : Fp A σ σ2) (hA : ¬ A 2 2 ∧ ∀ i, ¬ A 3 i) : TxC σ2 n bt := ⟨h.1, (F.i hA.1).trans h.2.1, fun k hk => by rw [F.i (hA.2 k)]; exact h.2.2 k hk⟩
theorem bdk {σ : St} {a b : Int32} {v : Int64} {e : Int32} : bd2 (bd (Re_keep σ a b v) (fun τ => some (e, τ))) (fun r τ => some (r, τ)) = bd (Re_keep σ a b v) (fun τ => some (e, τ)) := by
  generalize Re_keep σ a b v = o
  cases o <;> rfl
theorem findWC {σ : St} (h : TxC σ n bt) {s : Nat} (hs : s < n) (l : ltr bt s = true) : Re_findWord σ (nI s) = bd (Re_keep σ (nI (kC bt n s)) (nI s) (vC bt n s)) (fun τ => some (nI (tkE bt n s), τ)) := by
  have hn := h.1
  obtain ⟨b1, b2, b3, b4⟩ := scan_b (p := ltr bt) (n := n) (n - s) s (Nat.le_refl _) (by omega)
  unfold Re_findWord kC vC tkE
  rw [if_pos hs, if_pos hs, if_pos hs, if_pos l, if_pos l, if_pos l, wordC h (by omega), bd2_s]
  unfold Re_findWord_J50
  rw [sub_nI b1, show (8 : Int32) = nI 8 from rfl]
  by_cases c8 : scan (ltr bt) n s - s ≤ 8
  · rw [if_pos (by rw [le_nI (by omega) (by omega)]; omega), sortC h b1 b2 c8 b4, bd_s]
    by_cases w : wix bt s (scan (ltr bt) n s) < 16
    · rw [if_pos w, if_pos w]
    · rw [if_neg w, if_neg w, if_pos c8]
  · have w : ¬ wix bt s (scan (ltr bt) n s) < 16 := fun w => c8 (wix_8 w)
    rw [if_neg (by rw [le_nI (by omega) (by omega)]; omega), if_neg w, if_neg c8]; rfl
theorem findNC {σ : St} (h : TxC σ n bt) {s : Nat} (hs : s < n) (l : ¬ ltr bt s = true) (d : dgt bt s = true) : Re_findNumber σ (nI s) = bd (Re_keep σ (nI (kC bt n s)) (nI s) (vC bt n s)) (fun τ => some (nI (tkE bt n s), τ)) := by
  have hn := h.1
  obtain ⟨b1, b2, b3, b4⟩ := scan_b (p := dgt bt) (n := n) (n - s) s (Nat.le_refl _) (by omega)
  unfold Re_findNumber kC vC tkE
  rw [if_pos hs, if_pos hs, if_pos hs, if_neg l, if_neg l, if_neg l, if_pos d, if_pos d, if_pos d, numC h (by omega), bd2_s]
  unfold Re_findNumber_J48
  rw [sub_nI b1]
  by_cases c4 : scan (dgt bt) n s - s ≤ 4
  · rw [if_pos (show nI (scan (dgt bt) n s - s) ≤ 4 by rw [show (4 : Int32) = nI 4 from rfl, le_nI (by omega) (by omega)]; exact c4), if_pos c4]; rfl
  · rw [if_neg (show ¬ nI (scan (dgt bt) n s - s) ≤ 4 by rw [show (4 : Int32) = nI 4 from rfl, le_nI (by omega) (by omega)]; exact c4), if_neg c4]; rfl
theorem findC {σ : St} (h : TxC σ n bt) {s : Nat} (hs : s < n) : Re_findToken σ (nI s) = bd (Re_keep σ (nI (kC bt n s)) (nI s) (vC bt n s)) (fun τ => some (nI (tkE bt n s), τ)) := by
  have hn := h.1
  obtain ⟨y1, y2⟩ := h.2.2 s hs
  have hl := letter_c y1
  have hd := digit_c y1
  have hg := signC y1
  rw [y2] at hl hd hg
  by_cases l : ltr bt s = true
  · have l' : 97 ≤ bt s ∧ bt s ≤ 122 := by unfold ltr at l; simpa using l
    unfold Re_findToken
    rw [ix_nI (by omega) (by omega), chk_true, tn_nI (by omega), hl, bd_s, if_pos l', if_neg (by decide), findWC h hs l, bdk]
  · have l' : ¬ (97 ≤ bt s ∧ bt s ≤ 122) := fun e => l (by unfold ltr; simpa using e)
    by_cases d : dgt bt s = true
    · have d' : 48 ≤ bt s ∧ bt s ≤ 57 := by unfold dgt at d; simpa using d
      unfold Re_findToken
      rw [ix_nI (by omega) (by omega), chk_true, tn_nI (by omega), hl, bd_s, if_neg l', if_pos rfl, chk_true, hd, bd_s, if_pos d', if_neg (by decide), findNC h hs l d, bdk]
    · have d' : ¬ (48 ≤ bt s ∧ bt s ≤ 57) := fun e => d (by unfold dgt; simpa using e)
      unfold Re_findToken
      rw [ix_nI (by omega) (by omega), chk_true, tn_nI (by omega), hl, bd_s, if_neg l', if_pos rfl, chk_true, hd, bd_s, if_neg d', if_pos rfl, chk_true, hg, bd_s, nI_1]
      unfold kC vC tkE
      rw [if_pos hs, if_pos hs, if_pos hs, if_neg l, if_neg l, if_neg l, if_neg d, if_neg d, if_neg d]
end TKS
