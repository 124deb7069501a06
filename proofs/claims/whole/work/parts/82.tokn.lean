/-! names: base 32 against base 256 -/
def GG : Nat → Nat → Nat
  | 0, _ => 0
  | f + 1, n => if n = 0 then 0 else GG f (n / 32) * 256 + (n % 32 + 96)
theorem g8_G (n : Nat) : g8 n = GG 9 n := rfl
theorem GG_st : ∀ f n, n < 32 ^ f → GG (f + 1) n = GG f n
  | 0, n, h => by
    have : n = 0 := by simpa using h
    subst this; rfl
  | f + 1, n, h => by
    by_cases c : n = 0
    · show (if n = 0 then 0 else GG (f + 1) (n / 32) * 256 + (n % 32 + 96)) = (if n = 0 then 0 else GG f (n / 32) * 256 + (n % 32 + 96))
      rw [if_pos c, if_pos c]
    · show (if n = 0 then 0 else GG (f + 1) (n / 32) * 256 + (n % 32 + 96)) = (if n = 0 then 0 else GG f (n / 32) * 256 + (n % 32 + 96))
      rw [GG_st f (n / 32) (by rw [Nat.pow_succ] at h; omega)]
theorem g8_step {w d : Nat} (hw : w < 32 ^ 8) (h1 : 1 ≤ d) (h2 : d < 32) : g8 (w * 32 + d) = g8 w * 256 + (d + 96) := by
  rw [g8_G, g8_G, GG_st 8 w hw]
  show (if w * 32 + d = 0 then 0 else GG 8 ((w * 32 + d) / 32) * 256 + ((w * 32 + d) % 32 + 96)) = _
  rw [if_neg (by omega), show (w * 32 + d) / 32 = w by omega, show (w * 32 + d) % 32 = d by omega]
theorem GG_inj : ∀ f a b, a < 32 ^ f → b < 32 ^ f → GG f a = GG f b → a = b
  | 0, a, b, ha, hb, _ => by
    have : a = 0 := by simpa using ha
    have : b = 0 := by simpa using hb
    omega
  | f + 1, a, b, ha, hb, h => by
    rw [Nat.pow_succ] at ha hb
    have h : (if a = 0 then 0 else GG f (a / 32) * 256 + (a % 32 + 96)) = (if b = 0 then 0 else GG f (b / 32) * 256 + (b % 32 + 96)) := h
    by_cases c : a = 0
    · rw [if_pos c] at h
      by_cases d : b = 0
      · omega
      · rw [if_neg d] at h; omega
    · rw [if_neg c] at h
      by_cases d : b = 0
      · rw [if_pos d] at h; omega
      · rw [if_neg d] at h
        have e : GG f (a / 32) = GG f (b / 32) := by omega
        have := GG_inj f _ _ (by omega) (by omega) e
        omega
theorem GG_lt : ∀ f n, n < 32 ^ (f + 1) → GG (f + 1) n < 128 * 256 ^ f
  | 0, n, h => by
    show (if n = 0 then 0 else 0 * 256 + (n % 32 + 96)) < 128 * 1
    by_cases c : n = 0
    · rw [if_pos c]; omega
    · rw [if_neg c]; omega
  | f + 1, n, h => by
    have ih := GG_lt f (n / 32) (by rw [Nat.pow_succ] at h; omega)
    show (if n = 0 then 0 else GG (f + 1) (n / 32) * 256 + (n % 32 + 96)) < 128 * 256 ^ (f + 1)
    rw [Nat.pow_succ]
    generalize GG (f + 1) (n / 32) = g at ih ⊢
    generalize (256 : Nat) ^ f = X at ih ⊢
    by_cases c : n = 0
    · rw [if_pos c]; omega
    · rw [if_neg c]; omega
theorem p328 : (32 : Nat) ^ 8 = 1099511627776 := by decide
theorem g8_lt {n : Nat} (h : n < 1099511627776) : g8 n < 2 ^ 63 := by
  rw [← p328] at h
  rw [g8_G, GG_st 8 n h]
  exact GG_lt 7 n h
theorem g8_inj {a b : Nat} (ha : a < 1099511627776) (hb : b < 1099511627776) : lN (g8 a) = lN (g8 b) ↔ a = b := by
  rw [fb_lN_inj (g8_lt ha) (g8_lt hb)]
  refine ⟨fun h => ?_, fun h => by rw [h]⟩
  rw [← p328] at ha hb
  rw [g8_G, g8_G, GG_st 8 a ha, GG_st 8 b hb] at h
  exact GG_inj 8 a b ha hb h
section NMS
variable {n : Nat} {bt : Nat → Nat}
def wN (bt : Nat → Nat) (s : Nat) : Nat → Nat
  | 0 => 0
  | k + 1 => wN bt s k * 32 + (bt (s + k) - 96)
theorem wN_n (s : Nat) : ∀ k, (∀ j, j < k → 97 ≤ bt (s + j) ∧ bt (s + j) ≤ 122) → wv bt s k = lN (wN bt s k) ∧ wN bt s k < 32 ^ k
  | 0, _ => ⟨rfl, by show 0 < 1; omega⟩
  | k + 1, h => by
    obtain ⟨i1, i2⟩ := wN_n s k (fun j hj => h j (by omega))
    obtain ⟨g1, g2⟩ := h k (by omega)
    refine ⟨?_, ?_⟩
    · show wv bt s k * 32 + (nI (bt (s + k))).toInt64 - 97 + 1 = lN (wN bt s k * 32 + (bt (s + k) - 96))
      rw [i1, nI_l (by omega), show (32 : Int64) = lN 32 from rfl, show (97 : Int64) = lN 97 from rfl, show (1 : Int64) = lN 1 from rfl, lN_mul, lN_add, lN_sub (by omega), lN_add]
      congr 1; omega
    · show wN bt s k * 32 + (bt (s + k) - 96) < 32 ^ (k + 1)
      rw [Nat.pow_succ]; omega
theorem name_n {σ : St} {s : Nat} (h : TkM σ bt n s) (hk : kC bt n s = 3) : ∃ w, w < 1099511627776 ∧ vC bt n s = lN w ∧ Mo_nameHere σ = some (lN (g8 w)) := by
  obtain ⟨hX, hs, h12, h13, h14, h15⟩ := h
  have hn := hX.1
  rcases tk_cases bt n s with ⟨a1, a2, a3⟩ | ⟨a1, a2, a3, a4, a5⟩ | ⟨a1, a2, a3, a4, a5⟩ | ⟨a1, a2, a3, a4, a5⟩
  · omega
  · have c8 : scan (ltr bt) n s - s ≤ 8 := by omega
    clear a5
    obtain ⟨b1, b2, b3, b4⟩ := scan_b (p := ltr bt) (n := n) (n - s) s (Nat.le_refl _) hs
    have hl : ∀ j, j < scan (ltr bt) n s - s → 97 ≤ bt (s + j) ∧ bt (s + j) ≤ 122 := fun j hj => by
      have := b4 (s + j) (by omega) (by omega)
      unfold ltr at this
      simpa using this
    rw [a4] at h14
    obtain ⟨e, he⟩ : ∃ e, e = scan (ltr bt) n s := ⟨_, rfl⟩
    rw [← he] at c8 b1 b2 hl h14
    have q := wN_n (bt := bt) s (e - s) hl
    have pm : 32 ^ (e - s) ≤ 32 ^ 8 := Nat.pow_le_pow_right (by decide) c8
    rw [p328] at pm
    refine ⟨wN bt s (e - s), by omega, ?_, ?_⟩
    · unfold vC
      rw [if_pos a1, if_pos a2, ← he]; exact q.1
    · unfold Mo_nameHere
      rw [h13, bnd_x]
      have key := iter_for (body := fun u : (Int64 × Int32) => Mo_nameHere_L7 σ u.1 u.2) (fun k => (lN (g8 (wN bt s (k - s))), nI k)) (lo := s) (hi := e) (e := lN (g8 (wN bt s (e - s)))) b1 (fuel (n := e - s) (by omega)) (fun k k1 k2 => ?_) ?_
      · rw [show (0 : Int64) = lN (g8 (wN bt s (s - s))) by rw [Nat.sub_self]; rfl, key, bd_s]
      · show Mo_nameHere_L7 σ (lN (g8 (wN bt s (k - s)))) (nI k) = some (.inl (lN (g8 (wN bt s (k + 1 - s))), nI (k + 1)))
        obtain ⟨j, rfl⟩ : ∃ j, k = s + j := ⟨k - s, by omega⟩
        obtain ⟨g1, g2⟩ := hl j (by omega)
        have hb := byteAt_n hX (k := s + j) (by omega)
        rw [if_pos (show s + j < n by omega)] at hb
        have w1 := (wN_n (bt := bt) s j (fun i hi => hl i (by omega))).2
        have pj : 32 ^ j ≤ 32 ^ 8 := Nat.pow_le_pow_right (by decide) (by omega)
        have hst := g8_step (w := wN bt s j) (d := bt (s + j) - 96) (Nat.lt_of_lt_of_le w1 pj) (by omega) (by omega)
        unfold Mo_nameHere_L7
        rw [h14, if_neg (by rw [le_nI (by omega) (by omega)]; omega), hb, bd_s, show s + j - s = j by omega, show s + j + 1 - s = j + 1 by omega, show (8 : Int32) = nI 8 from rfl, wb_shl _ (by omega), nI_l (by omega), Nat.mul_comm, fb_or_sumL _ (show bt (s + j) < 2 ^ 8 by omega), bnd_x, nI_1, bnd_x]
        show _ = some (Sum.inl (lN (g8 (wN bt s j * 32 + (bt (s + j) - 96))), nI (s + j + 1)))
        rw [hst, Nat.mul_comm (2 ^ 8), show bt (s + j) - 96 + 96 = bt (s + j) by omega]
      · show Mo_nameHere_L7 σ (lN (g8 (wN bt s (e - s)))) (nI e) = _
        unfold Mo_nameHere_L7
        rw [h14, if_pos (by rw [le_nI (by omega) (by omega)]; omega)]
  · omega
  · omega
end NMS
