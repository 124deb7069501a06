/-! kept words: the class's rows of 8, the reference's words parted by blanks -/
def kwP (i : Nat) : Nat := [1, 6, 12, 17, 20, 24, 27, 33, 39, 43, 48, 56, 63, 68, 73, 77, 82].getD i 0
def kwL (i : Nat) : Nat := [4, 5, 4, 2, 3, 2, 5, 5, 3, 4, 7, 6, 4, 4, 3, 4].getD i 0
def kwB (i x : Nat) : Nat := (txC 1 (kwP i + x)).toUInt32.toNat
theorem txn0 : txn 0 = 128 := by decide +kernel
theorem txn1 : txn 1 = 82 := by decide +kernel
theorem kw_B : ∀ i, i < 16 → ∀ x, x < kwL i → txC 1 (kwP i + x) = nI (kwB i x) ∧ 97 ≤ kwB i x ∧ kwB i x ≤ 122 := by decide +kernel
theorem kw_T : ∀ i, i < 16 → ∀ x, x < 8 → txC 0 (i * 8 + x) = nI (if x < kwL i then kwB i x else 32) := by decide +kernel
theorem kw_Q : ∀ i, i < 16 → txC 1 (kwP i + kwL i) = 32 := by decide +kernel
theorem kw_L : ∀ i, i < 16 → 1 ≤ kwL i ∧ kwL i ≤ 8 ∧ kwP i + kwL i + 1 = kwP (i + 1) ∧ kwP i + kwL i < 82 := by decide +kernel
theorem kw_16 : kwP 16 = 82 := rfl
theorem kw_0 : kwP 0 = 1 := rfl
def mt (bt : Nat → Nat) (s e i : Nat) : Bool := decide (kwL i = e - s ∧ ∀ x, x < kwL i → kwB i x = bt (s + x))
def wix (bt : Nat → Nat) (s e : Nat) : Nat := scan (fun i => !mt bt s e i) 16 0
theorem mt_iff {bt : Nat → Nat} {s e i : Nat} (hi : i < 16) (hs : s ≤ e) (h8 : e - s ≤ 8) (hl : ∀ j, s ≤ j → j < e → ltr bt j = true) : (∀ y, y < 8 → (if y < kwL i then kwB i y else 32) = (if s + y < e then bt (s + y) else 32)) ↔ mt bt s e i = true := by
  obtain ⟨l1, l8, _, _⟩ := kw_L i hi
  unfold mt
  rw [decide_eq_true_iff]
  refine ⟨fun h => ?_, fun h y hy => ?_⟩
  · have hL : kwL i = e - s := by
      rcases Nat.lt_trichotomy (kwL i) (e - s) with c | c | c
      · have q := h (kwL i) (by omega)
        rw [if_neg (Nat.lt_irrefl _), if_pos (by omega)] at q
        have := hl (s + kwL i) (by omega) (by omega)
        unfold ltr at this
        have t : 97 ≤ bt (s + kwL i) ∧ bt (s + kwL i) ≤ 122 := by simpa using this
        omega
      · exact c
      · have q := h (e - s) (by omega)
        rw [if_pos c, if_neg (by omega)] at q
        have := (kw_B i hi (e - s) c).2
        omega
    refine ⟨hL, fun x hx => ?_⟩
    have q := h x (by omega)
    rw [if_pos hx, if_pos (by omega)] at q
    exact q
  · by_cases c : y < kwL i
    · rw [if_pos c, if_pos (by omega)]; exact h.2 y c
    · rw [if_neg c, if_neg (by omega)]
theorem wix_le (bt : Nat → Nat) (s e : Nat) : wix bt s e ≤ 16 := (scan_b (p := fun i => !mt bt s e i) (n := 16) 16 0 (by omega) (by omega)).2.1
theorem wix_8 {bt : Nat → Nat} {s e : Nat} (h : wix bt s e < 16) : e - s ≤ 8 := by
  have q := (scan_b (p := fun i => !mt bt s e i) (n := 16) 16 0 (by omega) (by omega)).2.2.1
  have w : mt bt s e (wix bt s e) = true := by
    cases c : mt bt s e (wix bt s e) with
    | true => rfl
    | false => exact absurd ⟨h, by show (!mt bt s e (wix bt s e)) = true; rw [c]; rfl⟩ q
  unfold mt at w
  rw [decide_eq_true_iff] at w
  have := kw_L _ h
  omega
theorem keptC {σ : St} {n : Nat} {bt : Nat → Nat} (h : TxC σ n bt) {i s e : Nat} (hi : i < 16) (hs : s ≤ e) (he : e ≤ n) (h8 : e - s ≤ 8) (hl : ∀ j, s ≤ j → j < e → ltr bt j = true) : Re_isKeptWord σ (nI (i * 8)) (nI s) (nI e) = some (if mt bt s e i = true then 1 else 0) := by
  obtain ⟨h1, h2, h3⟩ := h
  have key := iter_ix (body := fun u : Int32 => Re_isKeptWord_L3 (nI (i * 8)) (nI s) (nI e) σ u) (fun m u => ∃ x, m = 8 - x ∧ x ≤ 8 ∧ u = nI x ∧ ∀ y, y < x → (if y < kwL i then kwB i y else 32) = (if s + y < e then bt (s + y) else 32)) (fun r => r = if mt bt s e i = true then 1 else 0) ?_ FUEL 8 (nI 0) ⟨0, rfl, by omega, rfl, fun y hy => absurd hy (Nat.not_lt_zero _)⟩ (fuel (by omega))
  · obtain ⟨r, b1, b2⟩ := key
    unfold Re_isKeptWord
    rw [show (0 : Int32) = nI 0 from rfl, b1, b2]; rfl
  · rintro m _ ⟨x, rfl, hx, rfl, hq⟩
    by_cases z : x = 8
    · right
      refine ⟨1, ?_, ?_⟩
      · show Re_isKeptWord_L3 (nI (i * 8)) (nI s) (nI e) σ (nI x) = _
        unfold Re_isKeptWord_L3
        rw [show (8 : Int32) = nI 8 from rfl, if_pos (by rw [le_nI (by omega) (by omega)]; omega)]
      · rw [if_pos ((mt_iff hi hs h8 hl).mp (fun y hy => hq y (by omega)))]
    · have hx8 : x < 8 := by omega
      have hpre : Re_isKeptWord_L3 (nI (i * 8)) (nI s) (nI e) σ (nI x) = Re_isKeptWord_J44_3 σ (nI (i * 8)) (nI s) (nI e) (nI x) (nI (if s + x < e then bt (s + x) else 32)) := by
        unfold Re_isKeptWord_L3
        rw [show (8 : Int32) = nI 8 from rfl, if_neg (by rw [le_nI (by omega) (by omega)]; omega), txn0, nI_add, show (Int32.ofNat 128) = nI 128 from rfl, if_neg (by rw [le_nI (by omega) (by omega)]; omega), nI_add]
        by_cases c : s + x < e
        · obtain ⟨y1, y2⟩ := h3 (s + x) (by omega)
          have := hl (s + x) (by omega) c
          unfold ltr at this
          have t : 97 ≤ bt (s + x) ∧ bt (s + x) ≤ 122 := by simpa using this
          have ex : σ.1 3 (s + x) = nI (bt (s + x)) := by rw [← y2]; exact ub_x y1 (by omega)
          rw [if_neg (by rw [le_nI (by omega) (by omega)]; omega), ix_nI (by omega) (by omega), chk_true, tn_nI (by omega), ex, if_pos c]
        · rw [if_pos (by rw [le_nI (by omega) (by omega)]; omega), if_neg c]; rfl
      have hb : (if s + x < e then bt (s + x) else 32) < 2147483648 := by
        by_cases c : s + x < e
        · have := hl (s + x) (by omega) c
          unfold ltr at this
          have t : 97 ≤ bt (s + x) ∧ bt (s + x) ≤ 122 := by simpa using this
          rw [if_pos c]; omega
        · rw [if_neg c]; omega
      have ht : (if x < kwL i then kwB i x else 32) < 2147483648 := by
        by_cases c : x < kwL i
        · have := (kw_B i hi x c).2
          rw [if_pos c]; omega
        · rw [if_neg c]; omega
      have hpre2 : Re_isKeptWord_L3 (nI (i * 8)) (nI s) (nI e) σ (nI x) = if (if x < kwL i then kwB i x else 32) = (if s + x < e then bt (s + x) else 32) then some (.inl (nI (x + 1))) else some (.inr 0) := by
        rw [hpre]
        unfold Re_isKeptWord_J44_3
        rw [nI_add, txn0, ix_nI (by omega) (by omega), chk_true, tn_nI (by omega), kw_T i hi x hx8, nI_1, bnd_x]
        by_cases c : (if x < kwL i then kwB i x else 32) = (if s + x < e then bt (s + x) else 32)
        · rw [if_pos c, if_pos (by rw [c])]
        · rw [if_neg c, if_neg (by rw [eq_nI ht hb]; exact c)]
      by_cases c : (if x < kwL i then kwB i x else 32) = (if s + x < e then bt (s + x) else 32)
      · left
        refine ⟨nI (x + 1), 8 - (x + 1), ?_, ⟨x + 1, rfl, by omega, rfl, fun y hy => ?_⟩, by omega⟩
        · show Re_isKeptWord_L3 (nI (i * 8)) (nI s) (nI e) σ (nI x) = _
          rw [hpre2, if_pos c]
        · by_cases d : y = x
          · rw [d]; exact c
          · exact hq y (by omega)
      · right
        refine ⟨0, ?_, ?_⟩
        · show Re_isKeptWord_L3 (nI (i * 8)) (nI s) (nI e) σ (nI x) = _
          rw [hpre2, if_neg c]
        · rw [if_neg (fun q => c ((mt_iff hi hs h8 hl).mpr q x hx8))]
theorem sortC {σ : St} {n : Nat} {bt : Nat → Nat} (h : TxC σ n bt) {s e : Nat} (hs : s ≤ e) (he : e ≤ n) (h8 : e - s ≤ 8) (hl : ∀ j, s ≤ j → j < e → ltr bt j = true) : Re_wordSort σ (nI s) (nI e) = some (nI (if wix bt s e < 16 then 10 + wix bt s e else 3)) := by
  have key := iter_ix (body := fun u : Int32 => Re_wordSort_L12 (nI s) (nI e) (nI 16) σ u) (fun m u => ∃ j, m = 16 - j ∧ j ≤ 16 ∧ u = nI j ∧ scan (fun i => !mt bt s e i) 16 j = wix bt s e) (fun r => r = nI (if wix bt s e < 16 then 10 + wix bt s e else 3)) ?_ FUEL 16 (nI 0) ⟨0, rfl, by omega, rfl, rfl⟩ (fuel (by omega))
  · obtain ⟨r, b1, b2⟩ := key
    unfold Re_wordSort
    rw [txn0, show nzI 8 = true from rfl, chk_true, bnd_x, show (Int32.ofNat 128 / 8 : Int32) = nI 16 by decide, show (0 : Int32) = nI 0 from rfl, b1, b2]
  · rintro m _ ⟨j, rfl, hj, rfl, hq⟩
    by_cases z : j = 16
    · right
      refine ⟨3, ?_, ?_⟩
      · show Re_wordSort_L12 (nI s) (nI e) (nI 16) σ (nI j) = _
        unfold Re_wordSort_L12
        rw [if_pos (by rw [le_nI (by omega) (by omega)]; omega)]
      · have : wix bt s e = 16 := by rw [← hq, scan_no (by omega), z]
        rw [this]; rfl
    · have hk := keptC h (i := j) (by omega) hs he h8 hl
      have hpre : Re_wordSort_L12 (nI s) (nI e) (nI 16) σ (nI j) = if mt bt s e j = true then some (.inr (nI (10 + j))) else some (.inl (nI (j + 1))) := by
        unfold Re_wordSort_L12
        rw [if_neg (by rw [le_nI (by omega) (by omega)]; omega), show (8 : Int32) = nI 8 from rfl, pk_mul, hk, bd_s, nI_1, bnd_x, show (10 : Int32) = nI 10 from rfl, nI_add]
        by_cases c : mt bt s e j = true
        · rw [if_pos c, if_pos c, if_neg (by decide)]
        · rw [if_neg c, if_neg c, if_pos rfl]
      by_cases c : mt bt s e j = true
      · right
        refine ⟨nI (10 + j), ?_, ?_⟩
        · show Re_wordSort_L12 (nI s) (nI e) (nI 16) σ (nI j) = _
          rw [hpre, if_pos c]
        · have : wix bt s e = j := by rw [← hq]; exact scan_no (fun q => by have := q.2; rw [show (!mt bt s e j) = false by rw [c]; rfl] at this; cases this)
          rw [this, if_pos (by omega)]
      · left
        refine ⟨nI (j + 1), 16 - (j + 1), ?_, ⟨j + 1, rfl, by omega, rfl, ?_⟩, by omega⟩
        · show Re_wordSort_L12 (nI s) (nI e) (nI 16) σ (nI j) = _
          rw [hpre, if_neg c]
        · rw [← scan_go (p := fun i => !mt bt s e i) (by omega) (by show (!mt bt s e j) = true; cases d : mt bt s e j with | true => exact absurd d c | false => rfl)]; exact hq
