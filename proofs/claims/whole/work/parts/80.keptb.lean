section KPM
variable {n : Nat} {bt : Nat → Nat}
theorem blankM {σ : St} {i : Nat} (hi : i < 16) (l2 l3 : Int32) : iter (fun u : Int32 => Mo_inWords_L25 l2 l3 σ u) FUEL (nI (kwP i)) = some (nI (kwP i + kwL i)) := by
  obtain ⟨l1, l8, _, l82⟩ := kw_L i hi
  refine iter_for (body := fun u : Int32 => Mo_inWords_L25 l2 l3 σ u) (fun k => nI k) (lo := kwP i) (hi := kwP i + kwL i) (by omega) (fuel (by omega)) (fun k h1 h2 => ?_) ?_
  · show Mo_inWords_L25 l2 l3 σ (nI k) = _
    obtain ⟨x, rfl⟩ : ∃ x, k = kwP i + x := ⟨k - kwP i, by omega⟩
    obtain ⟨b1, b2, b3⟩ := kw_B i hi x (by omega)
    unfold Mo_inWords_L25
    rw [txn1, ix_nI (by omega) (by omega), chk_true, tn_nI (by omega), b1, show (32 : Int32) = nI 32 from rfl, if_neg (by rw [eq_nI (by omega) (by omega)]; omega), nI_1, bnd_x]
  · show Mo_inWords_L25 l2 l3 σ (nI (kwP i + kwL i)) = _
    unfold Mo_inWords_L25
    rw [txn1, ix_nI (by omega) (by omega), chk_true, tn_nI (by omega), kw_Q i hi, if_pos rfl]
theorem cmpM {σ : St} (h : TxM σ n bt) {s e i : Nat} (hi : i < 16) (hs : s ≤ e) (he : e ≤ n) (h13 : σ.1 92 13 = nI s) (l2 : Int32) (hL : kwL i = e - s) : iter (fun u : (Int32 × Int32) => Mo_inWords_L68 l2 (nI (kwP i)) (nI (kwP i + kwL i)) σ u.1 u.2) FUEL (1, nI (kwP i)) = some (if mt bt s e i = true then 1 else 0) := by
  obtain ⟨l1, l8, _, l82⟩ := kw_L i hi
  have hn := h.1
  have hm : mt bt s e i = true ↔ ∀ x, x < kwL i → kwB i x = bt (s + x) := by
    unfold mt
    rw [decide_eq_true_iff]
    exact ⟨fun q => q.2, fun q => ⟨hL, q⟩⟩
  have key := iter_ix (body := fun u : (Int32 × Int32) => Mo_inWords_L68 l2 (nI (kwP i)) (nI (kwP i + kwL i)) σ u.1 u.2) (fun m u => ∃ x, m = kwL i - x ∧ x ≤ kwL i ∧ u.2 = nI (kwP i + x) ∧ ((u.1 = 1 ∧ ∀ y, y < x → kwB i y = bt (s + y)) ∨ (u.1 = 0 ∧ ¬ mt bt s e i = true))) (fun r => r = if mt bt s e i = true then 1 else 0) ?_ FUEL (kwL i) (1, nI (kwP i)) ⟨0, rfl, by omega, rfl, Or.inl ⟨rfl, fun y hy => absurd hy (Nat.not_lt_zero _)⟩⟩ (fuel (by omega))
  · obtain ⟨r, b1, b2⟩ := key
    rw [b1, b2]
  · rintro m ⟨u1, _⟩ ⟨x, rfl, hx, rfl, hq⟩
    rcases hq with ⟨q1, q2⟩ | ⟨q1, q2⟩
    · have q1' : u1 = 1 := q1
      subst q1'
      by_cases z : x = kwL i
      · right
        refine ⟨1, ?_, ?_⟩
        · show Mo_inWords_L68 l2 (nI (kwP i)) (nI (kwP i + kwL i)) σ 1 (nI (kwP i + x)) = _
          unfold Mo_inWords_L68
          rw [if_pos (by rw [le_nI (by omega) (by omega)]; omega)]
        · rw [if_pos (hm.mpr (fun y hy => q2 y (by omega)))]
      · obtain ⟨b1, b2, b3⟩ := kw_B i hi x (by omega)
        have hb := byteAt_n h (k := s + x) (by omega)
        rw [if_pos (show s + x < n by omega)] at hb
        have hbt := (h.2.2 (s + x) (by omega)).1
        have hpre : Mo_inWords_L68 l2 (nI (kwP i)) (nI (kwP i + kwL i)) σ 1 (nI (kwP i + x)) = if kwB i x = bt (s + x) then some (.inl (1, nI (kwP i + (x + 1)))) else some (.inl (0, nI (kwP i + (x + 1)))) := by
          unfold Mo_inWords_L68
          rw [if_neg (by rw [le_nI (by omega) (by omega)]; omega), if_neg (by decide), txn1, ix_nI (by omega) (by omega), chk_true, tn_nI (by omega), b1, h13, nI_add, sub_nI (by omega), show s + (kwP i + x) - kwP i = s + x by omega, hb, bd_s, nI_1, bnd_x, bnd_x]
          by_cases c : kwB i x = bt (s + x)
          · rw [if_pos c, if_pos (by rw [c])]; rfl
          · rw [if_neg c, if_neg (by rw [eq_nI (by omega) (by omega)]; exact c)]; rfl
        left
        by_cases c : kwB i x = bt (s + x)
        · refine ⟨(1, nI (kwP i + (x + 1))), kwL i - (x + 1), ?_, ⟨x + 1, rfl, by omega, rfl, Or.inl ⟨rfl, fun y hy => ?_⟩⟩, by omega⟩
          · show Mo_inWords_L68 l2 (nI (kwP i)) (nI (kwP i + kwL i)) σ 1 (nI (kwP i + x)) = _
            rw [hpre, if_pos c]
          · by_cases d : y = x
            · rw [d]; exact c
            · exact q2 y (by omega)
        · refine ⟨(0, nI (kwP i + (x + 1))), kwL i - (x + 1), ?_, ⟨x + 1, rfl, by omega, rfl, Or.inr ⟨rfl, fun q => c (hm.mp q x (by omega))⟩⟩, by omega⟩
          show Mo_inWords_L68 l2 (nI (kwP i)) (nI (kwP i + kwL i)) σ 1 (nI (kwP i + x)) = _
          rw [hpre, if_neg c]
    · have q1' : u1 = 0 := q1
      subst q1'
      right
      refine ⟨0, ?_, ?_⟩
      · show Mo_inWords_L68 l2 (nI (kwP i)) (nI (kwP i + kwL i)) σ 0 (nI (kwP i + x)) = _
        unfold Mo_inWords_L68
        by_cases z : x = kwL i
        · rw [if_pos (by rw [le_nI (by omega) (by omega)]; omega)]
        · rw [if_neg (by rw [le_nI (by omega) (by omega)]; omega), if_pos rfl]
      · rw [if_neg q2]
theorem inWordsM {σ : St} (h : TxM σ n bt) {s e : Nat} (hs : s ≤ e) (he : e ≤ n) (h12 : σ.1 92 12 = 2) (h13 : σ.1 92 13 = nI s) (h14 : σ.1 92 14 = nI e) : Mo_inWords σ = some (if wix bt s e < 16 then nI (wix bt s e) else -1) := by
  have hn := h.1
  have key := iter_ix (body := fun u : (Int32 × Int32) => Mo_inWords_L14 σ u.1 u.2) (fun m u => ∃ j, m = 16 - j ∧ j ≤ 16 ∧ u = (nI j, nI (kwP j)) ∧ scan (fun i => !mt bt s e i) 16 j = wix bt s e) (fun r => r = if wix bt s e < 16 then nI (wix bt s e) else -1) ?_ FUEL 16 (nI 0, nI (kwP 0)) ⟨0, rfl, by omega, rfl, rfl⟩ (fuel (by omega))
  · obtain ⟨r, b1, b2⟩ := key
    unfold Mo_inWords
    rw [if_pos h12, show (0, 1) = (nI 0, nI (kwP 0)) from rfl, b1, b2]
  · rintro m _ ⟨j, rfl, hj, rfl, hq⟩
    by_cases z : j = 16
    · right
      refine ⟨-1, ?_, ?_⟩
      · show Mo_inWords_L14 σ (nI j) (nI (kwP j)) = _
        unfold Mo_inWords_L14
        rw [txn1, show (Int32.ofNat 82) = nI 82 from rfl, z, kw_16, if_pos (by rw [le_nI (by omega) (by omega)]; omega)]
      · have : wix bt s e = 16 := by rw [← hq, scan_no (by omega), z]
        rw [this]; rfl
    · have hj' : j < 16 := by omega
      obtain ⟨l1, l8, l3, l82⟩ := kw_L j hj'
      have hpre : Mo_inWords_L14 σ (nI j) (nI (kwP j)) = if mt bt s e j = true then some (.inr (nI j)) else some (.inl (nI (j + 1), nI (kwP (j + 1)))) := by
        unfold Mo_inWords_L14
        rw [txn1, show (Int32.ofNat 82) = nI 82 from rfl, if_neg (by rw [le_nI (by omega) (by omega)]; omega), blankM hj', bd_s, h14, h13, sub_nI (by omega), sub_nI hs, show kwP j + kwL j - kwP j = kwL j by omega]
        by_cases c : kwL j = e - s
        · rw [if_pos (by rw [c]), cmpM h hj' hs he h13 _ c, bd_s]
          unfold Mo_inWords_J115_14
          by_cases d : mt bt s e j = true
          · rw [if_pos d, if_neg (by decide), if_pos d]
          · rw [if_neg d, if_pos rfl, if_neg d, nI_1, bnd_x, nI_1, bnd_x, l3]
        · have d : ¬ mt bt s e j = true := fun q => by
            unfold mt at q
            rw [decide_eq_true_iff] at q
            exact c q.1
          have hx : iter (fun u : (Int32 × Int32) => Mo_inWords_L68 (nI j) (nI (kwP j)) (nI (kwP j + kwL j)) σ u.1 u.2) FUEL (0, nI (kwP j)) = some 0 := by
            obtain ⟨f, hf⟩ : ∃ f, FUEL = f + 1 := ⟨FUEL - 1, by have := FUEL_ge; omega⟩
            rw [hf]
            refine iter_exit ?_
            show Mo_inWords_L68 (nI j) (nI (kwP j)) (nI (kwP j + kwL j)) σ 0 (nI (kwP j)) = _
            unfold Mo_inWords_L68
            rw [if_neg (by rw [le_nI (by omega) (by omega)]; omega), if_pos rfl]
          rw [if_neg (by rw [eq_nI (by omega) (by omega)]; exact c), hx, bd_s]
          unfold Mo_inWords_J115_14
          rw [if_pos rfl, if_neg d, nI_1, bnd_x, nI_1, bnd_x, l3]
      by_cases c : mt bt s e j = true
      · right
        refine ⟨nI j, ?_, ?_⟩
        · show Mo_inWords_L14 σ (nI j) (nI (kwP j)) = _
          rw [hpre, if_pos c]
        · have : wix bt s e = j := by rw [← hq]; exact scan_no (fun q => by have := q.2; rw [show (!mt bt s e j) = false by rw [c]; rfl] at this; cases this)
          rw [this, if_pos (by omega)]
      · left
        refine ⟨(nI (j + 1), nI (kwP (j + 1))), 16 - (j + 1), ?_, ⟨j + 1, rfl, by omega, rfl, ?_⟩, by omega⟩
        · show Mo_inWords_L14 σ (nI j) (nI (kwP j)) = _
          rw [hpre, if_neg c]
        · rw [← scan_go (p := fun i => !mt bt s e i) (by omega) (by show (!mt bt s e j) = true; cases d : mt bt s e j with | true => exact absurd d c | false => rfl)]; exact hq
end KPM
