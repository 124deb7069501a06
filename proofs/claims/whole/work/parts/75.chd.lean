section CHX
variable {m : Nat → Nat} {n mode : Nat} {σ : St} {r : Nat → Nat}
theorem gd_pos {L : Nat} : 0 < gd mode m L n r ↔ good mode m r L n = true := by
  unfold gd
  by_cases c : good mode m r L n = true
  · rw [if_pos c]; exact ⟨fun _ => c, fun _ => by omega⟩
  · rw [if_neg c]; exact ⟨fun h => by omega, fun h => absurd h c⟩
theorem firstM (hM : MO m n) (hmo : mode ≤ 2) (h5 : ∀ i, i < n → σ.1 105 i = nI (m i)) {a : Nat} (ha : a < n) : (∀ x0, x0 < pr m n → 0 < gd mode m (lc m n) n (de m n r x0) → (∀ x, x < x0 → gd mode m (lc m n) n (de m n r x) = 0) → ∃ υ, iter (fun s : (Int32 × St) => Mo_choiceAt_L39 (nI n) (nI mode) (nI a) s.2 s.1) FUEL (0, σ) = some (nI (de m n r x0 a), wI υ 92 2 0) ∧ Fp (fun a i => a = 106) σ υ) ∧ ((∀ x, x < pr m n → gd mode m (lc m n) n (de m n r x) = 0) → ∃ υ, iter (fun s : (Int32 × St) => Mo_choiceAt_L39 (nI n) (nI mode) (nI a) s.2 s.1) FUEL (0, σ) = some (-1, wI υ 92 2 6) ∧ Fp (fun a i => a = 106) σ υ) := by
  have hn := hM.1
  have hpr := hM.2.2
  have pre : ∀ x, x < pr m n → ∀ u : St, Fp (fun a i => a = 106) σ u → ∃ τ, Mo_choiceAt_L39 (nI n) (nI mode) (nI a) u (nI x) = (if good mode m (de m n r x) (lc m n) n = true then some (.inr (nI (de m n r x a), wI τ 92 2 0)) else some (.inl (nI (x + 1), τ))) ∧ Fp (fun a i => a = 106) σ τ := fun x hx u hF => by
    have h5u : ∀ i, i < n → u.1 105 i = nI (m i) := fun i hi => (hF.i (by omega)).trans (h5 i hi)
    obtain ⟨τ, t1, t2, t3⟩ := laysWay_n (r := r) hM h5u (x := x) (by omega)
    have h5t : ∀ i, i < n → τ.1 105 i = nI (m i) := fun i hi => (t2.i (by omega)).trans (h5u i hi)
    have hgd := isGood_n (mode := mode) hM h5t t3 (fun i hi => de_lt hM.p hi) hmo
    have haw := allWays_n hM h5u
    refine ⟨τ, ?_, hF.tr t2⟩
    unfold Mo_choiceAt_L39
    rw [haw, bd_s, if_neg (by rw [le_nI (by omega) (by omega)]; omega), t1, bd_s, hgd, bd_s]
    by_cases c : good mode m (de m n r x) (lc m n) n = true
    · rw [if_pos c, if_neg (by decide), ix_nI (show a < 6 by omega) (by omega), chk_true, tn_nI (show a < 2147483648 by omega), t3 a ha, Mo_gives_n, bd2_s, if_pos c]
    · rw [if_neg c, if_pos rfl, nI_1, bnd_x, if_neg c]
  constructor
  · intro x0 hx0 hg hl
    have key := iter_cnt (body := fun s : (Int32 × St) => Mo_choiceAt_L39 (nI n) (nI mode) (nI a) s.2 s.1) (fun x u => u.1 = nI x ∧ Fp (fun a i => a = 106) σ u.2) (fun e => ∃ υ, e = (nI (de m n r x0 a), wI υ 92 2 0) ∧ Fp (fun a i => a = 106) σ υ) (lo := 0) (hi := x0) (n := FUEL) (by omega) (fuel (by omega)) (by
      rintro x ⟨_, u⟩ _ hx ⟨rfl, hF⟩
      obtain ⟨τ, t1, t2⟩ := pre x (by omega) u hF
      have hz := hl x hx
      refine ⟨(nI (x + 1), τ), ?_, rfl, t2⟩
      show Mo_choiceAt_L39 (nI n) (nI mode) (nI a) u (nI x) = _
      rw [t1, if_neg (fun c => by have := gd_pos.mpr c; omega)]) (by
      rintro ⟨_, u⟩ ⟨rfl, hF⟩
      obtain ⟨τ, t1, t2⟩ := pre x0 hx0 u hF
      refine ⟨_, ?_, τ, rfl, t2⟩
      show Mo_choiceAt_L39 (nI n) (nI mode) (nI a) u (nI x0) = _
      rw [t1, if_pos (gd_pos.mp hg)]) (s := (0, σ)) ⟨rfl, Fp.rf⟩
    obtain ⟨e, b1, υ, b2, b3⟩ := key
    exact ⟨υ, by rw [b1, b2], b3⟩
  · intro hl
    have key := iter_cnt (body := fun s : (Int32 × St) => Mo_choiceAt_L39 (nI n) (nI mode) (nI a) s.2 s.1) (fun x u => u.1 = nI x ∧ Fp (fun a i => a = 106) σ u.2) (fun e => ∃ υ, e = ((-1 : Int32), wI υ 92 2 6) ∧ Fp (fun a i => a = 106) σ υ) (lo := 0) (hi := pr m n) (n := FUEL) (by omega) (fuel (by omega)) (by
      rintro x ⟨_, u⟩ _ hx ⟨rfl, hF⟩
      obtain ⟨τ, t1, t2⟩ := pre x (by omega) u hF
      have hz := hl x hx
      refine ⟨(nI (x + 1), τ), ?_, rfl, t2⟩
      show Mo_choiceAt_L39 (nI n) (nI mode) (nI a) u (nI x) = _
      rw [t1, if_neg (fun c => by have := gd_pos.mpr c; omega)]) (by
      rintro ⟨_, u⟩ ⟨rfl, hF⟩
      have hF' : Fp (fun a i => a = 106) σ u := hF
      have haw := allWays_n hM (σ := u) (fun i hi => (hF'.i (by omega)).trans (h5 i hi))
      refine ⟨_, ?_, u, rfl, hF'⟩
      show Mo_choiceAt_L39 (nI n) (nI mode) (nI a) u (nI (pr m n)) = _
      unfold Mo_choiceAt_L39
      rw [haw, bd_s, if_pos (by rw [le_nI (by omega) (by omega)]; omega), Mo_refuse_n, bd2_s]) (s := (0, σ)) ⟨rfl, Fp.rf⟩
    obtain ⟨e, b1, υ, b2, b3⟩ := key
    exact ⟨υ, by rw [b1, b2], b3⟩
end CHX
theorem within_m1 (p p2 : Int32) : RC_within p.toInt64 0 (p2.toInt64 - 1) = some (if 0 ≤ p.toInt ∧ p.toInt < p2.toInt then 1 else 0) := by
  have e : p.toInt64.toInt = p.toInt := Int32.toInt_toInt64 p
  have e2 : p2.toInt64.toInt = p2.toInt := Int32.toInt_toInt64 p2
  have b1 := Int32.le_toInt p2
  have b2 := Int32.toInt_lt p2
  have e3 : (p2.toInt64 - 1).toInt = p2.toInt - 1 := by
    rw [Int64.toInt_sub, e2, show (1 : Int64).toInt = 1 from rfl]
    exact Int.bmod_eq_of_le (by omega) (by omega)
  unfold RC_within
  by_cases h1 : p.toInt64 < 0
  · have h1' := h1
    rw [Int64.lt_iff_toInt_lt, e, show (0 : Int64).toInt = 0 from rfl] at h1'
    rw [if_pos h1, if_neg (by omega)]
  · have h1' := h1
    rw [Int64.lt_iff_toInt_lt, e, show (0 : Int64).toInt = 0 from rfl] at h1'
    rw [if_neg h1]
    by_cases h2 : p2.toInt64 - 1 < p.toInt64
    · have h2' := h2
      rw [Int64.lt_iff_toInt_lt, e, e3] at h2'
      rw [if_pos h2, if_neg (by omega)]
    · have h2' := h2
      rw [Int64.lt_iff_toInt_lt, e, e3] at h2'
      rw [if_neg h2, if_pos (by omega)]
