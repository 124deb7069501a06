theorem withinL (x : Int64) : RC_within x 1 60 = some 0 ∨ ∃ a, 1 ≤ a ∧ a ≤ 60 ∧ x = lN a ∧ RC_within x 1 60 = some 1 := by
  unfold RC_within
  by_cases h1 : x < 1
  · left; rw [if_pos h1]
  · by_cases h2 : 60 < x
    · left; rw [if_neg h1, if_pos h2]
    · right
      rw [Int64.lt_iff_toInt_lt] at h1 h2
      have z1 : (1 : Int64).toInt = 1 := rfl
      have z60 : (60 : Int64).toInt = 60 := rfl
      refine ⟨x.toInt.toNat, by omega, by omega, ?_, ?_⟩
      · have e : x.toInt = ((x.toInt.toNat : Nat) : Int) := by omega
        refine Int64.toInt_inj.mp ?_
        rw [e]
        show _ = (lN x.toInt.toNat).toInt
        rw [pf_lI (by omega)]
      · rw [if_neg (by rw [Int64.lt_iff_toInt_lt]; exact h1), if_neg (by rw [Int64.lt_iff_toInt_lt]; exact h2)]
def vm (v : Nat → Int64) (i : Nat) : Nat := tn (v i).toInt32
theorem vm_n {v : Nat → Int64} {i a : Nat} (h : v i = lN a) (ha : a ≤ 60) : vm v i = a := by
  unfold vm
  rw [h, lN_i, tn_nI (by omega)]
def vok (v : Nat → Int64) (i : Nat) : Prop := 1 ≤ vm v i ∧ vm v i ≤ 60 ∧ v i = lN (vm v i) ∧ RC_within (v i) 1 60 = some 1
theorem vok_or (v : Nat → Int64) (i : Nat) : RC_within (v i) 1 60 = some 0 ∨ vok v i := by
  rcases withinL (v i) with h | ⟨a, a1, a2, a3, a4⟩
  · exact Or.inl h
  · right
    have e := vm_n a3 a2
    unfold vok
    rw [e]
    exact ⟨a1, a2, a3, a4⟩
theorem v_cases (v : Nat → Int64) : ∀ n, (∀ i, i < n → vok v i) ∨ ∃ k, k < n ∧ (∀ i, i < k → vok v i) ∧ RC_within (v k) 1 60 = some 0
  | 0 => Or.inl (fun i hi => absurd hi (Nat.not_lt_zero _))
  | n + 1 => by
    rcases v_cases v n with h | ⟨k, h1, h2, h3⟩
    · rcases vok_or v n with z | z
      · exact Or.inr ⟨n, by omega, h, z⟩
      · left
        intro i hi
        by_cases e : i = n
        · rw [e]; exact z
        · exact h i (by omega)
    · exact Or.inr ⟨k, by omega, h2, h3⟩
section CHT
variable {v : Nat → Int64} {n s0 t : Nat} {σ : St}
theorem at_n {a k : Nat} {σ : St} (h : σ.1 a 2 = nI s0) (hs : s0 ≤ 60) (hk : k < s0) : Ty_at σ a (nI k) = some (σ.2 (a + 1) k) := by
  unfold Ty_at
  rw [show (1 : Int32) = nI 1 from rfl, holds_n h hs (by omega) (by omega), if_pos (by omega), bd_s, if_neg (by decide), ix_nI (by omega) (by omega), chk_true, tn_nI (by omega)]
theorem takeC (ht : t < 4) (hs : s0 ≤ 60) (h2 : σ.1 (51 + 2 * t) 2 = nI s0) (hv : ∀ i, i < s0 → σ.2 (52 + 2 * t) i = v i) (hn6 : n ≤ 6) (hn : n ≤ s0) : ((∀ i, i < n → vok v i) → ∃ σ', Ch_takeModuli σ (51 + 2 * t) (nI n) = some (1, σ') ∧ Fp (fun a i => (a = 36 ∧ i = 3) ∨ a = 37) σ σ' ∧ σ'.1 36 3 = nI n ∧ ∀ i, i < n → σ'.1 37 i = nI (vm v i)) ∧ (∀ k, k < n → (∀ i, i < k → vok v i) → RC_within (v k) 1 60 = some 0 → ∃ σ', Ch_takeModuli σ (51 + 2 * t) (nI n) = some (0, σ') ∧ Fp (fun a i => (a = 36 ∧ i = 3) ∨ a = 37) σ σ') := by
  have step : ∀ k, k < n → vok v k → ∀ u : St, Fp (fun a i => (a = 36 ∧ i = 3) ∨ a = 37) σ u → Ch_takeModuli_L2 (51 + 2 * t) (nI n) u (nI k) = some (.inl (nI (k + 1), wI u 37 k (nI (vm v k)))) := fun k hk hok u hF => by
    have e2 : u.1 (51 + 2 * t) 2 = nI s0 := (hF.i (by omega)).trans h2
    have ev : u.2 (51 + 2 * t + 1) k = v k := by rw [show 51 + 2 * t + 1 = 52 + 2 * t by omega]; exact (hF.l (by omega)).trans (hv k (by omega))
    unfold Ch_takeModuli_L2
    rw [if_neg (by rw [le_nI (by omega) (by omega)]; omega), show (6 : Int32) = nI 6 from rfl, if_neg (by rw [le_nI (by omega) (by omega)]; omega), at_n e2 hs (by omega), bd_s, ev, hok.2.2.2, bd_s, if_neg (by decide), ix_nI (by omega) (by omega), chk_true, tn_nI (by omega), show (v k).toInt32 = nI (vm v k) from (congrArg Int64.toInt32 hok.2.2.1).trans (lN_i _), bnd_x, nI_1, bnd_x]
  constructor
  · intro hok
    have key := iter_cnt (body := fun s : (Int32 × St) => Ch_takeModuli_L2 (51 + 2 * t) (nI n) s.2 s.1) (fun k u => u.1 = nI k ∧ Fp (fun a i => (a = 36 ∧ i = 3) ∨ a = 37) σ u.2 ∧ ∀ i, i < k → u.2.1 37 i = nI (vm v i)) (fun e => e.1 = 1 ∧ Fp (fun a i => (a = 36 ∧ i = 3) ∨ a = 37) σ e.2 ∧ e.2.1 36 3 = nI n ∧ ∀ i, i < n → e.2.1 37 i = nI (vm v i)) (lo := 0) (hi := n) (n := FUEL) (by omega) (fuel (by omega)) (by
      rintro k ⟨_, u⟩ _ hk ⟨rfl, hF, h3⟩
      have hF' : Fp (fun a i => (a = 36 ∧ i = 3) ∨ a = 37) σ u := hF
      have h3' : ∀ i, i < k → u.1 37 i = nI (vm v i) := h3
      refine ⟨(nI (k + 1), wI u 37 k (nI (vm v k))), step k hk (hok k hk) u hF', rfl, Fp.wI (A := fun a i => (a = 36 ∧ i = 3) ∨ a = 37) hF' (Or.inr rfl), fun i hi => ?_⟩
      show (wI u 37 k (nI (vm v k))).1 37 i = _
      by_cases e : i = k
      · rw [e, wI_s]
      · rw [wI_ne (by omega)]; exact h3' i (by omega)) (by
      rintro ⟨_, u⟩ ⟨rfl, hF, h3⟩
      have hF' : Fp (fun a i => (a = 36 ∧ i = 3) ∨ a = 37) σ u := hF
      have h3' : ∀ i, i < n → u.1 37 i = nI (vm v i) := h3
      refine ⟨(1, wI u 36 3 (nI n)), ?_, rfl, Fp.wI (A := fun a i => (a = 36 ∧ i = 3) ∨ a = 37) hF' (Or.inl ⟨rfl, rfl⟩), wI_s, fun i hi => (wI_ne (by omega)).trans (h3' i hi)⟩
      show Ch_takeModuli_L2 (51 + 2 * t) (nI n) u (nI n) = _
      unfold Ch_takeModuli_L2
      rw [if_pos (by rw [le_nI (by omega) (by omega)]; omega), show (6 : Int32) = nI 6 from rfl, jmin_nI (by omega) (by omega), Nat.min_eq_left hn6, bnd_x]) (s := (0, σ)) ⟨rfl, Fp.rf, fun i hi => by omega⟩
    obtain ⟨⟨x, τ⟩, b1, b2, b3, b4, b5⟩ := key
    have b2' : x = 1 := b2
    rw [b2'] at b1
    exact ⟨τ, b1, b3, b4, b5⟩
  · intro k0 hk0 hok hbad
    have key := iter_cnt (body := fun s : (Int32 × St) => Ch_takeModuli_L2 (51 + 2 * t) (nI n) s.2 s.1) (fun k u => u.1 = nI k ∧ Fp (fun a i => (a = 36 ∧ i = 3) ∨ a = 37) σ u.2) (fun e => e.1 = 0 ∧ Fp (fun a i => (a = 36 ∧ i = 3) ∨ a = 37) σ e.2) (lo := 0) (hi := k0) (n := FUEL) (by omega) (fuel (by omega)) (by
      rintro k ⟨_, u⟩ _ hk ⟨rfl, hF⟩
      have hF' : Fp (fun a i => (a = 36 ∧ i = 3) ∨ a = 37) σ u := hF
      exact ⟨(nI (k + 1), wI u 37 k (nI (vm v k))), step k (by omega) (hok k hk) u hF', rfl, Fp.wI (A := fun a i => (a = 36 ∧ i = 3) ∨ a = 37) hF' (Or.inr rfl)⟩) (by
      rintro ⟨_, u⟩ ⟨rfl, hF⟩
      have hF' : Fp (fun a i => (a = 36 ∧ i = 3) ∨ a = 37) σ u := hF
      have e2 : u.1 (51 + 2 * t) 2 = nI s0 := (hF'.i (by omega)).trans h2
      have ev : u.2 (51 + 2 * t + 1) k0 = v k0 := by rw [show 51 + 2 * t + 1 = 52 + 2 * t by omega]; exact (hF'.l (by omega)).trans (hv k0 (by omega))
      refine ⟨(0, u), ?_, rfl, hF'⟩
      show Ch_takeModuli_L2 (51 + 2 * t) (nI n) u (nI k0) = _
      unfold Ch_takeModuli_L2
      rw [if_neg (by rw [le_nI (by omega) (by omega)]; omega), show (6 : Int32) = nI 6 from rfl, if_neg (by rw [le_nI (by omega) (by omega)]; omega), at_n e2 hs (by omega), bd_s, ev, hbad, bd_s, if_pos rfl]) (s := (0, σ)) ⟨rfl, Fp.rf⟩
    obtain ⟨⟨x, τ⟩, b1, b2, b3⟩ := key
    have b2' : x = 0 := b2
    rw [b2'] at b1
    exact ⟨τ, b1, b3⟩
end CHT
