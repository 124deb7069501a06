section CHU
variable {v : Nat → Int64} {n s0 t : Nat} {σ : St}
theorem pr_b {m : Nat → Nat} : ∀ {n : Nat}, (∀ i, i < n → m i ≤ 60) → pr m n ≤ 60 ^ n
  | 0, _ => Nat.le_refl _
  | n + 1, h => by
    show pr m n * m n ≤ 60 ^ n * 60
    exact Nat.mul_le_mul (pr_b (fun i hi => h i (by omega))) (h n (by omega))
theorem pr_6 {m : Nat → Nat} (h6 : n ≤ 6) (h : ∀ i, i < n → m i ≤ 60) : pr m n ≤ 46656000000 := Nat.le_trans (pr_b h) (Nat.le_trans (Nat.pow_le_pow_right (by decide) h6) (by decide))
theorem productC {m : Nat → Nat} (hn : n ≤ 6) (hm : ∀ i, i < n → m i ≤ 60) (h3 : σ.1 36 3 = nI n) (h7 : ∀ i, i < n → σ.1 37 i = nI (m i)) : Ch_product σ = some (lN (pr m n)) := by
  unfold Ch_product
  have key := iter_for (body := fun u : (Int64 × Int32) => Ch_product_L4 σ u.1 u.2) (fun k => (lN (pr m k), nI k)) (lo := 0) (hi := n) (e := lN (pr m n)) (n := FUEL) (Nat.zero_le _) (fuel (by omega)) (by
    intro k _ hk
    have := hm k hk
    show Ch_product_L4 σ (lN (pr m k)) (nI k) = some (.inl (lN (pr m (k + 1)), nI (k + 1)))
    unfold Ch_product_L4
    rw [h3, if_neg (by rw [le_nI (by omega) (by omega)]; omega), ix_nI (by omega) (by omega), chk_true, tn_nI (by omega), h7 k hk, nI_l (by omega), lN_mul, bnd_x, nI_1, bnd_x]
    rfl) (by
    show Ch_product_L4 σ (lN (pr m n)) (nI n) = _
    unfold Ch_product_L4
    rw [h3, if_pos (by rw [le_nI (by omega) (by omega)]; omega)])
  exact congrArg (fun o => bd o (fun v => some v)) key
theorem wrongM (ht : t < 4) (hs : s0 ≤ 60) (hv : ∀ i, i < s0 → σ.2 97 (60 * t + i) = v i) (hn6 : n ≤ 6) (hn : n ≤ s0) : ((∀ i, i < n → vok v i) → ∃ σ', iter (fun s : (Int64 × Int32 × St) => Mo_wrongChoices_L63 (nI t) (nI n) s.2.2 s.1 s.2.1) FUEL (1, 0, σ) = some ((if pr (vm v) n ≤ 5040 then 0 else 7), σ') ∧ Fp (fun a i => a = 105) σ σ' ∧ ∀ i, i < n → σ'.1 105 i = nI (vm v i)) ∧ (∀ k, k < n → (∀ i, i < k → vok v i) → RC_within (v k) 1 60 = some 0 → ∃ σ', iter (fun s : (Int64 × Int32 × St) => Mo_wrongChoices_L63 (nI t) (nI n) s.2.2 s.1 s.2.1) FUEL (1, 0, σ) = some (5, σ') ∧ Fp (fun a i => a = 105) σ σ') := by
  have hix : ∀ k, (60 : Int32) * nI t + nI k = nI (60 * t + k) := fun k => by rw [show (60 : Int32) = nI 60 from rfl, pk_mul, nI_add]
  have step : ∀ k, k < n → vok v k → ∀ u : St, Fp (fun a i => a = 105) σ u → ∀ p : Nat, Mo_wrongChoices_L63 (nI t) (nI n) u (lN p) (nI k) = some (.inl (lN (p * vm v k), nI (k + 1), wI u 105 k (nI (vm v k)))) := fun k hk hok u hF p => by
    have ev : u.2 97 (60 * t + k) = v k := (hF.l (by omega)).trans (hv k (by omega))
    have h60 := hok.2.1
    unfold Mo_wrongChoices_L63
    rw [if_neg (by rw [le_nI (by omega) (by omega)]; omega), hix, ix_nI (show 60 * t + k < 240 by omega) (by omega), chk_true, tn_nI (show 60 * t + k < 2147483648 by omega), ev, isFrom_w, hok.2.2.2, bd_s, if_neg (by decide), chk_true, ix_nI (show k < 6 by omega) (by omega), chk_true, tn_nI (show k < 2147483648 by omega), show (v k).toInt32 = nI (vm v k) from (congrArg Int64.toInt32 hok.2.2.1).trans (lN_i _), bnd_x, chk_true, wI_s, nI_l (by omega), lN_mul, bnd_x, nI_1, bnd_x]
  constructor
  · intro hok
    have hpb := pr_6 (m := vm v) hn6 (fun i hi => (hok i hi).2.1)
    have key := iter_cnt (body := fun s : (Int64 × Int32 × St) => Mo_wrongChoices_L63 (nI t) (nI n) s.2.2 s.1 s.2.1) (fun k u => u.1 = lN (pr (vm v) k) ∧ u.2.1 = nI k ∧ Fp (fun a i => a = 105) σ u.2.2 ∧ ∀ i, i < k → u.2.2.1 105 i = nI (vm v i)) (fun e => e.1 = (if pr (vm v) n ≤ 5040 then (0 : Int32) else 7) ∧ Fp (fun a i => a = 105) σ e.2 ∧ ∀ i, i < n → e.2.1 105 i = nI (vm v i)) (lo := 0) (hi := n) (n := FUEL) (by omega) (fuel (by omega)) (by
      rintro k ⟨_, _, u⟩ _ hk ⟨rfl, rfl, hF, h3⟩
      have hF' : Fp (fun a i => a = 105) σ u := hF
      have h3' : ∀ i, i < k → u.1 105 i = nI (vm v i) := h3
      refine ⟨(lN (pr (vm v) k * vm v k), nI (k + 1), wI u 105 k (nI (vm v k))), step k hk (hok k hk) u hF' _, rfl, rfl, Fp.wI (A := fun a i => a = 105) hF' (show (105 : Nat) = 105 from rfl), fun i hi => ?_⟩
      show (wI u 105 k (nI (vm v k))).1 105 i = _
      by_cases e : i = k
      · rw [e, wI_s]
      · rw [wI_ne (by omega)]; exact h3' i (by omega)) (by
      rintro ⟨_, _, u⟩ ⟨rfl, rfl, hF, h3⟩
      refine ⟨((if pr (vm v) n ≤ 5040 then (0 : Int32) else 7), u), ?_, rfl, hF, h3⟩
      show Mo_wrongChoices_L63 (nI t) (nI n) u (lN (pr (vm v) n)) (nI n) = _
      unfold Mo_wrongChoices_L63
      rw [if_pos (by rw [le_nI (by omega) (by omega)]; omega), show (5040 : Int64) = lN 5040 from rfl]
      by_cases c : pr (vm v) n ≤ 5040
      · rw [if_pos (by rw [pk_lLE (by omega) (by omega)]; exact c), if_pos c]
      · rw [if_neg (by rw [pk_lLE (by omega) (by omega)]; exact c), if_neg c]) (s := (1, 0, σ)) ⟨rfl, rfl, Fp.rf, fun i hi => by omega⟩
    obtain ⟨⟨x, τ⟩, b1, b2, b3, b4⟩ := key
    have b2' : x = (if pr (vm v) n ≤ 5040 then (0 : Int32) else 7) := b2
    rw [b2'] at b1
    exact ⟨τ, b1, b3, b4⟩
  · intro k0 hk0 hok hbad
    have key := iter_cnt (body := fun s : (Int64 × Int32 × St) => Mo_wrongChoices_L63 (nI t) (nI n) s.2.2 s.1 s.2.1) (fun k u => u.1 = lN (pr (vm v) k) ∧ u.2.1 = nI k ∧ Fp (fun a i => a = 105) σ u.2.2) (fun e => e.1 = 5 ∧ Fp (fun a i => a = 105) σ e.2) (lo := 0) (hi := k0) (n := FUEL) (by omega) (fuel (by omega)) (by
      rintro k ⟨_, _, u⟩ _ hk ⟨rfl, rfl, hF⟩
      have hF' : Fp (fun a i => a = 105) σ u := hF
      exact ⟨(lN (pr (vm v) k * vm v k), nI (k + 1), wI u 105 k (nI (vm v k))), step k (by omega) (hok k hk) u hF' _, rfl, rfl, Fp.wI (A := fun a i => a = 105) hF' (show (105 : Nat) = 105 from rfl)⟩) (by
      rintro ⟨_, _, u⟩ ⟨rfl, rfl, hF⟩
      have hF' : Fp (fun a i => a = 105) σ u := hF
      have ev : u.2 97 (60 * t + k0) = v k0 := (hF'.l (by omega)).trans (hv k0 (by omega))
      refine ⟨(5, u), ?_, rfl, hF'⟩
      show Mo_wrongChoices_L63 (nI t) (nI n) u (lN (pr (vm v) k0)) (nI k0) = _
      unfold Mo_wrongChoices_L63
      rw [if_neg (by rw [le_nI (by omega) (by omega)]; omega), hix, ix_nI (show 60 * t + k0 < 240 by omega) (by omega), chk_true, tn_nI (show 60 * t + k0 < 2147483648 by omega), ev, isFrom_w, hbad, bd_s, if_pos rfl]) (s := (1, 0, σ)) ⟨rfl, rfl, Fp.rf⟩
    obtain ⟨⟨x, τ⟩, b1, b2, b3⟩ := key
    have b2' : x = 5 := b2
    rw [b2'] at b1
    exact ⟨τ, b1, b3⟩
end CHU
