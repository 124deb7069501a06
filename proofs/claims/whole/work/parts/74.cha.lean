section CHS
variable {m : Nat → Nat} {n mode : Nat}
theorem choicesM {σ : St} {r : Nat → Nat} (hM : MO m n) (hmo : mode ≤ 2) (h5 : ∀ i, i < n → σ.1 105 i = nI (m i)) : ∃ σ', iter (fun s : (Int32 × Int32 × St) => Mo_choices_L27 (nI n) (nI mode) s.2.2 s.1 s.2.1) FUEL (0, 0, σ) = some (nI (fb_sm (fun x => gd mode m (lc m n) n (de m n r x)) (pr m n)), σ') ∧ Fp (fun a i => a = 106) σ σ' := by
  have hn := hM.1
  have hpr := hM.2.2
  obtain ⟨g, hg⟩ : ∃ g, g = fun x => gd mode m (lc m n) n (de m n r x) := ⟨_, rfl⟩
  rw [← hg]
  have key := iter_cnt (body := fun s : (Int32 × Int32 × St) => Mo_choices_L27 (nI n) (nI mode) s.2.2 s.1 s.2.1) (fun x u => u.1 = nI (fb_sm g x) ∧ u.2.1 = nI x ∧ Fp (fun a i => a = 106) σ u.2.2) (fun e => e.1 = nI (fb_sm g (pr m n)) ∧ Fp (fun a i => a = 106) σ e.2) (lo := 0) (hi := pr m n) (n := FUEL) (by omega) (fuel (by omega)) (by
    rintro x ⟨_, _, u⟩ _ hx ⟨rfl, rfl, hF⟩
    have hF' : Fp (fun a i => a = 106) σ u := hF
    have h5u : ∀ i, i < n → u.1 105 i = nI (m i) := fun i hi => (hF'.i (by omega)).trans (h5 i hi)
    obtain ⟨τ, t1, t2, t3⟩ := laysWay_n (r := r) hM h5u (x := x) (by omega)
    have h5t : ∀ i, i < n → τ.1 105 i = nI (m i) := fun i hi => (t2.i (by omega)).trans (h5u i hi)
    have hgd := isGood_n (mode := mode) hM h5t t3 (fun i hi => de_lt hM.p hi) hmo
    have haw := allWays_n hM h5u
    refine ⟨(nI (fb_sm g (x + 1)), nI (x + 1), τ), ?_, rfl, rfl, hF'.tr t2⟩
    show Mo_choices_L27 (nI n) (nI mode) u (nI (fb_sm g x)) (nI x) = _
    unfold Mo_choices_L27
    rw [haw, bd_s, if_neg (by rw [le_nI (by omega) (by omega)]; omega), t1, bd_s, hgd, bd_s]
    by_cases c : good mode m (de m n r x) (lc m n) n = true
    · have e : g x = 1 := by rw [hg]; exact if_pos c
      rw [if_pos c, if_neg (by decide), nI_1, bnd_x, nI_1, bnd_x, fb_sm_succ, e]
    · have e : g x = 0 := by rw [hg]; exact if_neg c
      rw [if_neg c, if_pos rfl, add0, bnd_x, nI_1, bnd_x, fb_sm_succ, e]
      rfl) (by
    rintro ⟨_, _, u⟩ ⟨rfl, rfl, hF⟩
    have hF' : Fp (fun a i => a = 106) σ u := hF
    have haw := allWays_n hM (σ := u) (fun i hi => (hF'.i (by omega)).trans (h5 i hi))
    refine ⟨(nI (fb_sm g (pr m n)), u), ?_, rfl, hF'⟩
    show Mo_choices_L27 (nI n) (nI mode) u (nI (fb_sm g (pr m n))) (nI (pr m n)) = _
    unfold Mo_choices_L27
    rw [haw, bd_s, if_pos (by rw [le_nI (by omega) (by omega)]; omega)]) (s := (0, 0, σ)) ⟨rfl, rfl, Fp.rf⟩
  obtain ⟨⟨v, τ⟩, b1, b2, b3⟩ := key
  have b2' : v = nI (fb_sm g (pr m n)) := b2
  rw [b2'] at b1
  exact ⟨τ, b1, b3⟩
theorem beginC {σ : St} (hM : MO m n) (h3 : σ.1 36 3 = nI n) (h7 : ∀ i, i < n → σ.1 37 i = nI (m i)) : ∃ σ', Ch_begin σ (nI mode) = some σ' ∧ CS σ' m n mode (lc m n) ∧ Fp (fun a i => a = 36 ∧ (i = 4 ∨ i = 5)) σ σ' := by
  have hn := hM.1
  have key := iter_cnt (body := fun s : (Int32 × St) => Ch_begin_L12 s.2 s.1) (fun k u => u.1 = nI k ∧ u.2.1 36 5 = nI (lc m k) ∧ Fp (fun a i => a = 36 ∧ i = 5) (wI (wI σ 36 4 (nI mode)) 36 5 1) u.2) (fun e => e.1 36 5 = nI (lc m n) ∧ Fp (fun a i => a = 36 ∧ i = 5) (wI (wI σ 36 4 (nI mode)) 36 5 1) e) (lo := 0) (hi := n) (n := FUEL) (by omega) (fuel (by omega)) (by
    rintro k ⟨_, u⟩ _ hk ⟨rfl, h5, hF⟩
    have h5' : u.1 36 5 = nI (lc m k) := h5
    have hF' : Fp (fun a i => a = 36 ∧ i = 5) (wI (wI σ 36 4 (nI mode)) 36 5 1) u := hF
    obtain ⟨l1, l2⟩ := hM.lc (d := k) (by omega)
    obtain ⟨m1, m2⟩ := hM.2.1 k hk
    have hg0 : 0 < Nat.gcd (lc m k) (m k) := Nat.gcd_pos_of_pos_left _ l1
    have hg1 : Nat.gcd (lc m k) (m k) ≤ m k := Nat.gcd_le_right _ (by omega)
    have e3 : u.1 36 3 = nI n := (hF'.i (by omega)).trans ((wI_ne (by omega)).trans ((wI_ne (by omega)).trans h3))
    have e7 : u.1 37 k = nI (m k) := (hF'.i (by omega)).trans ((wI_ne (by omega)).trans ((wI_ne (by omega)).trans (h7 k hk)))
    refine ⟨(nI (k + 1), wI u 36 5 (nI (lc m (k + 1)))), ?_, rfl, wI_s, Fp.wI (A := fun a i => a = 36 ∧ i = 5) hF' (by omega)⟩
    show Ch_begin_L12 u (nI k) = _
    unfold Ch_begin_L12
    rw [e3, if_neg (by rw [le_nI (by omega) (by omega)]; omega), ix_nI (by omega) (by omega), chk_true, chk_true, tn_nI (by omega), e7, h5', gcdI_n (by omega) (by omega), bd_s, show (lN (Nat.gcd (lc m k) (m k))).toInt32 = nI (Nat.gcd (lc m k) (m k)) from lN_i _, partBy_n hg0 (by omega) (by omega), bd_s, pk_mul, lcm_div l1, bnd_x, nI_1, bnd_x]
    rfl) (by
    rintro ⟨_, u⟩ ⟨rfl, h5, hF⟩
    have hF' : Fp (fun a i => a = 36 ∧ i = 5) (wI (wI σ 36 4 (nI mode)) 36 5 1) u := hF
    have e3 : u.1 36 3 = nI n := (hF'.i (by omega)).trans ((wI_ne (by omega)).trans ((wI_ne (by omega)).trans h3))
    refine ⟨u, ?_, h5, hF'⟩
    show Ch_begin_L12 u (nI n) = _
    unfold Ch_begin_L12
    rw [e3, if_pos (by rw [le_nI (by omega) (by omega)]; omega)]) (s := (0, wI (wI σ 36 4 (nI mode)) 36 5 1)) ⟨rfl, wI_s, Fp.rf⟩
  obtain ⟨τ, b1, b2, b3⟩ := key
  refine ⟨τ, ?_, ⟨?_, ?_, b2, fun i hi => ?_⟩, ?_⟩
  · unfold Ch_begin
    rw [bnd_x, bnd_x, b1, bd_s]
  · exact (b3.i (by omega)).trans ((wI_ne (by omega)).trans ((wI_ne (by omega)).trans h3))
  · exact (b3.i (by omega)).trans ((wI_ne (by omega)).trans wI_s)
  · exact (b3.i (by omega)).trans ((wI_ne (by omega)).trans ((wI_ne (by omega)).trans (h7 i hi)))
  · exact (Fp.wI (A := fun a i => a = 36 ∧ (i = 4 ∨ i = 5)) (Fp.wI (A := fun a i => a = 36 ∧ (i = 4 ∨ i = 5)) (Fp.rf (A := fun a i => a = 36 ∧ (i = 4 ∨ i = 5))) (by omega)) (by omega)).tr (b3.mono (fun a i z => by omega))
end CHS
