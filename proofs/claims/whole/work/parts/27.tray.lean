theorem within_no {p : Int32} {lo hi : Int64} (h : RC_within p.toInt64 lo hi = some 0) : p.toInt < lo.toInt ∨ hi.toInt < p.toInt := by
  unfold RC_within at h
  have e : p.toInt64.toInt = p.toInt := Int32.toInt_toInt64 p
  by_cases h1 : p.toInt64 < lo
  · left; rw [Int64.lt_iff_toInt_lt] at h1; omega
  · by_cases h2 : hi < p.toInt64
    · right; rw [Int64.lt_iff_toInt_lt] at h2; omega
    · rw [if_neg h1, if_neg h2] at h; exact absurd (Option.some.inj h) (by decide)
theorem isTray_w (p : Int32) : Mo_isTray p = RC_within p.toInt64 0 3 := by
  have e : p.toInt64.toInt = p.toInt := Int32.toInt_toInt64 p
  have z0 : (0 : Int64).toInt = 0 := rfl
  have z3 : (3 : Int64).toInt = 3 := rfl
  have y0 : (0 : Int32).toInt = 0 := rfl
  have y4 : (4 : Int32).toInt = 4 := rfl
  unfold Mo_isTray RC_within
  by_cases h1 : p < 0
  · rw [if_pos h1, if_pos (by rw [Int32.lt_iff_toInt_lt] at h1; rw [Int64.lt_iff_toInt_lt]; omega)]
  · have k1 : ¬ p.toInt64 < 0 := by rw [Int32.lt_iff_toInt_lt] at h1; rw [Int64.lt_iff_toInt_lt]; omega
    rw [if_neg h1, if_neg k1]
    by_cases h2 : 4 ≤ p
    · have k2 : 3 < p.toInt64 := by rw [Int32.le_iff_toInt_le] at h2; rw [Int64.lt_iff_toInt_lt]; omega
      rw [if_pos h2, if_pos k2]
    · have k2 : ¬ 3 < p.toInt64 := by rw [Int32.le_iff_toInt_le] at h2; rw [Int64.lt_iff_toInt_lt]; omega
      rw [if_neg h2, if_neg k2]
theorem fill_n {σ : St} {a n : Nat} {v : Int64} (hn : n < 2147483648) : ∃ σ', JA_fill_d0a16 σ a n v = some σ' ∧ (∀ k, k < n → σ'.2 a k = v) := by
  have key := iter_cnt (body := fun s : (Int32 × St) => JA_fill_d0a16_L6 a n v (nI n) s.2 s.1) (fun k s => s.1 = nI k ∧ ∀ j, j < k → s.2.2 a j = v) (fun e => ∀ j, j < n → e.2 a j = v) (lo := 0) (hi := n) (n := FUEL) (Nat.zero_le _) (fuel (by omega)) ?_ ?_ (s := (0, σ)) ⟨rfl, fun j hj => by omega⟩
  · obtain ⟨e, h1, h2⟩ := key
    refine ⟨e, ?_, h2⟩
    unfold JA_fill_d0a16
    rw [bnd_x]
    exact (congrArg (fun o => bd o (fun v => some v)) h1)
  · rintro k ⟨x, τ⟩ _ hk ⟨rfl, hv⟩
    refine ⟨(nI (k + 1), wL τ a k v), ?_, rfl, fun j hj => ?_⟩
    · show JA_fill_d0a16_L6 a n v (nI n) τ (nI k) = _
      unfold JA_fill_d0a16_L6
      rw [if_neg (by rw [le_nI (by omega) (by omega)]; omega), ix_nI (by omega) (by omega), chk_true, tn_nI (by omega), bnd_x, bnd_x, nI_1]
    · by_cases e : j = k
      · rw [e, wL_s]
      · rw [wL_ne (by omega)]; exact hv j (by omega)
  · rintro ⟨x, τ⟩ ⟨rfl, hv⟩
    refine ⟨τ, ?_, hv⟩
    show JA_fill_d0a16_L6 a n v (nI n) τ (nI n) = _
    unfold JA_fill_d0a16_L6
    rw [if_pos (by rw [le_nI (by omega) (by omega)]; omega)]
theorem call_tr {α : Type} {f g : St → Option (α × St)} {σ σ1 σ2 : St} {r : α} {v : Int32} (I : Inv σ) (hf : f σ = some (r, σ1)) (F1 : Fp (fun a i => (a = 0 ∧ i = 0) ∨ (51 ≤ a ∧ a ≤ 58)) σ σ1) (hv : σ1.1 0 0 = v) (hg : g σ1 = some (r, σ2)) (F2 : Fp (fun a i => (a = 92 ∧ i = 2) ∨ (95 ≤ a ∧ a ≤ 97)) σ1 σ2) (hw : σ2.1 92 2 = v) (ht : RTr σ2) : Call f g σ :=
  ⟨r, σ1, σ2, hf, hg, inv_tr I ((F1.mono (fun a i q => by unfold At; omega)).tr (F2.mono (fun a i q => by unfold At; omega))) (by rw [F2.i (by omega), hv, hw]) ht⟩
theorem mul60 (t k : Nat) : (60 : Int32) * nI t + nI k = nI (60 * t + k) := by
  rw [show (60 : Int32) = nI 60 from rfl, pk_mul, nI_add]
theorem mul60' (t : Nat) : (60 : Int32) * nI t = nI (60 * t) := by
  rw [show (60 : Int32) = nI 60 from rfl, pk_mul]
theorem call_tray {σ : St} (I : Inv σ) (p p2 p3 : Int32) : Call (fun σ => RC_tray σ p p2 p3) (fun σ => Mo_tray σ p p2 p3) σ := by
  have tr := I.2.2.1
  rcases within_ex p (lo := 0) (hi := 3) 0 3 rfl rfl (by omega) with h | ⟨t, _, ht, rfl, h⟩
  · refine call_s (r := 0) (v := 1) I ?_ (fun σ1 F => ?_)
    · show RC_tray σ p p2 p3 = _
      unfold RC_tray
      rw [h, bd_s, if_pos rfl, RC_deny_n, bd2_s, ckl0, chk_true]
    · show Mo_tray σ1 p p2 p3 = _
      unfold Mo_tray
      rw [isTray_w, h, bd_s, if_pos rfl, Mo_is_n _ (by decide), bd2_s, ckl0, chk_true]
  rcases within_ex p2 (lo := 0) (hi := 3) 0 3 rfl rfl (by omega) with h2 | ⟨s, _, hs, rfl, h2⟩
  · refine call_s (r := 0) (v := 1) I ?_ (fun σ1 F => ?_)
    · show RC_tray σ (nI t) p2 p3 = _
      unfold RC_tray
      rw [h, bd_s, if_neg (by decide), h2, bd_s, if_pos rfl, RC_deny_n, bd2_s, ckl0, chk_true]
    · show Mo_tray σ1 (nI t) p2 p3 = _
      have hh := within_no h2
      have z0 : (0 : Int64).toInt = 0 := rfl
      have z3 : (3 : Int64).toInt = 3 := rfl
      unfold Mo_tray
      rw [isTray_w, h, bd_s, if_neg (by decide), Mo_is_n _ (by decide), bd2_s, ckl0, chk_true]
      by_cases q : p2 < 0
      · rw [if_pos q]
      · rw [if_neg q, if_pos (by rw [Int32.lt_iff_toInt_lt] at q ⊢; rw [show (0 : Int32).toInt = 0 from rfl] at q; rw [show (3 : Int32).toInt = 3 from rfl]; omega)]
  have y1 : ¬ nI s < 0 := nI_pos (by omega)
  have y2 : ¬ (3 : Int32) < nI s := by rw [show (3 : Int32) = nI 3 from rfl, lt_nI (by omega) (by omega)]; omega
  rcases within_ex p3 (lo := 0) (hi := 60) 0 60 rfl rfl (by omega) with h3 | ⟨m, _, hm, rfl, h3⟩
  · refine call_s (r := 0) (v := 1) I ?_ (fun σ1 F => ?_)
    · show RC_tray σ (nI t) (nI s) p3 = _
      unfold RC_tray
      rw [h, bd_s, if_neg (by decide), h2, bd_s, if_neg (by decide), h3, bd_s, if_pos rfl, RC_deny_n, bd2_s, ckl0, chk_true]
    · show Mo_tray σ1 (nI t) (nI s) p3 = _
      have hh := within_no h3
      have z0 : (0 : Int64).toInt = 0 := rfl
      have z3 : (60 : Int64).toInt = 60 := rfl
      unfold Mo_tray
      rw [isTray_w, h, bd_s, if_neg (by decide), if_neg y1, if_neg y2, Mo_is_n _ (by decide), bd2_s, ckl0, chk_true]
      by_cases q : p3 < 0
      · rw [if_pos q]
      · rw [if_neg q, if_neg (by rw [Int32.lt_iff_toInt_lt] at q; rw [Int32.le_iff_toInt_le]; rw [show (0 : Int32).toInt = 0 from rfl] at q; rw [show (60 : Int32).toInt = 60 from rfl]; omega)]
  obtain ⟨τ, a1, a2⟩ := fill_n (σ := wI (wI σ (51 + 2 * t) 1 (nI s)) (51 + 2 * t) 2 (nI m)) (a := 51 + 2 * t + 1) (n := 60) (v := 0) (by omega)
  have Fτ : Fp (fun a i => a = 51 + 2 * t + 1) (wI (wI σ (51 + 2 * t) 1 (nI s)) (51 + 2 * t) 2 (nI m)) τ := fp_JA_fill_d0a16 Fp.rf (fun _ => rfl) _ a1
  have e1 : RC_tray σ (nI t) (nI s) (nI m) = some (1, wI τ 0 0 0) := by
    unfold RC_tray
    rw [h, bd_s, if_neg (by decide), h2, bd_s, if_neg (by decide), h3, bd_s, if_neg (by decide), ix_nI (by omega) (by omega), chk_true, tn_nI (by omega), rfs_T]
    unfold Ty_lay
    rw [bnd_x, bnd_x, a1, bd_s, bd_s, RC_agree_n, bd2_s, ckl1, chk_true]
  have F1 : Fp (fun a i => (a = 0 ∧ i = 0) ∨ a = 51 + 2 * t ∨ a = 52 + 2 * t) σ (wI τ 0 0 0) := by
    refine Fp.wI (Fp.tr ?_ (Fτ.mono (fun a i q => by omega))) (by omega)
    exact (Fp.rf.wI (by omega)).wI (by omega)
  have key := iter_cnt (body := fun s : (Int32 × St) => Mo_tray_L49 (nI t) (nI m) s.2 s.1) (fun k u => u.1 = nI k ∧ (∀ j, j < k → u.2.2 97 (60 * t + j) = 0) ∧ Fp (fun a i => a = 97 ∧ 60 * t ≤ i ∧ i < 60 * t + 60) (wI (wI (wI τ 0 0 0) 95 t (nI s)) 96 t (nI m)) u.2) (fun e => (∀ j, j < m → e.2 97 (60 * t + j) = 0) ∧ Fp (fun a i => a = 97 ∧ 60 * t ≤ i ∧ i < 60 * t + 60) (wI (wI (wI τ 0 0 0) 95 t (nI s)) 96 t (nI m)) e) (lo := 0) (hi := m) (n := FUEL) (Nat.zero_le _) (fuel (by omega)) ?_ ?_ (s := (0, wI (wI (wI τ 0 0 0) 95 t (nI s)) 96 t (nI m))) ⟨rfl, fun j hj => by omega, Fp.rf⟩
  · obtain ⟨υ, b1, b2, b3⟩ := key
    have e2 : Mo_tray (wI τ 0 0 0) (nI t) (nI s) (nI m) = some (1, wI υ 92 2 0) := by
      unfold Mo_tray
      rw [isTray_w, h, bd_s, if_neg (by decide), if_neg y1, if_neg y2, if_neg (nI_pos (by omega)), if_pos (by rw [show (60 : Int32) = nI 60 from rfl, le_nI (by omega) (by omega)]; omega), ix_nI (by omega) (by omega), chk_true, tn_nI (by omega), bnd_x, chk_true, bnd_x, b1, bd_s, Mo_is_0, bd2_s, ckl1, chk_true]
    have F2 : Fp (fun a i => (a = 92 ∧ i = 2) ∨ (a = 95 ∧ i = t) ∨ (a = 96 ∧ i = t) ∨ (a = 97 ∧ 60 * t ≤ i ∧ i < 60 * t + 60)) (wI τ 0 0 0) (wI υ 92 2 0) := by
      refine Fp.wI (Fp.tr ?_ (b3.mono (fun a i q => by omega))) (by omega)
      exact (Fp.rf.wI (by omega)).wI (by omega)
    refine call_tr I e1 (F1.mono (fun a i q => by omega)) wI_s e2 (F2.mono (fun a i q => by omega)) wI_s (fun x hx => ?_)
    by_cases ex : x = t
    · subst ex
      have g1 : (wI υ 92 2 0).1 95 x = nI s := by rw [wI_ne (by omega), b3.i (by omega), wI_ne (by omega), wI_s]
      have g2 : (wI υ 92 2 0).1 96 x = nI m := by rw [wI_ne (by omega), b3.i (by omega), wI_s]
      have g3 : (wI υ 92 2 0).1 (51 + 2 * x) 1 = nI s := by rw [F2.i (by omega), wI_ne (by omega), Fτ.i (by omega), wI_ne (by omega), wI_s]
      have g4 : (wI υ 92 2 0).1 (51 + 2 * x) 2 = nI m := by rw [F2.i (by omega), wI_ne (by omega), Fτ.i (by omega), wI_s]
      refine ⟨by rw [g1, g3], by rw [g2, g4], Or.inr ⟨m, hm, g2, fun k hk => ?_⟩⟩
      rw [F2.l (by omega)]
      exact (show τ.2 (52 + 2 * x) k = 0 by rw [show 52 + 2 * x = 51 + 2 * x + 1 by omega]; exact a2 k (by omega)).trans (b2 k hk).symm
    · obtain ⟨c1, c2, c3⟩ := tr x hx
      have k1 : ∀ i, (wI υ 92 2 0).1 (51 + 2 * x) i = σ.1 (51 + 2 * x) i := fun i => by rw [F2.i (by omega), F1.i (by omega)]
      have k2 : (wI υ 92 2 0).1 95 x = σ.1 95 x := by rw [F2.i (by omega), F1.i (by omega)]
      have k3 : (wI υ 92 2 0).1 96 x = σ.1 96 x := by rw [F2.i (by omega), F1.i (by omega)]
      rw [k1, k1, k2, k3]
      refine ⟨c1, c2, ?_⟩
      rcases c3 with c3 | ⟨n, d1, d2, d3⟩
      · exact Or.inl c3
      · refine Or.inr ⟨n, d1, d2, fun k hk => ?_⟩
        rw [F2.l (by omega), F1.l (by omega), F2.l (by omega), F1.l (by omega)]
        exact d3 k hk
  · rintro k ⟨x, u⟩ _ hk ⟨rfl, hv, hF⟩
    refine ⟨(nI (k + 1), wL u 97 (60 * t + k) 0), ?_, rfl, fun j hj => ?_, hF.wL (by omega)⟩
    · show Mo_tray_L49 (nI t) (nI m) u (nI k) = _
      unfold Mo_tray_L49
      rw [if_neg (by rw [le_nI (by omega) (by omega)]; omega), mul60, ix_nI (by omega) (by omega), chk_true, tn_nI (by omega), bnd_x, bnd_x, nI_1]
    · by_cases e : j = k
      · rw [e, wL_s]
      · rw [wL_ne (by omega)]; exact hv j (by omega)
  · rintro ⟨x, u⟩ ⟨rfl, hv, hF⟩
    refine ⟨u, ?_, hv, hF⟩
    show Mo_tray_L49 (nI t) (nI m) u (nI m) = _
    unfold Mo_tray_L49
    rw [if_pos (by rw [le_nI (by omega) (by omega)]; omega)]
