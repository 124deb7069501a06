theorem RSy.copy {σ σ2 : St} {a b o o' q q' : Nat} (h : RSy σ b o q) (k3 : σ2.1 a 3 = σ.1 b 3) (k4 : σ2.1 a 4 = σ.1 b 4) (k5 : σ2.1 a 5 = σ.1 b 5) (r1 : ∀ k, k < 12 → σ2.1 (a + 1) k = σ.1 (b + 1) k) (r2 : ∀ k, k < 12 → σ2.1 (a + 2) k = σ.1 (b + 2) k) (r3 : ∀ k, k < 12 → σ2.2 (a + 3) k = σ.2 (b + 3) k) (s : ∀ k, k < 404 → σ2.1 93 (o' + k) = σ.1 93 (o + k)) (t : ∀ k, k < 12 → σ2.2 94 (q' + k) = σ.2 94 (q + k)) : RSy σ2 a o' q' := by
  obtain ⟨c, od, on, rs, md, nm, ⟨a1, a2, a3, a4, a5, a6⟩, ⟨b1, b2, b3, b4, b5, b6⟩, w⟩ := h
  have hc := w.1
  refine ⟨c, od, on, rs, md, nm, ⟨k3.trans a1, k4.trans a2, k5.trans a3, fun k hk => (r1 k (by omega)).trans (a4 k hk), fun k hk => (r2 k (by omega)).trans (a5 k hk), fun k hk => (r3 k (by omega)).trans (a6 k hk)⟩, ⟨?_, (s 1 (by omega)).trans b2, fun k hk => (s _ (by omega)).trans (b3 k hk), fun k hk => (s _ (by omega)).trans (b4 k hk), fun k hk => (s _ (by omega)).trans (b5 k hk), fun k hk => (t k (by omega)).trans (b6 k hk)⟩, w⟩
  have := s 0 (by omega)
  rw [Nat.add_zero, Nat.add_zero] at this
  exact this.trans b1
theorem RDy.copy {σ σ2 : St} {a b o o' : Nat} (h : RDy σ b o) (k8 : σ2.1 a 8 = σ.1 b 8) (k6 : σ2.1 a 6 = σ.1 b 6) (r : ∀ j k, 1 ≤ j → j ≤ 6 → k < 60 → σ2.1 (a + j) k = σ.1 (b + j) k) (s : ∀ k, k < 404 → σ2.1 93 (o' + k) = σ.1 93 (o + k)) : RDy σ2 a o' := by
  rcases h with h | ⟨n, kd, te, sg, wh, nu, pa, ⟨h1, h2, h3⟩, ⟨g1, g2⟩, w⟩
  · left
    rw [k8, s 2 (by omega)]
    exact h
  · have hn := w.1
    refine Or.inr ⟨n, kd, te, sg, wh, nu, pa, ⟨k8.trans h1, k6.trans h2, fun k hk => ?_⟩, ⟨(s 2 (by omega)).trans g1, fun k hk => ?_⟩, w⟩
    · rw [r 1 k (by omega) (by omega) (by omega), r 2 k (by omega) (by omega) (by omega), r 3 k (by omega) (by omega) (by omega), r 4 k (by omega) (by omega) (by omega), r 5 k (by omega) (by omega) (by omega), r 6 k (by omega) (by omega) (by omega)]
      exact h3 k hk
    · rw [s _ (by omega), s _ (by omega), s _ (by omega), s _ (by omega), s _ (by omega)]
      exact g2 k hk
theorem cpy0 {α : Type} (f g : Nat → α) {n : Int32} {m k : Nat} (h : tn n = m) (hk : k < m) : va_cpy f g (tn 0) (tn 0) (tn n) k = f k := by
  unfold va_cpy
  rw [tn00, h, if_pos (by omega), Nat.zero_add, Nat.sub_zero]
theorem copyC_n {σ : St} {a b : Nat} (hab : a + 3 < b ∨ b + 3 < a) : ∃ σ', Cl_copyFrom σ a b = some σ' ∧ σ'.1 a 3 = σ.1 b 3 ∧ σ'.1 a 4 = σ.1 b 4 ∧ σ'.1 a 5 = σ.1 b 5 ∧ (∀ k, k < 12 → σ'.1 (a + 1) k = σ.1 (b + 1) k) ∧ (∀ k, k < 12 → σ'.1 (a + 2) k = σ.1 (b + 2) k) ∧ (∀ k, k < 12 → σ'.2 (a + 3) k = σ.2 (b + 3) k) := by
  have hk : cpk 0 0 12 12 12 = true := cpk_n (s := 0) (d := 0) (n := 12) (by omega) (by omega) (by omega) (by omega)
  unfold Cl_copyFrom
  rw [hk]
  refine ⟨_, rfl, ?_, ?_, ?_, fun k hk => ?_, fun k hk => ?_, fun k hk => ?_⟩
  · rw [wI_ne (by omega), wI_ne (by omega), wI_s, rL_1', rI_ne (by omega), rI_ne (by omega)]
  · rw [wI_ne (by omega), wI_s, wI_ne (by omega), rL_1', rI_ne (by omega), rI_ne (by omega)]
  · rw [wI_s, wI_ne (by omega), wI_ne (by omega), rL_1', rI_ne (by omega), rI_ne (by omega)]
  · rw [wI_ne (by omega), wI_ne (by omega), wI_ne (by omega), rL_1', rI_ne (by omega), rI_s, cpy0 _ _ (m := 12) rfl hk]
  · rw [wI_ne (by omega), wI_ne (by omega), wI_ne (by omega), rL_1', rI_s, cpy0 _ _ (m := 12) rfl hk, rI_ne (by omega)]
  · rw [wI_2, wI_2, wI_2, rL_s, cpy0 _ _ (m := 12) rfl hk, rI_2', rI_2']
theorem copyD_n {σ : St} {a b : Nat} (hab : a + 6 < b ∨ b + 6 < a) (hz : ckz (σ.1 b 8) = true) : ∃ σ', Da_copyFrom σ a b = some σ' ∧ σ'.1 a 8 = σ.1 b 8 ∧ σ'.1 a 6 = σ.1 b 6 ∧ (∀ j k, 1 ≤ j → j ≤ 6 → k < 60 → σ'.1 (a + j) k = σ.1 (b + j) k) := by
  have hk : cpk 0 0 60 60 60 = true := cpk_n (s := 0) (d := 0) (n := 60) (by omega) (by omega) (by omega) (by omega)
  unfold Da_copyFrom
  rw [hk]
  simp only [chk_true, bnd_x]
  rw [wI_ne (b := b) (j := 8) (by omega), wI_ne (b := b) (j := 8) (by omega), rI_ne (b := b) (by omega), rI_ne (b := b) (by omega), rI_ne (b := b) (by omega), rI_ne (b := b) (by omega), rI_ne (b := b) (by omega), rI_ne (b := b) (by omega), hz, chk_true]
  refine ⟨_, rfl, wI_s, ?_, fun j k h1 h2 hk => ?_⟩
  · rw [wI_ne (by omega), wI_ne (by omega), wI_s, rI_ne (by omega), rI_ne (by omega), rI_ne (by omega), rI_ne (by omega), rI_ne (by omega), rI_ne (by omega)]
  · rw [wI_ne (by omega), wI_ne (by omega), wI_ne (by omega)]
    rcases (show j = 1 ∨ j = 2 ∨ j = 3 ∨ j = 4 ∨ j = 5 ∨ j = 6 by omega) with rfl | rfl | rfl | rfl | rfl | rfl
    · rw [rI_ne (by omega), rI_ne (by omega), rI_ne (by omega), rI_ne (by omega), rI_ne (by omega), rI_s, cpy0 _ _ (m := 60) rfl hk]
    · rw [rI_ne (by omega), rI_ne (by omega), rI_ne (by omega), rI_ne (by omega), rI_s, cpy0 _ _ (m := 60) rfl hk, rI_ne (by omega)]
    · rw [rI_ne (by omega), rI_ne (by omega), rI_ne (by omega), rI_s, cpy0 _ _ (m := 60) rfl hk, rI_ne (by omega), rI_ne (by omega)]
    · rw [rI_ne (by omega), rI_ne (by omega), rI_s, cpy0 _ _ (m := 60) rfl hk, rI_ne (by omega), rI_ne (by omega), rI_ne (by omega)]
    · rw [rI_ne (by omega), rI_s, cpy0 _ _ (m := 60) rfl hk, rI_ne (by omega), rI_ne (by omega), rI_ne (by omega), rI_ne (by omega)]
    · rw [rI_s, cpy0 _ _ (m := 60) rfl hk, rI_ne (by omega), rI_ne (by omega), rI_ne (by omega), rI_ne (by omega), rI_ne (by omega)]
theorem copies_n {σ : St} {f t : Nat} (hf : f ≤ 3) (ht : t ≤ 3) (hft : ¬ f = t) : ∃ σ', Mo_copies σ (nI f) (nI t) = some σ' ∧ (∀ k, k < 404 → σ'.1 93 (404 * t + k) = σ.1 93 (404 * f + k)) ∧ (∀ k, k < 12 → σ'.2 94 (12 * t + k) = σ.2 94 (12 * f + k)) ∧ Fp (fun a i => (a = 93 ∧ 404 * t ≤ i ∧ i < 404 * t + 404) ∨ (a = 94 ∧ 12 * t ≤ i ∧ i < 12 * t + 12)) σ σ' := by
  have m4 : ∀ x k : Nat, (404 : Int32) * nI x + nI k = nI (404 * x + k) := fun x k => by rw [show (404 : Int32) = nI 404 from rfl, pk_mul, nI_add]
  have m12 : ∀ x k : Nat, (12 : Int32) * nI x + nI k = nI (12 * x + k) := fun x k => by rw [show (12 : Int32) = nI 12 from rfl, pk_mul, nI_add]
  obtain ⟨τ, a1, a2, a3⟩ := iter_cnt (body := fun s : (Int32 × St) => Mo_copies_L2 (nI f) (nI t) s.2 s.1) (fun k s => s.1 = nI k ∧ (∀ j, j < k → s.2.1 93 (404 * t + j) = σ.1 93 (404 * f + j)) ∧ Fp (fun a i => a = 93 ∧ 404 * t ≤ i ∧ i < 404 * t + 404) σ s.2) (fun e => (∀ j, j < 404 → e.1 93 (404 * t + j) = σ.1 93 (404 * f + j)) ∧ Fp (fun a i => a = 93 ∧ 404 * t ≤ i ∧ i < 404 * t + 404) σ e) (lo := 0) (hi := 404) (n := FUEL) (Nat.zero_le _) (fuel (by omega)) (by
    rintro k ⟨x, u⟩ _ hk ⟨rfl, hv, hF⟩
    refine ⟨(nI (k + 1), wI u 93 (404 * t + k) (u.1 93 (404 * f + k))), ?_, rfl, fun j hj => ?_, hF.wI (by omega)⟩
    · show Mo_copies_L2 (nI f) (nI t) u (nI k) = _
      unfold Mo_copies_L2
      rw [if_neg (by rw [show (404 : Int32) = nI 404 from rfl, le_nI (by omega) (by omega)]; omega), m4, m4, ix_nI (by omega) (by omega), chk_true, ix_nI (by omega) (by omega), chk_true, tn_nI (by omega), tn_nI (by omega), bnd_x, bnd_x, nI_1]
    · by_cases e : j = k
      · rw [e, wI_s]; exact hF.i (by omega)
      · rw [wI_ne (by omega)]; exact hv j (by omega)) (by
    rintro ⟨x, u⟩ ⟨rfl, hv, hF⟩
    refine ⟨u, ?_, hv, hF⟩
    show Mo_copies_L2 (nI f) (nI t) u (nI 404) = _
    unfold Mo_copies_L2
    rw [if_pos (by decide)]) (s := (0, σ)) ⟨rfl, fun j hj => by omega, Fp.rf⟩
  obtain ⟨υ, b1, b2, b3⟩ := iter_cnt (body := fun s : (Int32 × St) => Mo_copies_L41 (nI f) (nI t) s.2 s.1) (fun k s => s.1 = nI k ∧ (∀ j, j < k → s.2.2 94 (12 * t + j) = τ.2 94 (12 * f + j)) ∧ Fp (fun a i => a = 94 ∧ 12 * t ≤ i ∧ i < 12 * t + 12) τ s.2) (fun e => (∀ j, j < 12 → e.2 94 (12 * t + j) = τ.2 94 (12 * f + j)) ∧ Fp (fun a i => a = 94 ∧ 12 * t ≤ i ∧ i < 12 * t + 12) τ e) (lo := 0) (hi := 12) (n := FUEL) (Nat.zero_le _) (fuel (by omega)) (by
    rintro k ⟨x, u⟩ _ hk ⟨rfl, hv, hF⟩
    refine ⟨(nI (k + 1), wL u 94 (12 * t + k) (u.2 94 (12 * f + k))), ?_, rfl, fun j hj => ?_, hF.wL (by omega)⟩
    · show Mo_copies_L41 (nI f) (nI t) u (nI k) = _
      unfold Mo_copies_L41
      rw [if_neg (by rw [show (12 : Int32) = nI 12 from rfl, le_nI (by omega) (by omega)]; omega), m12, m12, ix_nI (by omega) (by omega), chk_true, ix_nI (by omega) (by omega), chk_true, tn_nI (by omega), tn_nI (by omega), bnd_x, bnd_x, nI_1]
    · by_cases e : j = k
      · rw [e, wL_s]; exact hF.l (by omega)
      · rw [wL_ne (by omega)]; exact hv j (by omega)) (by
    rintro ⟨x, u⟩ ⟨rfl, hv, hF⟩
    refine ⟨u, ?_, hv, hF⟩
    show Mo_copies_L41 (nI f) (nI t) u (nI 12) = _
    unfold Mo_copies_L41
    rw [if_pos (by decide)]) (s := (0, τ)) ⟨rfl, fun j hj => by omega, Fp.rf⟩
  refine ⟨υ, ?_, fun k hk => ?_, fun k hk => ?_, (a3.mono (fun a i q => by omega)).tr (b3.mono (fun a i q => by omega))⟩
  · unfold Mo_copies
    rw [a1, bd_s, b1, bd_s]
  · rw [b3.i (by omega)]; exact a2 k hk
  · rw [b2 k hk]; exact a3.l (by omega)
theorem RDy.ck {σ : St} {a o : Nat} (h : RDy σ a o) : ckz (σ.1 a 8) = true := by
  rcases h with h | ⟨n, kd, te, sg, wh, nu, pa, h1, h2, h3⟩
  · rw [h.1]; rfl
  · rw [h1.1]; rfl
theorem call_mark {σ : St} (I : Inv σ) : Call RC_mark Mo_mark σ := by
  obtain ⟨m, m1, m2, m3, m4⟩ := I.2.2.2.2.2.2.2
  have sy := I.2.2.2.2.1
  have dy := I.2.2.2.2.2.1
  by_cases hm : m = 3
  · refine call_s (r := -1) (v := 4) I ?_ (fun σ1 F => ?_)
    · unfold RC_mark
      rw [m2, if_neg (by rw [hm]; decide), RC_refuse_n, bd2_s]
    · unfold Mo_mark
      rw [F.i (by unfold Ac0; omega), m3, if_pos (by rw [hm]; rfl), Mo_refuse_n, bd2_s]
  · obtain ⟨τ, a1, a2, a3, a4, a5, a6, a7⟩ := copyC_n (σ := σ) (a := 59 + 11 * m) (b := 7) (by omega)
    have Fτ : Fp (fun a i => 59 + 11 * m ≤ a ∧ a ≤ 62 + 11 * m) σ τ := fp_Cl_copyFrom Fp.rf (by intros; omega) (by intros; omega) (by intros; omega) (by intros; omega) (by intros; omega) (by intros; omega) _ a1
    obtain ⟨υ, b1, b2, b3, b4⟩ := copyD_n (σ := τ) (a := 63 + 11 * m) (b := 15) (by omega) (by rw [Fτ.i (by omega)]; exact dy.ck)
    have Fυ : Fp (fun a i => 63 + 11 * m ≤ a ∧ a ≤ 69 + 11 * m) τ υ := fp_Da_copyFrom Fp.rf (by intros; omega) (by intros; omega) (by intros; omega) (by intros; omega) (by intros; omega) (by intros; omega) (by intros; omega) (by intros; omega) (by intros; omega) _ b1
    have Fc : Fp (fun a i => (a = 0 ∧ (i = 0 ∨ i = 11)) ∨ (59 + 11 * m ≤ a ∧ a ≤ 69 + 11 * m)) σ (wI (wI υ 0 11 (nI (m + 1))) 0 0 0) := (((Fτ.mono (fun a i q => by omega)).tr (Fυ.mono (fun a i q => by omega))).wI (by omega)).wI (by omega)
    have hτ : τ.1 0 11 = nI m := (Fτ.i (by omega)).trans m2
    have hυ : υ.1 0 11 = nI m := (Fυ.i (by omega)).trans hτ
    have e1 : RC_mark σ = some (nI (m + 1), wI (wI υ 0 11 (nI (m + 1))) 0 0 0) := by
      unfold RC_mark
      rw [m2, if_pos (by rw [show (3 : Int32) = nI 3 from rfl, lt_nI (by omega) (by omega)]; omega), ix_nI (by omega) (by omega), chk_true, tn_nI (by omega), rfs_C, a1, bd_s, hτ, ix_nI (by omega) (by omega), chk_true, tn_nI (by omega), rfs_D, b1, bd_s, hυ, nI_1, bnd_x, wI_s, RC_answer_n, bd2_s]
    obtain ⟨ω, c1, c2, c3, c4⟩ := copies_n (σ := wI (wI (wI υ 0 11 (nI (m + 1))) 0 0 0) 92 38 (nI (m + 1))) (f := 0) (t := m + 1) (by omega) (by omega) (by omega)
    have c1' : Mo_copies (wI (wI (wI υ 0 11 (nI (m + 1))) 0 0 0) 92 38 (nI (m + 1))) 0 (nI (m + 1)) = some ω := c1
    have e2 : Mo_mark (wI (wI υ 0 11 (nI (m + 1))) 0 0 0) = some (nI (m + 1), wI ω 92 2 0) := by
      unfold Mo_mark
      rw [Fc.i (by omega), m3, if_neg (by rw [show (3 : Int32) = nI 3 from rfl, eq_nI (by omega) (by omega)]; exact hm), nI_1, bnd_x, wI_s, c1', bd_s, c4.i (by omega), wI_s, Mo_gives_n, bd2_s]
    have Fm : Fp (fun a i => (a = 92 ∧ (i = 2 ∨ i = 38)) ∨ (a = 93 ∧ 404 * (m + 1) ≤ i ∧ i < 404 * (m + 1) + 404) ∨ (a = 94 ∧ 12 * (m + 1) ≤ i ∧ i < 12 * (m + 1) + 12)) (wI (wI υ 0 11 (nI (m + 1))) 0 0 0) (wI ω 92 2 0) := ((Fp.rf.wI (by omega)).tr (c4.mono (fun a i q => by omega))).wI (by omega)
    have s93 : ∀ k, k < 404 → (wI ω 92 2 0).1 93 (404 * (m + 1) + k) = σ.1 93 (0 + k) := fun k hk => by
      rw [wI_ne (by omega), c2 k hk, wI_ne (by omega), Fc.i (by omega), Nat.mul_zero]
    have s94 : ∀ k, k < 12 → (wI ω 92 2 0).2 94 (12 * (m + 1) + k) = σ.2 94 (0 + k) := fun k hk => by
      rw [wI_2, c3 k hk, wI_2, Fc.l (by omega), Nat.mul_zero]
    have f1 : ∀ {b i : Nat}, b < 92 → (wI ω 92 2 0).1 b i = (wI (wI υ 0 11 (nI (m + 1))) 0 0 0).1 b i := fun h => Fm.i (by omega)
    have f2 : ∀ {b i : Nat}, b < 92 → (wI ω 92 2 0).2 b i = (wI (wI υ 0 11 (nI (m + 1))) 0 0 0).2 b i := fun h => Fm.l (by omega)
    have g1 : ∀ {b i : Nat}, 59 + 11 * m ≤ b → b ≤ 62 + 11 * m → (wI ω 92 2 0).1 b i = τ.1 b i := fun h1 h2 => by rw [f1 (by omega), wI_ne (by omega), wI_ne (by omega), Fυ.i (by omega)]
    have g2 : ∀ {b i : Nat}, 59 + 11 * m ≤ b → b ≤ 62 + 11 * m → (wI ω 92 2 0).2 b i = τ.2 b i := fun h1 h2 => by rw [f2 (by omega), wI_2, wI_2, Fυ.l (by omega)]
    have g3 : ∀ {b i : Nat}, 63 + 11 * m ≤ b → b ≤ 69 + 11 * m → (wI ω 92 2 0).1 b i = υ.1 b i := fun h1 h2 => by rw [f1 (by omega), wI_ne (by omega), wI_ne (by omega)]
    refine ⟨_, _, _, e1, e2, inv_mk I ((Fc.mono (fun a i q => by unfold Amk; omega)).tr (Fm.mono (fun a i q => by unfold Amk; omega))) ?_ ⟨m + 1, by omega, ?_, ?_, fun i hi => ?_⟩⟩
    · rw [f1 (by omega), wI_s, wI_s]
    · rw [f1 (by omega), wI_ne (by omega), wI_s]
    · rw [wI_ne (by omega), c4.i (by omega), wI_s]
    · by_cases ei : i = m
      · subst ei
        refine ⟨sy.copy (q' := 12 * (i + 1)) ?_ ?_ ?_ (fun k hk => ?_) (fun k hk => ?_) (fun k hk => ?_) s93 s94, dy.copy ?_ ?_ (fun j k h1 h2 hk => ?_) s93⟩
        · rw [g1 (by omega) (by omega)]; exact a2
        · rw [g1 (by omega) (by omega)]; exact a3
        · rw [g1 (by omega) (by omega)]; exact a4
        · rw [g1 (by omega) (by omega)]; exact a5 k hk
        · rw [g1 (by omega) (by omega)]; exact a6 k hk
        · rw [g2 (by omega) (by omega)]; exact a7 k hk
        · rw [g3 (by omega) (by omega), b2, Fτ.i (by omega)]
        · rw [g3 (by omega) (by omega), b3, Fτ.i (by omega)]
        · rw [g3 (by omega) (by omega), b4 j k h1 h2 hk, Fτ.i (by omega)]
      · obtain ⟨q1, q2⟩ := m4 i (by omega)
        have hF := (Fc.mono (B := fun a i => (a = 0 ∧ (i = 0 ∨ i = 11)) ∨ (59 + 11 * m ≤ a ∧ a ≤ 69 + 11 * m) ∨ (a = 92 ∧ (i = 2 ∨ i = 38)) ∨ (a = 93 ∧ 404 * (m + 1) ≤ i ∧ i < 404 * (m + 1) + 404) ∨ (a = 94 ∧ 12 * (m + 1) ≤ i ∧ i < 12 * (m + 1) + 12)) (fun a i q => by omega)).tr (Fm.mono (fun a i q => by omega))
        exact ⟨q1.keep2 (hF.sm (fun b i q1 q2 q => by omega)) (fun i hi => hF.i (by omega)) (fun i hi => hF.l (by omega)), q2.keep2 (hF.sm (fun b i q1 q2 q => by omega)) (fun i hi => hF.i (by omega))⟩
