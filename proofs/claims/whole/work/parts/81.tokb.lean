section TKB
variable {n : Nat} {bt : Nat → Nat}
def TT (σ : St) (bt : Nat → Nat) (n N : Nat) : Prop := ∀ j, j < N → σ.1 4 j = nI (kC bt n (ts bt n j)) ∧ σ.1 5 j = nI (ts bt n j) ∧ σ.2 6 j = vC bt n (ts bt n j)
theorem TT.put {σ : St} {N : Nat} (h : TT σ bt n N) (x : Int32) : TT (wI (wL (wI (wI σ 4 N (nI (kC bt n (ts bt n N)))) 5 N (nI (ts bt n N))) 6 N (vC bt n (ts bt n N))) 2 6 x) bt n (N + 1) := by
  intro j hj
  by_cases c : j = N
  · subst c
    refine ⟨?_, ?_, ?_⟩
    · rw [wI_ne (by omega)]
      show (wI (wI σ 4 j (nI (kC bt n (ts bt n j)))) 5 j (nI (ts bt n j))).1 4 j = _
      rw [wI_ne (by omega), wI_s]
    · rw [wI_ne (by omega)]
      show (wI (wI σ 4 j (nI (kC bt n (ts bt n j)))) 5 j (nI (ts bt n j))).1 5 j = _
      rw [wI_s]
    · show (wL (wI (wI σ 4 j (nI (kC bt n (ts bt n j)))) 5 j (nI (ts bt n j))) 6 j (vC bt n (ts bt n j))).2 6 j = _
      rw [wL_s]
  · obtain ⟨h1, h2, h3⟩ := h j (by omega)
    refine ⟨?_, ?_, ?_⟩
    · rw [wI_ne (by omega)]
      show (wI (wI σ 4 N (nI (kC bt n (ts bt n N)))) 5 N (nI (ts bt n N))).1 4 j = _
      rw [wI_ne (by omega), wI_ne (by omega)]; exact h1
    · rw [wI_ne (by omega)]
      show (wI (wI σ 4 N (nI (kC bt n (ts bt n N)))) 5 N (nI (ts bt n N))).1 5 j = _
      rw [wI_ne (by omega), wI_ne (by omega)]; exact h2
    · show (wL (wI (wI σ 4 N (nI (kC bt n (ts bt n N)))) 5 N (nI (ts bt n N))) 6 N (vC bt n (ts bt n N))).2 6 j = _
      rw [wL_ne (by omega)]; exact h3
def Abg (a j : Nat) : Prop := a = 4 ∨ a = 5 ∨ a = 6 ∨ (a = 2 ∧ j = 6)
theorem beginL {σ : St} (h : TxC σ n bt) (h6 : σ.1 2 6 = nI 0) : ∃ σ', iter (fun s : (Int32 × Int32 × St) => Re_begin_L48 s.2.2 s.1 s.2.1) FUEL (nI (ts bt n 0), nI 0, σ) = some σ' ∧ TT σ' bt n (nT bt n) ∧ σ'.1 2 6 = nI (nT bt n) ∧ Fp Abg σ σ' := by
  obtain ⟨t1, t2, t3⟩ := nT_p (n := n) (bt := bt)
  have hn := h.1
  have key := iter_ix (body := fun s : (Int32 × Int32 × St) => Re_begin_L48 s.2.2 s.1 s.2.1) (fun m u => ∃ k, m = nT bt n - k ∧ k ≤ nT bt n ∧ u.1 = nI (ts bt n k) ∧ u.2.1 = nI k ∧ TT u.2.2 bt n k ∧ u.2.2.1 2 6 = nI k ∧ Fp Abg σ u.2.2) (fun e => TT e bt n (nT bt n) ∧ e.1 2 6 = nI (nT bt n) ∧ Fp Abg σ e) ?_ FUEL (nT bt n) (nI (ts bt n 0), nI 0, σ) ⟨0, rfl, by omega, rfl, rfl, fun j hj => absurd hj (Nat.not_lt_zero _), h6, Fp.rf (A := Abg)⟩ (fuel (by omega))
  · obtain ⟨e, b1, b2⟩ := key
    exact ⟨e, b1, b2⟩
  · rintro m ⟨_, _, τ⟩ ⟨k, rfl, hk, rfl, rfl, hT, hk6, F⟩
    have hT : TT τ bt n k := hT
    have hk6 : τ.1 2 6 = nI k := hk6
    have F : Fp Abg σ τ := F
    have hX : TxC τ n bt := h.k F ⟨by unfold Abg; omega, fun i => by unfold Abg; omega⟩
    by_cases z : k = nT bt n
    · right
      refine ⟨τ, ?_, by rw [← z]; exact hT, by rw [← z]; exact hk6, F⟩
      show Re_begin_L48 τ (nI (ts bt n k)) (nI k) = _
      unfold Re_begin_L48
      by_cases c : 900 ≤ k
      · rw [show (900 : Int32) = nI 900 from rfl, if_pos (by rw [le_nI (by omega) (by omega)]; omega)]
      · rw [show (900 : Int32) = nI 900 from rfl, if_neg (by rw [le_nI (by omega) (by omega)]; omega), hX.2.1, z, t2, if_pos (by rw [le_nI (by omega) (by omega)]; omega)]
    · left
      have hlt := t3 k (by omega)
      have hge := ts_ge k hlt
      obtain ⟨e1, e2⟩ := tkE_b (bt := bt) hlt
      have hw := keepC hk6 (by omega) (nI (kC bt n (ts bt n k))) (nI (ts bt n k)) (vC bt n (ts bt n k))
      have F2 : Fp Abg τ (wI (wL (wI (wI τ 4 k (nI (kC bt n (ts bt n k)))) 5 k (nI (ts bt n k))) 6 k (vC bt n (ts bt n k))) 2 6 (nI (k + 1))) := Fp.wI (A := Abg) (Fp.wL (A := Abg) (Fp.wI (A := Abg) (Fp.wI (A := Abg) (Fp.rf (A := Abg)) (by unfold Abg; omega)) (by unfold Abg; omega)) (by unfold Abg; omega)) (by unfold Abg; omega)
      have hX2 := hX.k F2 ⟨by unfold Abg; omega, fun i => by unfold Abg; omega⟩
      refine ⟨(nI (ts bt n (k + 1)), nI (k + 1), wI (wL (wI (wI τ 4 k (nI (kC bt n (ts bt n k)))) 5 k (nI (ts bt n k))) 6 k (vC bt n (ts bt n k))) 2 6 (nI (k + 1))), nT bt n - (k + 1), ?_, ⟨k + 1, rfl, by omega, rfl, rfl, hT.put _, wI_s, F.tr F2⟩, by omega⟩
      show Re_begin_L48 τ (nI (ts bt n k)) (nI k) = _
      unfold Re_begin_L48
      rw [show (900 : Int32) = nI 900 from rfl, if_neg (by rw [le_nI (by omega) (by omega)]; omega), hX.2.1, if_neg (by rw [le_nI (by omega) (by omega)]; omega), findC hX hlt, hw, bd_s, bd2_s, skipC hX2 e2, bd_s, nI_1, bnd_x]; rfl
theorem begin_n {σ : St} (hn : n ≤ 900) (hb : ∀ k, k < n → vp_nar .byte (σ.1 3 k) = σ.1 3 k ∧ ub (σ.1 3 k) = bt k) : ∃ σ', Re_begin σ (nI n) = some σ' ∧ TT σ' bt n (nT bt n + 1) ∧ σ'.1 2 6 = nI (nT bt n + 1) ∧ σ'.1 2 7 = nI 0 ∧ σ'.1 2 9 = 0 ∧ σ'.1 2 10 = -1 ∧ σ'.1 2 1 = 0 := by
  obtain ⟨t1, t2, t3⟩ := nT_p (n := n) (bt := bt)
  have hj : jmax 0 (jmin (nI n) 900) = nI n := by
    rw [show (900 : Int32) = nI 900 from rfl, show (0 : Int32) = nI 0 from rfl, jmin_nI (by omega) (by omega), jmax_nI (by omega) (by omega)]
    congr 1; omega
  obtain ⟨τ, hτ⟩ : ∃ τ, τ = wI (wI (wI (wI (wI (wI σ 2 2 (nI n)) 2 1 0) 2 9 0) 2 10 (-1)) 2 6 0) 2 7 0 := ⟨_, rfl⟩
  have F1 : Fp (fun a _ => a = 2) σ τ := by
    rw [hτ]
    exact Fp.wI (A := fun a _ => a = 2) (Fp.wI (A := fun a _ => a = 2) (Fp.wI (A := fun a _ => a = 2) (Fp.wI (A := fun a _ => a = 2) (Fp.wI (A := fun a _ => a = 2) (Fp.wI (A := fun a _ => a = 2) (Fp.rf (A := fun a _ => a = 2)) rfl) rfl) rfl) rfl) rfl) rfl
  have x2 : τ.1 2 2 = nI n := by rw [hτ, wI_ne (by omega), wI_ne (by omega), wI_ne (by omega), wI_ne (by omega), wI_ne (by omega), wI_s]
  have x1 : τ.1 2 1 = 0 := by rw [hτ, wI_ne (by omega), wI_ne (by omega), wI_ne (by omega), wI_ne (by omega), wI_s]
  have x9 : τ.1 2 9 = 0 := by rw [hτ, wI_ne (by omega), wI_ne (by omega), wI_ne (by omega), wI_s]
  have x10 : τ.1 2 10 = -1 := by rw [hτ, wI_ne (by omega), wI_ne (by omega), wI_s]
  have x6 : τ.1 2 6 = nI 0 := by rw [hτ, wI_ne (by omega), wI_s]; rfl
  have x7 : τ.1 2 7 = nI 0 := by rw [hτ, wI_s]; rfl
  have hX : TxC τ n bt := ⟨hn, x2, fun k hk => by rw [F1.i (by omega)]; exact hb k hk⟩
  obtain ⟨ρ, r1, r2, r3, r4⟩ := beginL hX x6
  have y : ∀ j, ¬ j = 6 → ρ.1 2 j = τ.1 2 j := fun j hj => r4.i (by unfold Abg; omega)
  have k0 : (nI (kC bt n (ts bt n (nT bt n)))) = 0 := by rw [t2]; unfold kC; rw [if_neg (Nat.lt_irrefl _)]; rfl
  have v0 : vC bt n (ts bt n (nT bt n)) = 0 := by rw [t2]; unfold vC; rw [if_neg (Nat.lt_irrefl _)]
  have hw := keepC r3 (by omega) 0 (nI n) 0
  have hp := r2.put (nI (nT bt n + 1))
  rw [k0, v0, t2] at hp
  refine ⟨_, ?_, hp, wI_s, ?_, ?_, ?_, ?_⟩
  · unfold Re_begin
    rw [hj, bnd_x, bnd_x, bnd_x, bnd_x, bnd_x, bnd_x, ← hτ, show (0 : Int32) = nI 0 from rfl, skipC hX (Nat.zero_le _), bd_s]
    show bd (iter (fun s : (Int32 × Int32 × St) => Re_begin_L48 s.2.2 s.1 s.2.1) FUEL (nI (ts bt n 0), nI 0, τ)) _ = _
    rw [r1, bd_s, y 2 (by omega), x2]
    show bd (Re_keep ρ 0 (nI n) 0) _ = _
    rw [hw, bd_s]; rfl
  · rw [wI_ne (by omega)]
    show (wI (wI ρ 4 (nT bt n) 0) 5 (nT bt n) (nI n)).1 2 7 = _
    rw [wI_ne (by omega), wI_ne (by omega), y 7 (by omega)]; exact x7
  · rw [wI_ne (by omega)]
    show (wI (wI ρ 4 (nT bt n) 0) 5 (nT bt n) (nI n)).1 2 9 = _
    rw [wI_ne (by omega), wI_ne (by omega), y 9 (by omega)]; exact x9
  · rw [wI_ne (by omega)]
    show (wI (wI ρ 4 (nT bt n) 0) 5 (nT bt n) (nI n)).1 2 10 = _
    rw [wI_ne (by omega), wI_ne (by omega), y 10 (by omega)]; exact x10
  · rw [wI_ne (by omega)]
    show (wI (wI ρ 4 (nT bt n) 0) 5 (nT bt n) (nI n)).1 2 1 = _
    rw [wI_ne (by omega), wI_ne (by omega), y 1 (by omega)]; exact x1
end TKB
