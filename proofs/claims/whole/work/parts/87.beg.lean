section BEG
variable {n : Nat} {bt : Nat → Nat}
theorem copyB {τ : St} (hn : n ≤ 900) : ∃ τ', iter (fun s : (Int32 × St) => Mo_begins_L26 (nI n) s.2 s.1) FUEL (0, τ) = some τ' ∧ (∀ j, j < n → τ'.1 99 j = vp_nar .byte (τ.1 98 j)) ∧ Fp (fun a _ => a = 99) τ τ' := by
  have key := iter_cnt (body := fun s : (Int32 × St) => Mo_begins_L26 (nI n) s.2 s.1) (fun k s => s.1 = nI k ∧ (∀ j, j < k → s.2.1 99 j = vp_nar .byte (τ.1 98 j)) ∧ Fp (fun a _ => a = 99) τ s.2) (fun e => (∀ j, j < n → e.1 99 j = vp_nar .byte (τ.1 98 j)) ∧ Fp (fun a _ => a = 99) τ e) (lo := 0) (hi := n) (n := FUEL) (Nat.zero_le _) (fuel (by omega)) ?_ ?_ (s := (0, τ)) ⟨rfl, fun j hj => absurd hj (Nat.not_lt_zero _), Fp.rf (A := fun a _ => a = 99)⟩
  · exact key
  · rintro k ⟨_, u⟩ h1 h2 ⟨rfl, hq, F⟩
    have hq : ∀ j, j < k → u.1 99 j = vp_nar .byte (τ.1 98 j) := hq
    have F : Fp (fun a _ => a = 99) τ u := F
    refine ⟨(nI (k + 1), wI u 99 k (vp_nar .byte (u.1 98 k))), ?_, rfl, fun j hj => ?_, Fp.wI (A := fun a _ => a = 99) F rfl⟩
    · show Mo_begins_L26 (nI n) u (nI k) = _
      unfold Mo_begins_L26
      rw [if_neg (by rw [le_nI (by omega) (by omega)]; omega), ix_nI (by omega) (by omega), chk_true, chk_true, tn_nI (by omega), bnd_x, nI_1, bnd_x]
    · show (wI u 99 k (vp_nar .byte (u.1 98 k))).1 99 j = _
      by_cases c : j = k
      · rw [c, wI_s, F.i (by omega)]
      · rw [wI_ne (by omega)]; exact hq j (by omega)
  · rintro ⟨_, u⟩ ⟨rfl, hq, F⟩
    refine ⟨u, ?_, hq, F⟩
    show Mo_begins_L26 (nI n) u (nI n) = _
    unfold Mo_begins_L26
    rw [if_pos (by rw [le_nI (by omega) (by omega)]; omega)]
theorem begins_n {τ : St} {N lim : Nat} (hN : τ.1 92 10 = nI N) (hN9 : N ≤ 900) (hn : n ≤ N) (hl : n ≤ lim) (hl9 : lim ≤ 900) (hb : ∀ k, k < n → vp_nar .byte (τ.1 98 k) = τ.1 98 k ∧ ub (τ.1 98 k) = bt k) : ∃ τ', Mo_begins τ (nI n) (nI lim) = some (1, τ') ∧ PM τ τ' bt n 0 := by
  obtain ⟨ρ, r1, r2, r3⟩ := copyB (τ := wI τ 92 11 (nI n)) (n := n) (by omega)
  obtain ⟨υ, hυ⟩ : ∃ υ, υ = wI (wI (wI (wI ρ 92 10 0) 92 18 0) 92 17 (-1)) 92 14 0 := ⟨_, rfl⟩
  have F0 : Fp AM τ (wI τ 92 11 (nI n)) := Fp.wI (A := AM) (Fp.rf (A := AM)) (by unfold AM; omega)
  have F1 : Fp AM τ ρ := F0.tr (r3.mono (fun a j q => by unfold AM; omega))
  have F2 : Fp AM τ υ := by
    rw [hυ]
    exact Fp.wI (A := AM) (Fp.wI (A := AM) (Fp.wI (A := AM) (Fp.wI (A := AM) F1 (by unfold AM; omega)) (by unfold AM; omega)) (by unfold AM; omega)) (by unfold AM; omega)
  have x11 : υ.1 92 11 = nI n := by rw [hυ, wI_ne (by omega), wI_ne (by omega), wI_ne (by omega), wI_ne (by omega), r3.i (by omega), wI_s]
  have x14 : υ.1 92 14 = nI 0 := by rw [hυ, wI_s]; rfl
  have x17 : υ.1 92 17 = -1 := by rw [hυ, wI_ne (by omega), wI_s]
  have x18 : υ.1 92 18 = 0 := by rw [hυ, wI_ne (by omega), wI_ne (by omega), wI_s]
  have x10 : υ.1 92 10 = 0 := by rw [hυ, wI_ne (by omega), wI_ne (by omega), wI_ne (by omega), wI_s]
  have hX : TxM υ n bt := ⟨by omega, x11, fun k hk => by
    obtain ⟨b1, b2⟩ := hb k hk
    obtain ⟨u1, u2, _⟩ := ub_n b1
    have e : υ.1 99 k = τ.1 98 k := by rw [hυ, wI_ne (by omega), wI_ne (by omega), wI_ne (by omega), wI_ne (by omega), r2 k hk, wI_ne (by omega), b1]
    rw [e, ← b2]
    exact ⟨u2, u1⟩⟩
  obtain ⟨ω, o1, o2, o3⟩ := aheadN hX (Nat.zero_le _) x14
  refine ⟨ω, ?_, ⟨o2, (o3.i (by unfold A4; omega)).trans x18, (o3.i (by unfold A4; omega)).trans x17, F2.tr (o3.mono (fun a j q => A4_M q)), (o3.i (by unfold A4; omega)).trans x10⟩⟩
  unfold Mo_begins
  rw [if_neg (show ¬ nI n < 0 by rw [show (0 : Int32) = nI 0 from rfl, lt_nI (by omega) (by omega)]; omega), hN, if_neg (by rw [lt_nI (by omega) (by omega)]; omega), if_pos (by rw [le_nI (by omega) (by omega)]; omega), bnd_x, r1, bd_s, bnd_x, bnd_x, bnd_x, bnd_x, ← hυ, o1, bd_s]
theorem begins_no {τ : St} {p : Int32} {N lim : Nat} (hN : τ.1 92 10 = nI N) (hN9 : N ≤ 900) (hl9 : lim ≤ 900) (h : p.toInt < 0 ∨ (N : Int) < p.toInt ∨ (lim : Int) < p.toInt) : Mo_begins τ p (nI lim) = some (0, τ) := by
  unfold Mo_begins
  rw [hN]
  by_cases c0 : p < 0
  · rw [if_pos c0]
  · rw [if_neg c0]
    by_cases c1 : nI N < p
    · rw [if_pos c1]
    · rw [if_neg c1]
      by_cases c2 : p ≤ nI lim
      · exfalso
        have e0 : ¬ p.toInt < 0 := fun q => c0 ((fa_lt _ _).mpr q)
        have e1 : ¬ (N : Int) < p.toInt := fun q => c1 ((fa_lt _ _).mpr (by rw [nI_toInt (by omega)]; exact q))
        have e2 : p.toInt ≤ (lim : Int) := by
          have := (fa_le _ _).mp c2
          rw [nI_toInt (by omega)] at this
          exact this
        omega
      · rw [if_neg c2]
def Apl (o a j : Nat) : Prop := a = 93 ∧ o ≤ j ∧ j < o + 404
theorem plain_n {τ : St} {o : Nat} (ho : o + 404 ≤ 2060) : ∃ τ', Mo_plain τ (nI o) = some τ' ∧ (∀ j, j < 404 → ¬ j = 1 → ¬ j = 2 → τ'.1 93 (o + j) = 0) ∧ τ'.1 93 (o + 1) = 4 ∧ τ'.1 93 (o + 2) = -1 ∧ Fp (Apl o) τ τ' := by
  have key := iter_cnt (body := fun s : (Int32 × St) => Mo_plain_L2 (nI o) s.2 s.1) (fun k s => s.1 = nI k ∧ (∀ j, j < k → s.2.1 93 (o + j) = 0) ∧ Fp (Apl o) τ s.2) (fun e => (∀ j, j < 404 → e.1 93 (o + j) = 0) ∧ Fp (Apl o) τ e) (lo := 0) (hi := 404) (n := FUEL) (Nat.zero_le _) (fuel (by omega)) ?_ ?_ (s := (0, τ)) ⟨rfl, fun j hj => absurd hj (Nat.not_lt_zero _), Fp.rf (A := Apl o)⟩
  · obtain ⟨ρ, r1, r2, r3⟩ := key
    refine ⟨wI (wI ρ 93 (o + 1) 4) 93 (o + 2) (-1), ?_, fun j h1 h2 h3 => ?_, ?_, wI_s, Fp.wI (A := Apl o) (Fp.wI (A := Apl o) r3 (by unfold Apl; omega)) (by unfold Apl; omega)⟩
    · unfold Mo_plain
      rw [r1, bd_s, nI_1, ix_nI (by omega) (by omega), chk_true, tn_nI (by omega), bnd_x, show (2 : Int32) = nI 2 from rfl, nI_add, ix_nI (by omega) (by omega), chk_true, tn_nI (by omega), bnd_x]
    · rw [wI_ne (by omega), wI_ne (by omega)]; exact r2 j h1
    · rw [wI_ne (by omega), wI_s]
  · rintro k ⟨_, u⟩ h1 h2 ⟨rfl, hq, F⟩
    have hq : ∀ j, j < k → u.1 93 (o + j) = 0 := hq
    have F : Fp (Apl o) τ u := F
    refine ⟨(nI (k + 1), wI u 93 (o + k) 0), ?_, rfl, fun j hj => ?_, Fp.wI (A := Apl o) F (by unfold Apl; omega)⟩
    · show Mo_plain_L2 (nI o) u (nI k) = _
      unfold Mo_plain_L2
      rw [show (404 : Int32) = nI 404 from rfl, if_neg (by rw [le_nI (by omega) (by omega)]; omega), nI_add, ix_nI (by omega) (by omega), chk_true, tn_nI (by omega), bnd_x, nI_1, bnd_x]
    · show (wI u 93 (o + k) 0).1 93 (o + j) = _
      by_cases c : j = k
      · rw [c, wI_s]
      · rw [wI_ne (by omega)]; exact hq j (by omega)
  · rintro ⟨_, u⟩ ⟨rfl, hq, F⟩
    refine ⟨u, ?_, hq, F⟩
    show Mo_plain_L2 (nI o) u (nI 404) = _
    unfold Mo_plain_L2
    rw [show (404 : Int32) = nI 404 from rfl, if_pos (by rw [le_nI (by omega) (by omega)]; omega)]
end BEG
