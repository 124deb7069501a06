/-! write, read -/
theorem holds_g {σ : St} {a n : Nat} (h : σ.1 a 2 = nI n) (hn : n ≤ 60) (p : Int32) {m : Nat} (hm : m < 2147483648) : Ty_holds σ a p (nI m) = some (if 0 ≤ p.toInt ∧ p.toInt + m ≤ n then 1 else 0) := by
  unfold Ty_holds
  have e : ∀ x : Int32, x.toInt64.toInt = x.toInt := fun x => Int32.toInt_toInt64 x
  have y0 : (0 : Int32).toInt = 0 := rfl
  have hr := i32_rng p
  have hmi : (nI m).toInt = m := nI_toInt hm
  have hni : (nI n).toInt = n := nI_toInt (by omega)
  have hs : (p.toInt64 + (nI m).toInt64).toInt = p.toInt + m := by
    rw [Int64.toInt_add, e, e, hmi]
    exact Int.bmod_eq_of_le (by omega) (by omega)
  by_cases h1 : p < 0
  · rw [if_pos h1, if_neg (by rw [Int32.lt_iff_toInt_lt] at h1; omega)]
  · rw [if_neg h1, if_neg (nI_pos hm), h]
    rw [Int32.lt_iff_toInt_lt] at h1
    by_cases h2 : (nI n).toInt64 < p.toInt64 + (nI m).toInt64
    · rw [if_pos h2, if_neg (by rw [Int64.lt_iff_toInt_lt, hs, e, hni] at h2; omega)]
    · rw [if_neg h2, if_pos (by rw [Int64.lt_iff_toInt_lt, hs, e, hni] at h2; omega)]
/-- where write and read may go -/
theorem place_n {σ : St} (tr : RTr σ) (p p2 : Int32) : ∃ v : Nat, v ≤ 3 ∧ RC_placeTrouble σ p p2 = some (nI v) ∧ (∀ σ1 : St, (∀ t, σ1.1 96 t = σ.1 96 t) → Mo_wrongPlace σ1 p p2 = some (nI v)) ∧ (v = 0 → ∃ t k n, t < 4 ∧ k < n ∧ n ≤ 60 ∧ p = nI t ∧ p2 = nI k ∧ σ.1 96 t = nI n ∧ σ.1 (51 + 2 * t) 2 = nI n) := by
  rcases within_ex p (lo := 0) (hi := 3) 0 3 rfl rfl (by omega) with h | ⟨t, _, ht, rfl, h⟩
  · refine ⟨1, by omega, ?_, fun σ1 F => ?_, fun q => by omega⟩
    · unfold RC_placeTrouble RC_trayTrouble
      rw [h, bd_s, if_pos rfl, bd_s, if_neg (by decide)]; rfl
    · unfold Mo_wrongPlace
      rw [isTray_w, h, bd_s, if_pos rfl]; rfl
  · obtain ⟨c1, c2, c3⟩ := tr t (by omega)
    have hx : ix (nI t) 4 = true := by rw [ix_nI (by omega) (by omega)]
    rcases c3 with c3 | ⟨n, d1, d2, d3⟩
    · refine ⟨2, by omega, ?_, fun σ1 F => ?_, fun q => by omega⟩
      · unfold RC_placeTrouble RC_trayTrouble Ty_isMissing
        rw [h, bd_s, if_neg (by decide), hx, chk_true, tn_nI (by omega), rfs_T, c2, c3, if_pos rfl, bd_s, if_neg (by decide), bd_s, if_neg (by decide)]; rfl
      · unfold Mo_wrongPlace
        rw [isTray_w, h, bd_s, if_neg (by decide), hx, chk_true, tn_nI (by omega), F, c3, if_pos rfl]; rfl
    · have hne : ¬ nI n = (-1 : Int32) := fun q => by
        have := congrArg Int32.toInt q
        rw [nI_toInt (by omega), show (-1 : Int32).toInt = -1 from rfl] at this
        omega
      have hh := holds_g (σ := σ) (a := 51 + 2 * t) (n := n) (c2.trans d2) d1 p2 (m := 1) (by omega)
      have y0 : (0 : Int32).toInt = 0 := rfl
      by_cases hq : 0 ≤ p2.toInt ∧ p2.toInt + (1 : Nat) ≤ n
      · rw [if_pos hq] at hh
        refine ⟨0, by omega, ?_, fun σ1 F => ?_, fun _ => ⟨t, p2.toInt.toNat, n, by omega, by omega, d1, rfl, ?_, d2, c2.trans d2⟩⟩
        · unfold RC_placeTrouble RC_trayTrouble Ty_isMissing
          rw [h, bd_s, if_neg (by decide), hx, chk_true, tn_nI (by omega), rfs_T, c2, d2, if_neg hne, bd_s, if_pos rfl, bd_s, if_pos rfl, chk_true, show (1 : Int32) = nI 1 from rfl, hh, bd_s, if_neg (by decide)]; rfl
        · unfold Mo_wrongPlace
          rw [isTray_w, h, bd_s, if_neg (by decide), hx, chk_true, tn_nI (by omega), F, d2, if_neg hne, if_neg (by rw [Int32.lt_iff_toInt_lt]; omega), chk_true, if_pos (by rw [Int32.lt_iff_toInt_lt, nI_toInt (by omega)]; omega)]; rfl
        · apply Int32.toInt_inj.mp
          rw [nI_toInt (by omega)]
          omega
      · rw [if_neg hq] at hh
        refine ⟨3, by omega, ?_, fun σ1 F => ?_, fun q => by omega⟩
        · unfold RC_placeTrouble RC_trayTrouble Ty_isMissing
          rw [h, bd_s, if_neg (by decide), hx, chk_true, tn_nI (by omega), rfs_T, c2, d2, if_neg hne, bd_s, if_pos rfl, bd_s, if_pos rfl, chk_true, show (1 : Int32) = nI 1 from rfl, hh, bd_s, if_pos rfl]; rfl
        · unfold Mo_wrongPlace
          rw [isTray_w, h, bd_s, if_neg (by decide), hx, chk_true, tn_nI (by omega), F, d2, if_neg hne]
          by_cases q : p2 < 0
          · rw [if_pos q]; rfl
          · rw [if_neg q, chk_true, if_neg (by rw [Int32.lt_iff_toInt_lt] at q ⊢; rw [nI_toInt (by omega)]; omega)]; rfl
theorem cut_n {σ : St} {a : Nat} (v : Int64) {s : Int32} (h : σ.1 a 1 = s) : Ty_cut σ a v = Mo_cut v s := by
  unfold Ty_cut Mo_cut
  rw [h]
theorem cut_ex (v : Int64) (s : Int32) : ∃ r, Mo_cut v s = some r := by
  unfold Mo_cut
  by_cases h0 : s = 0
  · rw [if_pos h0]; exact ⟨_, rfl⟩
  · by_cases h1 : s = 1
    · rw [if_neg h0, if_pos h1]; exact ⟨_, rfl⟩
    · by_cases h2 : s = 2
      · rw [if_neg h0, if_neg h1, if_pos h2]; exact ⟨_, rfl⟩
      · rw [if_neg h0, if_neg h1, if_neg h2]; exact ⟨_, rfl⟩
/-- a number into a tray on both sides -/
theorem RTr.put {σ σ2 : St} (tr : RTr σ) {t k : Nat} {r : Int64} (ht : t < 4) (hk : k < 60) (F : Fp (fun a i => ¬ (51 ≤ a ∧ a ≤ 58) ∧ ¬ (95 ≤ a ∧ a ≤ 97)) (wL (wL σ (52 + 2 * t) k r) 97 (60 * t + k) r) σ2) : RTr σ2 := by
  refine RTr.keep (σ := wL (wL σ (52 + 2 * t) k r) 97 (60 * t + k) r) (fun x hx => ?_) (F.sm (fun b i q1 q2 q => by omega)) (F.sm (fun b i q1 q2 q => by omega))
  obtain ⟨c1, c2, c3⟩ := tr x hx
  refine ⟨c1, c2, ?_⟩
  rcases c3 with c3 | ⟨n, d1, d2, d3⟩
  · exact Or.inl c3
  · refine Or.inr ⟨n, d1, d2, fun j hj => ?_⟩
    by_cases e : x = t ∧ j = k
    · rw [e.1, e.2, wL_s, wL_ne (by omega), wL_s]
    · rw [wL_ne (by omega), wL_ne (by omega), wL_ne (by omega), wL_ne (by omega)]; exact d3 j hj
theorem call_write {σ : St} (I : Inv σ) (p p2 : Int32) (p3 : Int64) : Call (fun σ => RC_write σ p p2 p3) (fun σ => Mo_write σ p p2 p3) σ := by
  have tr := I.2.2.1
  obtain ⟨v, hv, h1, h2, h3⟩ := place_n tr p p2
  by_cases hz : v = 0
  · subst hz
    obtain ⟨t, k, n, ht, hk, hn, rfl, rfl, g1, g2⟩ := h3 rfl
    obtain ⟨c1, c2, c3⟩ := tr t ht
    obtain ⟨r, hr⟩ := cut_ex p3 (σ.1 95 t)
    have hh := holds_g (σ := σ) (a := 51 + 2 * t) (n := n) g2 hn (nI k) (m := 1) (by omega)
    rw [nI_toInt (by omega), if_pos (by omega)] at hh
    have hx : ix (nI t) 4 = true := by rw [ix_nI (by omega) (by omega)]
    have e1 : RC_write σ (nI t) (nI k) p3 = some (1, wI (wL σ (52 + 2 * t) k r) 0 0 0) := by
      unfold RC_write
      rw [h1, bd_s, if_pos (show nI 0 = 0 from rfl), hx, chk_true, tn_nI (by omega), rfs_T]
      unfold Ty_put
      rw [show (1 : Int32) = nI 1 from rfl, hh, bd_s, if_neg (by decide), cut_n p3 c1, hr, bd_s, ix_nI (by omega) (by omega), chk_true, tn_nI (by omega), bnd_x, bd_s, RC_agree_n, bd2_s, ckl1, chk_true, show 51 + 2 * t + 1 = 52 + 2 * t by omega]
      rfl
    have e2 : Mo_write (wI (wL σ (52 + 2 * t) k r) 0 0 0) (nI t) (nI k) p3 = some (1, wI (wL (wI (wL σ (52 + 2 * t) k r) 0 0 0) 97 (60 * t + k) r) 92 2 0) := by
      unfold Mo_write
      rw [h2 (wI (wL σ (52 + 2 * t) k r) 0 0 0) (fun t => rfl), bd_s, if_pos (show nI 0 = 0 from rfl), hx, chk_true, tn_nI (by omega), show (wI (wL σ (52 + 2 * t) k r) 0 0 0).1 95 t = σ.1 95 t from rfl, hr, bd_s, mul60, ix_nI (by omega) (by omega), chk_true, tn_nI (by omega), bnd_x, show nI 0 = 0 from rfl, Mo_is_0, bd2_s, ckl1, chk_true]
    refine call_tr (v := 0) I e1 ((Fp.rf.wL (by omega)).wI (by omega)) wI_s e2 ((Fp.rf.wL (by omega)).wI (by omega)) wI_s (tr.put ht (by omega) (r := r) (k := k) ?_)
    exact (Fp.wI (σ1 := wI (wL (wL σ (52 + 2 * t) k r) 97 (60 * t + k) r) 0 0 0) (Fp.rf.wI (by omega)) (by omega))
  · have hne : ¬ nI v = 0 := by rw [show (0 : Int32) = nI 0 from rfl, eq_nI (by omega) (by omega)]; exact hz
    refine call_s (r := 0) (v := nI v) I ?_ (fun σ1 F => ?_)
    · show RC_write σ p p2 p3 = _
      unfold RC_write
      rw [h1, bd_s, if_neg hne, RC_deny_n, bd2_s, ckl0, chk_true]
    · show Mo_write σ1 p p2 p3 = _
      unfold Mo_write
      rw [h2 σ1 (fun t => F.i (by unfold Ac0; omega)), bd_s, if_neg hne, Mo_is_n _ hne, bd2_s, ckl0, chk_true]
theorem call_read {σ : St} (I : Inv σ) (p p2 : Int32) : Call (fun σ => RC_read σ p p2) (fun σ => Mo_read σ p p2) σ := by
  have tr := I.2.2.1
  obtain ⟨v, hv, h1, h2, h3⟩ := place_n tr p p2
  by_cases hz : v = 0
  · subst hz
    obtain ⟨t, k, n, ht, hk, hn, rfl, rfl, g1, g2⟩ := h3 rfl
    obtain ⟨c1, c2, c3⟩ := tr t ht
    have hx : ix (nI t) 4 = true := by rw [ix_nI (by omega) (by omega)]
    have hh := holds_g (σ := wI σ 0 0 0) (a := 51 + 2 * t) (n := n) ((wI_ne (by omega)).trans g2) hn (nI k) (m := 1) (by omega)
    rw [nI_toInt (by omega), if_pos (by omega)] at hh
    have hd : σ.2 (52 + 2 * t) k = σ.2 97 (60 * t + k) := by
      rcases c3 with c3 | ⟨n', d1, d2, d3⟩
      · rw [c3] at g1
        have := congrArg Int32.toInt g1
        rw [nI_toInt (by omega), show (-1 : Int32).toInt = -1 from rfl] at this
        omega
      · rw [d2] at g1
        have : n' = n := (eq_nI (by omega) (by omega)).mp g1
        exact d3 k (by omega)
    refine call_s (r := σ.2 97 (60 * t + k)) (v := 0) I ?_ (fun σ1 F => ?_)
    · show RC_read σ (nI t) (nI k) = _
      unfold RC_read
      rw [h1, bd_s, if_pos (show nI 0 = 0 from rfl), bnd_x, hx, chk_true, tn_nI (by omega), rfs_T]
      unfold Ty_at
      rw [show (1 : Int32) = nI 1 from rfl, hh, bd_s, if_neg (by decide), ix_nI (by omega) (by omega), chk_true, tn_nI (by omega), bd_s, show 51 + 2 * t + 1 = 52 + 2 * t by omega, wI_2, hd]
    · show Mo_read σ1 (nI t) (nI k) = _
      unfold Mo_read
      rw [h2 σ1 (fun t => F.i (by unfold Ac0; omega)), bd_s, bnd_x, wI_s, if_pos (by decide), mul60, ix_nI (by omega) (by omega), chk_true, tn_nI (by omega), wI_2, F.l (by unfold Ac0; omega)]
      rfl
  · have hne : ¬ nI v = 0 := by rw [show (0 : Int32) = nI 0 from rfl, eq_nI (by omega) (by omega)]; exact hz
    refine call_s (r := -1) (v := nI v) I ?_ (fun σ1 F => ?_)
    · show RC_read σ p p2 = _
      unfold RC_read
      rw [h1, bd_s, if_neg hne, RC_refuse_n, bd2_s]
      rfl
    · show Mo_read σ1 p p2 = _
      unfold Mo_read
      rw [h2 σ1 (fun t => F.i (by unfold Ac0; omega)), bd_s, bnd_x, wI_s, if_neg (by rw [show (0 : Int32) = nI 0 from rfl, le_nI (by omega) (by omega)]; omega)]
