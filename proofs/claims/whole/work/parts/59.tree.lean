/-! the reference's tree, level by level -/
def Atr (a i : Nat) : Prop := a = 103 ∨ a = 104
def Row (σ : St) (n : Nat) (P : Nat → Bool) : Prop := ∀ a, a < n → σ.1 103 a = if P a = true then 1 else 0
theorem vnbb (b : Bool) : vp_nar .boolean (if b = true then (1 : Int32) else 0) = if b = true then 1 else 0 := by cases b <;> decide
section BFS
variable {c od on : Nat} {rs md nm : Nat → Nat}
theorem level_n {σ : St} {m y0 y1 y2 y3 : Nat} {P : Nat → Bool} {kd : Nat → Nat} (h : MV σ 0 0 c od on rs md nm) (w : WF c od on rs md nm) (hm1 : 1 ≤ m) (hm : m ≤ 5040) (hr : Row σ m P) (ht : T4 σ 104 y0 y1 y2 y3) (hkd : ∀ a, kd a = kdn c on rs md a m) : ∃ σ', iter (fun u : (Int32 × Int32 × St) => Mo_laysTree_L46 (nI m) u.2.2 u.1 u.2.1) FUEL (0, 0, σ) = some (nI (fb_ct (fun a => P a && decide (kd a = 2)) m), σ') ∧ Fp Atr σ σ' ∧ Row σ' m (fun a => P a && decide (kd a = 2)) ∧ T4 σ' 104 (y0 + fb_sm (fun a => if P a = true then w0 (kd a) else 0) m) (y1 + fb_sm (fun a => if P a = true then w1 (kd a) else 0) m) (y2 + fb_sm (fun a => if P a = true then w2 (kd a) else 0) m) y3 := by
  obtain ⟨⟨v, ω⟩, c1, c2, c3, c4, c5⟩ := iter_cnt (body := fun u : (Int32 × Int32 × St) => Mo_laysTree_L46 (nI m) u.2.2 u.1 u.2.1) (fun t u => u.1 = nI (fb_ct (fun a => P a && decide (kd a = 2)) t) ∧ u.2.1 = nI t ∧ Fp Atr σ u.2.2 ∧ Row u.2.2 m (fun a => if a < t then P a && decide (kd a = 2) else P a) ∧ T4 u.2.2 104 (y0 + fb_sm (fun a => if P a = true then w0 (kd a) else 0) t) (y1 + fb_sm (fun a => if P a = true then w1 (kd a) else 0) t) (y2 + fb_sm (fun a => if P a = true then w2 (kd a) else 0) t) y3) (fun e => e.1 = nI (fb_ct (fun a => P a && decide (kd a = 2)) m) ∧ Fp Atr σ e.2 ∧ Row e.2 m (fun a => P a && decide (kd a = 2)) ∧ T4 e.2 104 (y0 + fb_sm (fun a => if P a = true then w0 (kd a) else 0) m) (y1 + fb_sm (fun a => if P a = true then w1 (kd a) else 0) m) (y2 + fb_sm (fun a => if P a = true then w2 (kd a) else 0) m) y3) (lo := 0) (hi := m) (n := FUEL) (Nat.zero_le _) (fuel (by omega)) (by
    rintro t ⟨v, t', u⟩ _ htm ⟨rfl, rfl, F, hR, ⟨q0, q1, q2, q3⟩⟩
    have F' : Fp Atr σ u := F
    have hR' : Row u m (fun a => if a < t then P a && decide (kd a = 2) else P a) := hR
    have hu : MV u 0 0 c od on rs md nm := h.keep (F'.sm (fun b i q1 q2 q => by unfold Atr at q; omega))
    have hcell : u.1 103 t = if P t = true then 1 else 0 := by
      have := hR' t htm
      rwa [show (fun a => if a < t then P a && decide (kd a = 2) else P a) t = P t from if_neg (by omega)] at this
    have hk := kind_m hu w (x := t) (m := m) (by omega) (by omega) (by omega)
    rw [← hkd] at hk
    have hk2 := kdn_le c on rs md t m
    rw [← hkd] at hk2
    by_cases hp : P t = true
    · have row : ∀ {τ : St} {b : Bool}, (∀ a, τ.1 103 a = u.1 103 a) → b = decide (kd t = 2) → Row (wI τ 103 t (if b = true then 1 else 0)) m (fun a => if a < t + 1 then P a && decide (kd a = 2) else P a) := fun {τ b} hτ hb a ha => by
        by_cases e : a = t
        · rw [e, wI_s, show (fun a => if a < t + 1 then P a && decide (kd a = 2) else P a) t = (P t && decide (kd t = 2)) from if_pos (by omega), hp, Bool.true_and, hb]
        · rw [wI_ne (by omega), hτ, hR' a ha]
          show (if (if a < t then P a && decide (kd a = 2) else P a) = true then (1 : Int32) else 0) = if (if a < t + 1 then P a && decide (kd a = 2) else P a) = true then 1 else 0
          by_cases z : a < t
          · rw [if_pos z, if_pos (show a < t + 1 by omega)]
          · rw [if_neg z, if_neg (show ¬ a < t + 1 by omega)]
      have hpre : ∀ X, Mo_laysTree_L46 (nI m) u X (nI t) = (bnd (wI u 104 2 (u.1 104 2 + 1)) (fun σ16 => if 2 ≤ nI (kd t) then (Mo_laysTree_J98_46 σ16 (nI m) X (nI t) (nI (kd t))) else (chk (ix (nI (kd t)) 4) (chk (ix (nI (kd t)) 4) (bnd (wI σ16 104 (tn (nI (kd t))) ((σ16.1 104 (tn (nI (kd t)))) + 1)) (fun σ27 => Mo_laysTree_J98_46 σ27 (nI m) X (nI t) (nI (kd t)))))))) := fun X => by
        unfold Mo_laysTree_L46
        rw [if_neg (by rw [le_nI (by omega) (by omega)]; omega), ix_nI (by omega) (by omega), chk_true, tn_nI (by omega), hcell, if_pos hp, if_neg (by decide), hk, bd_s, show ix 2 4 = true from by decide, chk_true, chk_true]
        rfl
      rcases (show kd t = 0 ∨ kd t = 1 ∨ kd t = 2 by omega) with e | e | e
      · refine ⟨(nI (fb_ct (fun a => P a && decide (kd a = 2)) (t + 1)), nI (t + 1), wI (wI (wI u 104 2 (nI (y2 + fb_sm (fun a => if P a = true then w2 (kd a) else 0) (t + 1)))) 104 0 (nI (y0 + fb_sm (fun a => if P a = true then w0 (kd a) else 0) (t + 1)))) 103 t (if false = true then 1 else 0)), ?_, rfl, rfl, ?_, row (fun a => by rw [wI_ne (by omega), wI_ne (by omega)]) (by rw [e]; rfl), ?_⟩
        · show Mo_laysTree_L46 (nI m) u (nI (fb_ct (fun a => P a && decide (kd a = 2)) t)) (nI t) = _
          rw [hpre, q2, nI_1, bnd_x, e, if_neg (by decide), show ix (nI 0) 4 = true from by decide, chk_true, chk_true, tn_nI (by omega), wI_ne (by omega), q0, nI_1, bnd_x]
          unfold Mo_laysTree_J98_46 Mo_laysTree_J114_46
          rw [if_neg (by decide), ix_nI (by omega) (by omega), chk_true, tn_nI (by omega), vnb0, bnd_x, if_neg (by decide), add0, bnd_x, bnd_x, nI_1, fb_ct_succ, fb_sm_succ, fb_sm_succ, if_pos hp, if_pos hp, if_neg (by rw [e]; simp), e]
          rfl
        · exact ((F'.wI (by unfold Atr; omega)).wI (by unfold Atr; omega)).wI (by unfold Atr; omega)
        · refine ⟨(wI_ne (by omega)).trans wI_s, ?_, ?_, ?_⟩
          · rw [wI_ne (by omega), wI_ne (by omega), wI_ne (by omega), fb_sm_succ, if_pos hp, e]; exact q1
          · rw [wI_ne (by omega), wI_ne (by omega), wI_s]
          · rw [wI_ne (by omega), wI_ne (by omega), wI_ne (by omega)]; exact q3
      · refine ⟨(nI (fb_ct (fun a => P a && decide (kd a = 2)) (t + 1)), nI (t + 1), wI (wI (wI u 104 2 (nI (y2 + fb_sm (fun a => if P a = true then w2 (kd a) else 0) (t + 1)))) 104 1 (nI (y1 + fb_sm (fun a => if P a = true then w1 (kd a) else 0) (t + 1)))) 103 t (if false = true then 1 else 0)), ?_, rfl, rfl, ?_, row (fun a => by rw [wI_ne (by omega), wI_ne (by omega)]) (by rw [e]; rfl), ?_⟩
        · show Mo_laysTree_L46 (nI m) u (nI (fb_ct (fun a => P a && decide (kd a = 2)) t)) (nI t) = _
          rw [hpre, q2, nI_1, bnd_x, e, if_neg (by decide), show ix (nI 1) 4 = true from by decide, chk_true, chk_true, tn_nI (by omega), wI_ne (by omega), q1, nI_1, bnd_x]
          unfold Mo_laysTree_J98_46 Mo_laysTree_J114_46
          rw [if_neg (by decide), ix_nI (by omega) (by omega), chk_true, tn_nI (by omega), vnb0, bnd_x, if_neg (by decide), add0, bnd_x, bnd_x, nI_1, fb_ct_succ, fb_sm_succ, fb_sm_succ, if_pos hp, if_pos hp, if_neg (by rw [e]; simp), e]
          rfl
        · exact ((F'.wI (by unfold Atr; omega)).wI (by unfold Atr; omega)).wI (by unfold Atr; omega)
        · refine ⟨?_, (wI_ne (by omega)).trans wI_s, ?_, ?_⟩
          · rw [wI_ne (by omega), wI_ne (by omega), wI_ne (by omega), fb_sm_succ, if_pos hp, e]; exact q0
          · rw [wI_ne (by omega), wI_ne (by omega), wI_s]
          · rw [wI_ne (by omega), wI_ne (by omega), wI_ne (by omega)]; exact q3
      · refine ⟨(nI (fb_ct (fun a => P a && decide (kd a = 2)) (t + 1)), nI (t + 1), wI (wI u 104 2 (nI (y2 + fb_sm (fun a => if P a = true then w2 (kd a) else 0) (t + 1)))) 103 t (if true = true then 1 else 0)), ?_, rfl, rfl, ?_, row (fun a => by rw [wI_ne (by omega)]) (by rw [e]; rfl), ?_⟩
        · show Mo_laysTree_L46 (nI m) u (nI (fb_ct (fun a => P a && decide (kd a = 2)) t)) (nI t) = _
          rw [hpre, q2, nI_1, bnd_x, e, if_pos (by decide)]
          unfold Mo_laysTree_J98_46 Mo_laysTree_J114_46
          rw [if_pos (by decide), ix_nI (by omega) (by omega), chk_true, tn_nI (by omega), vnb1, bnd_x, if_pos (by decide), bnd_x, bnd_x, nI_1, nI_1, fb_ct_succ, fb_sm_succ, if_pos hp, if_pos (by rw [hp, e]; rfl), e]
          rfl
        · exact (F'.wI (by unfold Atr; omega)).wI (by unfold Atr; omega)
        · refine ⟨?_, ?_, (wI_ne (by omega)).trans wI_s, ?_⟩
          · rw [wI_ne (by omega), wI_ne (by omega), fb_sm_succ, if_pos hp, e]; exact q0
          · rw [wI_ne (by omega), wI_ne (by omega), fb_sm_succ, if_pos hp, e]; exact q1
          · rw [wI_ne (by omega), wI_ne (by omega)]; exact q3
    · refine ⟨(nI (fb_ct (fun a => P a && decide (kd a = 2)) (t + 1)), nI (t + 1), u), ?_, rfl, rfl, F', ?_, ?_⟩
      · show Mo_laysTree_L46 (nI m) u (nI (fb_ct (fun a => P a && decide (kd a = 2)) t)) (nI t) = _
        unfold Mo_laysTree_L46
        rw [if_neg (by rw [le_nI (by omega) (by omega)]; omega), ix_nI (by omega) (by omega), chk_true, tn_nI (by omega), hcell, if_neg hp, if_pos rfl, bnd_x, nI_1, fb_ct_succ, if_neg (by simp [hp])]
        rfl
      · intro a ha
        rw [hR' a ha]
        show (if (if a < t then P a && decide (kd a = 2) else P a) = true then (1 : Int32) else 0) = if (if a < t + 1 then P a && decide (kd a = 2) else P a) = true then 1 else 0
        by_cases z : a < t
        · rw [if_pos z, if_pos (show a < t + 1 by omega)]
        · by_cases e : a = t
          · have hp' : P a = false := by rw [e]; simpa using hp
            rw [if_neg z, if_pos (show a < t + 1 by omega), hp', Bool.false_and]
          · rw [if_neg z, if_neg (show ¬ a < t + 1 by omega)]
      · refine ⟨q0.trans ?_, q1.trans ?_, q2.trans ?_, q3⟩
        · rw [fb_sm_succ, if_neg hp]; rfl
        · rw [fb_sm_succ, if_neg hp]; rfl
        · rw [fb_sm_succ, if_neg hp]; rfl) (by
    rintro ⟨v, t', u⟩ ⟨rfl, rfl, F, hR, hT⟩
    refine ⟨(nI (fb_ct (fun a => P a && decide (kd a = 2)) m), u), ?_, rfl, F, fun a ha => ?_, hT⟩
    · show Mo_laysTree_L46 (nI m) u (nI (fb_ct (fun a => P a && decide (kd a = 2)) m)) (nI m) = _
      unfold Mo_laysTree_L46
      rw [if_pos (by rw [le_nI (by omega) (by omega)]; omega)]
    · have := hR a ha
      rwa [show (fun a => if a < m then P a && decide (kd a = 2) else P a) a = (P a && decide (kd a = 2)) from if_pos ha] at this) (s := (0, 0, σ)) ⟨rfl, rfl, Fp.rf, fun a ha => by rw [show (fun a => if a < 0 then P a && decide (kd a = 2) else P a) a = P a from if_neg (by omega)]; exact hr a ha, ht⟩
  have c2' : v = nI (fb_ct (fun a => P a && decide (kd a = 2)) m) := c2
  rw [c2'] at c1
  exact ⟨ω, c1, c3, c4, c5⟩
theorem ext_n {σ : St} {m p : Nat} {x : Int32} {Q : Nat → Bool} (hm1 : 1 ≤ m) (hp : 1 ≤ p) (hmp : m * p ≤ 5040) (hr : Row σ m Q) : ∃ σ', iter (fun u : (Int32 × St) => Mo_laysTree_L155 (nI m) x (nI p) u.2 u.1) FUEL (nI m, σ) = some σ' ∧ Fp (fun a i => a = 103) σ σ' ∧ Row σ' (m * p) (fun a => Q (a % m)) := by
  have hle : m ≤ m * p := Nat.le_mul_of_pos_right m hp
  refine iter_cnt (body := fun u : (Int32 × St) => Mo_laysTree_L155 (nI m) x (nI p) u.2 u.1) (fun t u => u.1 = nI t ∧ Fp (fun a i => a = 103) σ u.2 ∧ Row u.2 t (fun a => Q (a % m))) (fun e => Fp (fun a i => a = 103) σ e ∧ Row e (m * p) (fun a => Q (a % m))) (lo := m) (hi := m * p) (n := FUEL) hle (fuel (by omega)) ?_ ?_ (s := (nI m, σ)) ⟨rfl, Fp.rf, fun a ha => by rw [show (fun a => Q (a % m)) a = Q a from by show Q (a % m) = Q a; rw [Nat.mod_eq_of_lt ha]]; exact hr a ha⟩
  · rintro t ⟨t', u⟩ hmt ht ⟨rfl, F, hR⟩
    have F' : Fp (fun a i => a = 103) σ u := F
    have hR' : Row u t (fun a => Q (a % m)) := hR
    have hl : t % m < m := Nat.mod_lt _ (by omega)
    have hcell : u.1 103 (t % m) = if Q (t % m) = true then 1 else 0 := by
      have := hR' (t % m) (by omega)
      rwa [show (fun a => Q (a % m)) (t % m) = Q (t % m) from by show Q (t % m % m) = Q (t % m); rw [Nat.mod_mod]] at this
    refine ⟨(nI (t + 1), wI u 103 t (if Q (t % m) = true then 1 else 0)), ?_, rfl, F'.wI rfl, fun a ha => ?_⟩
    · show Mo_laysTree_L155 (nI m) x (nI p) u (nI t) = _
      unfold Mo_laysTree_L155
      rw [pk_mul, if_neg (by rw [le_nI (by omega) (by omega)]; omega), nz_nI (by omega) (by omega), chk_true, rem_nI (by omega) (by omega) (by omega), ix_nI (by omega) (by omega), chk_true, ix_nI (by omega) (by omega), chk_true, tn_nI (by omega), tn_nI (by omega), hcell, vnbb, bnd_x, bnd_x, nI_1]
    · by_cases e : a = t
      · rw [e, wI_s]
      · rw [wI_ne (by omega)]; exact hR' a (by omega)
  · rintro ⟨t', u⟩ ⟨rfl, F, hR⟩
    refine ⟨u, ?_, F, hR⟩
    show Mo_laysTree_L155 (nI m) x (nI p) u (nI (m * p)) = _
    unfold Mo_laysTree_L155
    rw [pk_mul, if_pos (by rw [le_nI (by omega) (by omega)]; omega)]
theorem treeM_n {σ : St} (h : MV σ 0 0 c od on rs md nm) (w : WF c od on rs md nm) {S : Nat} (hS : S = spn md on c) (h0 : ¬ spn md on c = 0) (hsp : σ.1 92 23 = nI S) {kd : Nat → Nat → Nat} (hkd : ∀ i a, kd i a = kdn c on rs md a (mi S i)) : ∃ σ', Mo_laysTree σ = some σ' ∧ Fp Atr σ σ' ∧ T4 σ' 104 (Dn w0 kd S 13 0 0) (Dn w1 kd S 13 0 0) (Dn w2 kd S 13 0 0) (Mn kd S 13 0 0) := by
  have hS1 : 1 ≤ S := by omega
  have hS2 : S ≤ 5040 := by rw [hS]; exact spn_le md on c
  obtain ⟨τ, a1, a2, a3⟩ := iter_cnt (body := fun u : (Int32 × St) => Mo_laysTree_L6 1 1 u.2 u.1) (fun t u => u.1 = nI t ∧ Fp Atr σ u.2 ∧ ∀ j, j < t → u.2.1 104 j = nI 0) (fun e => Fp Atr σ e ∧ ∀ j, j < 4 → e.1 104 j = nI 0) (lo := 0) (hi := 4) (n := FUEL) (Nat.zero_le _) (fuel (by omega)) (by
    rintro t ⟨t', u⟩ _ ht ⟨rfl, F, hB⟩
    have F' : Fp Atr σ u := F
    refine ⟨(nI (t + 1), wI u 104 t (nI 0)), ?_, rfl, F'.wI (by unfold Atr; omega), fun j hj => ?_⟩
    · show Mo_laysTree_L6 1 1 u (nI t) = _
      unfold Mo_laysTree_L6
      rw [show (4 : Int32) = nI 4 from rfl, if_neg (by rw [le_nI (by omega) (by omega)]; omega), ix_nI (by omega) (by omega), chk_true, tn_nI (by omega), bnd_x, bnd_x, nI_1]
      rfl
    · by_cases e : j = t
      · rw [e]; exact wI_s
      · exact (wI_ne (by omega)).trans (hB j (by omega))) (by
    rintro ⟨t', u⟩ ⟨rfl, F, hB⟩
    refine ⟨u, ?_, F, hB⟩
    show Mo_laysTree_L6 1 1 u (nI 4) = _
    unfold Mo_laysTree_L6
    rw [if_pos (by decide)]) (s := (0, σ)) ⟨rfl, Fp.rf, fun j hj => by omega⟩
  have hR0 : Row (wI τ 103 0 1) (mi S 0) (fun _ => true) := fun a ha => by
    have : a = 0 := by have : mi S 0 = 1 := rfl; omega
    rw [this, wI_s]; rfl
  have hT0 : T4 (wI τ 103 0 1) 104 0 0 0 0 := ⟨(wI_ne (by omega)).trans (a3 0 (by omega)), (wI_ne (by omega)).trans (a3 1 (by omega)), (wI_ne (by omega)).trans (a3 2 (by omega)), (wI_ne (by omega)).trans (a3 3 (by omega))⟩
  have one : ∀ f : Nat → Nat, fb_sm f (mi S 0) = f 0 := fun f => by show 0 + f 0 = f 0; omega
  have key := iter_inv (body := fun u : (Int32 × Int32 × St) => Mo_laysTree_L31 u.2.2 u.1 u.2.1) (fun u => ∃ i d op y0 y1 y2 y3, ∃ P : Nat → Bool, i + d = 13 ∧ u.1 = nI (mi S i) ∧ u.2.1 = nI op ∧ 0 < op ∧ op ≤ 5040 ∧ Fp Atr σ u.2.2 ∧ Row u.2.2 (mi S i) P ∧ (∃ a, a < mi S i ∧ P a = true) ∧ T4 u.2.2 104 y0 y1 y2 y3 ∧ y0 + Rw w0 kd S d i P = Dn w0 kd S 13 0 0 ∧ y1 + Rw w1 kd S d i P = Dn w1 kd S 13 0 0 ∧ y2 + Rw w2 kd S d i P = Dn w2 kd S 13 0 0 ∧ RM kd S d i P = Mn kd S 13 0 0) (fun e => Fp Atr σ e ∧ T4 e 104 (Dn w0 kd S 13 0 0) (Dn w1 kd S 13 0 0) (Dn w2 kd S 13 0 0) (Mn kd S 13 0 0)) (fun u => 6000 - tn u.1) ?_ FUEL (1, 1, wI τ 103 0 1) ⟨0, 13, 1, 0, 0, 0, 0, fun _ => true, by omega, rfl, rfl, by omega, by omega, a2.wI (by unfold Atr; omega), hR0, ⟨0, by show 0 < 1; omega, rfl⟩, hT0, ?_, ?_, ?_, ?_⟩ (fuel (by omega))
  · obtain ⟨ω, b1, b2, b3⟩ := key
    refine ⟨ω, ?_, b2, b3⟩
    unfold Mo_laysTree
    rw [a1, bd_s, show ix 0 5040 = true from by decide, chk_true, tn00, vnb1, bnd_x, b1]
  · rintro ⟨m', op', u⟩ ⟨i, d, op, y0, y1, y2, y3, P, hid, rfl, rfl, ho1, ho2, F, hR, hP, hT, e0, e1, e2, e3⟩
    have F' : Fp Atr σ u := F
    have hT' : T4 u 104 y0 y1 y2 y3 := hT
    have hR' : Row u (mi S i) P := hR
    obtain ⟨g1, g2, g3, g4⟩ := mi_n hS1 i
    obtain ⟨z0, z1, z2, z3⟩ := hT'
    have hR2 : Row (wI u 104 3 (nI (mi S i))) (mi S i) P := fun a ha => (wI_ne (by omega)).trans (hR' a ha)
    have hT2 : T4 (wI u 104 3 (nI (mi S i))) 104 y0 y1 y2 (mi S i) := ⟨(wI_ne (by omega)).trans z0, (wI_ne (by omega)).trans z1, (wI_ne (by omega)).trans z2, wI_s⟩
    have F2 : Fp Atr σ (wI u 104 3 (nI (mi S i))) := F'.wI (by unfold Atr; omega)
    have hu : MV (wI u 104 3 (nI (mi S i))) 0 0 c od on rs md nm := h.keep (F2.sm (fun b i q1 q2 q => by unfold Atr at q; omega))
    obtain ⟨υ, d1, d2, d3, d4⟩ := level_n hu w g1 (by omega) hR2 hT2 (hkd i)
    obtain ⟨r0, r1, r2, r3⟩ := d4
    have hctl := fb_ct_le (fun a => P a && decide (kd i a = 2)) (mi S i)
    have hP0 : mi S i ≤ RM kd S d i P := by
      obtain ⟨a, ha, hp⟩ := hP
      unfold RM
      have := mx_ge (f := fun a => if P a = true then Mn kd S d i a else 0) ha
      rw [if_pos hp] at this
      exact Nat.le_trans (Mn_ge d i a) this
    have hpre : ∀ X, X = fb_ct (fun a => P a && decide (kd i a = 2)) (mi S i) → Mo_laysTree_L31 u (nI (mi S i)) (nI op) = (if nI X = 0 then (some (.inr υ)) else (chk (nzI (nI (mi S i))) (bd (Mo_leastPrime ((υ.1 92 23) / (nI (mi S i)))) (fun r37 => bd (iter (fun s : (Int32 × St) => Mo_laysTree_L155 (nI (mi S i)) (nI X) r37 s.2 s.1) FUEL (nI (mi S i), υ)) (fun σ44 => bnd (((nI (mi S i)) * r37)) (fun v46 => some (.inl (v46, nI X, σ44)))))))) := fun X hX => by
      unfold Mo_laysTree_L31
      rw [show (0 : Int32) = nI 0 from rfl, if_neg (by rw [le_nI (by omega) (by omega)]; omega), show ix 3 4 = true from by decide, chk_true, show tn 3 = 3 from rfl, bnd_x]
      have d1' : iter (fun s : (Int32 × Int32 × St) => Mo_laysTree_L46 (nI (mi S i)) s.2.2 s.1 s.2.1) FUEL (nI 0, nI 0, wI u 104 3 (nI (mi S i))) = some (nI X, υ) := by rw [hX]; exact d1
      rw [d1', bd2_s]
    by_cases hz : fb_ct (fun a => P a && decide (kd i a = 2)) (mi S i) = 0
    · right
      have hall := fb_ct_zero.mp hz
      have hPn : ∀ a, a < mi S (i + 1) → Pn kd S i P a = false := fun a _ => hall (a % mi S i) (Nat.mod_lt _ (by omega))
      have fin : ∀ wt : Nat → Nat, Rw wt kd S d i P = fb_sm (fun a => if P a = true then wt (kd i a) else 0) (mi S i) := fun wt => by
        cases d with
        | zero => rfl
        | succ d => rw [Rw_s hS1, Rw_0 hPn]; rfl
      have finM : RM kd S d i P = mi S i := by
        cases d with
        | zero =>
          apply Nat.le_antisymm
          · unfold RM
            exact mx_b (fun k => by split <;> first | exact Nat.le_refl _ | omega) _
          · exact hP0
        | succ d => rw [RM_s hS1 hP, RM_0 hPn]; omega
      refine ⟨υ, ?_, F2.tr d2, ?_⟩
      · show Mo_laysTree_L31 u (nI (mi S i)) (nI op) = _
        rw [hpre 0 hz.symm, if_pos (show nI 0 = 0 from rfl)]
      · refine ⟨r0.trans ?_, r1.trans ?_, r2.trans ?_, r3.trans ?_⟩
        · rw [← e0, fin]
        · rw [← e1, fin]
        · rw [← e2, fin]
        · rw [← e3, finM]
    · left
      obtain ⟨a0, ha0, hp0⟩ := fb_ct_pos.mp (Nat.pos_of_ne_zero hz)
      have hp0' : P a0 = true ∧ kd i a0 = 2 := by simpa using hp0
      have hn2 : 2 ≤ S / mi S i := mixed_lt hS h0 (by rw [← hkd]; exact hp0'.2)
      have hn3 : S / mi S i ≤ 5040 := Nat.le_trans (Nat.div_le_self _ _) hS2
      obtain ⟨l1, l2, l3, l4⟩ := lpf_n hn2
      obtain ⟨n1, n2, n3, n4⟩ := mi_n hS1 (i + 1)
      have hd : ∃ d', d = d' + 1 := by
        cases d with
        | zero =>
          exfalso
          have hi13 : i = 13 := by omega
          have := mi_13 hS1 hS2
          have hk := hp0'.2
          rw [hkd, hi13, this, hS] at hk
          exact kdn_S h0 hk
        | succ d => exact ⟨d, rfl⟩
      obtain ⟨d', rfl⟩ := hd
      have n3' := n3
      rw [mi_s] at n3'
      obtain ⟨ρ, x1, x2, x3⟩ := ext_n (p := lpf (S / mi S i)) (x := nI (fb_ct (fun a => P a && decide (kd i a = 2)) (mi S i))) g1 (by omega) (by omega) d3
      have hPx : Pn kd S i P a0 = true := by
        unfold Pn
        rw [Nat.mod_eq_of_lt ha0]
        exact hp0
      have hlt : a0 < mi S (i + 1) := by
        rw [mi_s]
        have := Nat.le_mul_of_pos_right (mi S i) (show 0 < lpf (S / mi S i) by omega)
        omega
      have hgt : mi S i < mi S (i + 1) := by
        rw [mi_s]
        have := Nat.mul_le_mul_left (mi S i) l1
        omega
      have hRM : mi S (i + 1) ≤ RM kd S d' (i + 1) (Pn kd S i P) := by
        unfold RM
        have := mx_ge (f := fun a => if Pn kd S i P a = true then Mn kd S d' (i + 1) a else 0) hlt
        rw [if_pos hPx] at this
        exact Nat.le_trans (Mn_ge d' (i + 1) a0) this
      refine ⟨(nI (mi S (i + 1)), nI (fb_ct (fun a => P a && decide (kd i a = 2)) (mi S i)), ρ), ?_, ⟨i + 1, d', fb_ct (fun a => P a && decide (kd i a = 2)) (mi S i), _, _, _, _, Pn kd S i P, by omega, rfl, rfl, Nat.pos_of_ne_zero hz, by omega, (F2.tr d2).tr (x2.mono (fun a i q => by unfold Atr; omega)), x3, ⟨a0, hlt, hPx⟩, ⟨(x2.i (by omega)).trans r0, (x2.i (by omega)).trans r1, (x2.i (by omega)).trans r2, (x2.i (by omega)).trans r3⟩, ?_, ?_, ?_, ?_⟩, ?_⟩
      · show Mo_laysTree_L31 u (nI (mi S i)) (nI op) = _
        rw [hpre _ rfl, show (0 : Int32) = nI 0 from rfl, if_neg (by rw [eq_nI (by omega) (by omega)]; exact hz), nz_nI (by omega) (by omega), chk_true, d2.i (by unfold Atr; omega), F2.i (by unfold Atr; omega), hsp, div_nI (by omega) (by omega) (by omega), primeM_n hn2 hn3, bd_s, x1, bd_s, pk_mul, bnd_x, mi_s]
      · rw [← e0, Rw_s hS1]; omega
      · rw [← e1, Rw_s hS1]; omega
      · rw [← e2, Rw_s hS1]; omega
      · rw [← e3, RM_s hS1 hP]; omega
      · show 6000 - tn (nI (mi S (i + 1))) < 6000 - tn (nI (mi S i))
        rw [tn_nI (by omega), tn_nI (by omega)]
        omega
  · unfold Rw; rw [one, if_pos rfl, Nat.zero_add]
  · unfold Rw; rw [one, if_pos rfl, Nat.zero_add]
  · unfold Rw; rw [one, if_pos rfl, Nat.zero_add]
  · show max 0 (if true = true then Mn kd S 13 0 0 else 0) = _
    rw [if_pos rfl, Nat.zero_max]
end BFS
