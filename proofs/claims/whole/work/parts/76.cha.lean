theorem call_choiceAt {σ : St} (I : Inv σ) (Z : Z40 σ) (p p2 p3 p4 : Int32) : Call (fun σ => RC_choiceAt σ p p2 p3 p4) (fun σ => Mo_choiceAt σ p p2 p3 p4) σ := by
  have hw := within_m1 p4 p2
  have l0 : (p4 < 0) ↔ p4.toInt < 0 := by rw [Int32.lt_iff_toInt_lt]; exact Iff.rfl
  have l2 : (p4 < p2) ↔ p4.toInt < p2.toInt := by rw [Int32.lt_iff_toInt_lt]
  by_cases hin : 0 ≤ p4.toInt ∧ p4.toInt < p2.toInt
  · rw [if_pos hin] at hw
    have q0 : ¬ p4 < 0 := fun h => by have := l0.mp h; omega
    have q2 : p4 < p2 := l2.mpr hin.2
    rcases trouble I p p2 p3 with ⟨e, σc, e1, e2, e3, e4, e5⟩ | ⟨n, mode, m, σc, rfl, rfl, hM, hmo, e3, e4, c3, c7, e5⟩
    · refine call_v (τ := σc) (r := -1) (v := e) I (e4.mono (fun a i z => by unfold Atk at z; unfold Ac0; omega)) ?_ (fun σ1 F => ?_)
      · show RC_choiceAt σ p p2 p3 p4 = _
        unfold RC_choiceAt
        rw [hw, bd_s, if_neg (by decide), e3, bd2_s, if_neg e2, RC_refuse_n, bd2_s]
      · obtain ⟨σm, w1, w2⟩ := e5 σ1 F
        refine ⟨σm, w2.mono (fun a i z => by unfold Am0; omega), ?_⟩
        show Mo_choiceAt σ1 p p2 p3 p4 = _
        unfold Mo_choiceAt Mo_choiceAt_J22
        rw [if_neg q0, if_pos q2, w1, bd2_s, if_neg e1, Mo_refuse_n, bd2_s]
    · have hn6 := hM.1
      have hnt : (nI n).toInt = (n : Int) := nI_toInt (by omega)
      rw [hnt] at hin
      obtain ⟨a, ha, rfl⟩ : ∃ a, a < n ∧ p4 = nI a := by
        refine ⟨p4.toInt.toNat, by omega, ?_⟩
        apply Int32.toInt_inj.mp
        rw [nI_toInt (by omega)]
        omega
      obtain ⟨τ, t1, t2, t3⟩ := beginC (mode := mode) hM c3 c7
      obtain ⟨L1, L2⟩ := hM.lc (d := n) (Nat.le_refl _)
      have hB : CB τ m (fun _ => 0) (lc m n) 0 := fun w hw j hj => by
        have ez : τ.2 (40 + 0) w = 0 := (t3.l (by omega)).trans ((e4.l (by unfold Atk; omega)).trans (Z w (by omega)))
        rw [ez, lb_0]; rfl
      obtain ⟨c, ω, o1, o2, o3⟩ := waysF hM L1 L2 hmo (fun i hi => lc_dvd hi) n 60 0 (fun _ => 0) τ (by omega) (by omega) (Or.inr rfl) t2 hB
      have o1' : Ch_waysFrom 60 τ 0 1 = some (c, ω) := o1
      have Fω : Fp Ac0 σ ω := ((e4.mono (fun a i z => by unfold Atk at z; unfold Ac0; omega)).tr (t3.mono (fun a i z => by unfold Ac0; omega))).tr (o2.mono (fun a i z => by unfold Awf at z; unfold Ac0; omega))
      rcases o3 with ⟨rfl, F, f1, f2⟩ | ⟨rfl, f0⟩
      · obtain ⟨x0, x1, x2, x3, x4⟩ := FT_dec n 0 (fun i _ h => hM.p i (by omega)) f1
        rw [pq_all] at x1
        have x2' : F = de m n (fun _ => 0) x0 := x2.trans (de_dec n hM.p x1)
        refine call_v (τ := ω) (r := nI (F a)) (v := 0) I Fω ?_ (fun σ1 FF => ?_)
        · show RC_choiceAt σ p (nI n) (nI mode) (nI a) = _
          unfold RC_choiceAt Ch_findFirst Ch_restAt
          rw [hw, bd_s, if_neg (by decide), e3, bd2_s, if_pos rfl, t1, bd_s, o1', bd2_s, if_neg (by decide), bd2_s, if_neg (by decide), show (5 : Int64) = (nI 5).toInt64 from rfl, within_y (by omega) (by omega), bd_s, if_neg (by decide), ix_nI (show a < 6 by omega) (by omega), chk_true, tn_nI (show a < 2147483648 by omega), f2 a (by omega) ha, bd_s, RC_answer_n, bd2_s]
        · obtain ⟨σm, w1, w2, w3⟩ := e5 σ1 FF
          obtain ⟨υ, u1, u2⟩ := (firstM (r := fun _ => 0) hM hmo w3 ha).1 x0 x1 (by rw [← x2']; exact x3) (fun x hx => by rw [← de_dec n hM.p (by omega)]; exact x4 x hx)
          refine ⟨υ, (w2.mono (fun a i z => by unfold Am0; omega)).tr (u2.mono (fun a i z => by unfold Am0; omega)), ?_⟩
          show Mo_choiceAt σ1 p (nI n) (nI mode) (nI a) = _
          unfold Mo_choiceAt Mo_choiceAt_J22
          rw [if_neg q0, if_pos q2, w1, bd2_s, if_pos (by decide), u1, x2']
      · refine call_v (τ := ω) (r := -1) (v := 6) I Fω ?_ (fun σ1 FF => ?_)
        · show RC_choiceAt σ p (nI n) (nI mode) (nI a) = _
          unfold RC_choiceAt Ch_findFirst
          rw [hw, bd_s, if_neg (by decide), e3, bd2_s, if_pos rfl, t1, bd_s, o1', bd2_s, if_pos (by decide), bd2_s, if_pos rfl, RC_refuse_n, bd2_s]
        · obtain ⟨σm, w1, w2, w3⟩ := e5 σ1 FF
          rw [NW_de n _ hM.p] at f0
          obtain ⟨υ, u1, u2⟩ := (firstM (r := fun _ => 0) hM hmo w3 ha).2 (fun x hx => sm_z f0 x hx)
          refine ⟨υ, (w2.mono (fun a i z => by unfold Am0; omega)).tr (u2.mono (fun a i z => by unfold Am0; omega)), ?_⟩
          show Mo_choiceAt σ1 p (nI n) (nI mode) (nI a) = _
          unfold Mo_choiceAt Mo_choiceAt_J22
          rw [if_neg q0, if_pos q2, w1, bd2_s, if_pos (by decide), u1]
  · rw [if_neg hin] at hw
    refine call_s (r := -1) (v := 1) I ?_ (fun σ1 F => ?_)
    · show RC_choiceAt σ p p2 p3 p4 = _
      unfold RC_choiceAt
      rw [hw, bd_s, if_pos rfl, RC_refuse_n, bd2_s]
    · show Mo_choiceAt σ1 p p2 p3 p4 = _
      unfold Mo_choiceAt Mo_choiceAt_J22
      by_cases q0 : p4 < 0
      · rw [if_pos q0, if_neg (by decide), Mo_refuse_n, bd2_s]
      · rw [if_neg q0, if_neg (fun h => hin ⟨by have z : ¬ p4.toInt < 0 := fun x => q0 (l0.mpr x); omega, l2.mp h⟩), if_neg (by decide), Mo_refuse_n, bd2_s]
