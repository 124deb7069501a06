def Z40 (σ : St) : Prop := ∀ w, w < 79 → σ.2 40 w = 0
def Atk (a i : Nat) : Prop := (a = 36 ∧ i = 3) ∨ a = 37
theorem trouble {σ : St} (I : Inv σ) (p p2 p3 : Int32) : (∃ (e : Int32) (σc : St), ¬ e ≤ 0 ∧ ¬ e = 0 ∧ RC_choiceTrouble σ p p2 p3 = some (e, σc) ∧ Fp Atk σ σc ∧ ∀ σ1, Fp Ac σ σ1 → ∃ σm, Mo_wrongChoices σ1 p p2 p3 = some (e, σm) ∧ Fp (fun a i => a = 105) σ1 σm) ∨ ∃ (n mode : Nat) (m : Nat → Nat) (σc : St), p2 = nI n ∧ p3 = nI mode ∧ MO m n ∧ mode ≤ 2 ∧ RC_choiceTrouble σ p p2 p3 = some (0, σc) ∧ Fp Atk σ σc ∧ σc.1 36 3 = nI n ∧ (∀ i, i < n → σc.1 37 i = nI (m i)) ∧ ∀ σ1, Fp Ac σ σ1 → ∃ σm, Mo_wrongChoices σ1 p p2 p3 = some (0, σm) ∧ Fp (fun a i => a = 105) σ1 σm ∧ ∀ i, i < n → σm.1 105 i = nI (m i) := by
  have tr := I.2.2.1
  have rf105 : ∀ {σ1 : St}, Fp (fun a i => a = 105) σ1 σ1 := Fp.rf
  -- where the words of the call are wrong
  have bad1 : ∀ {e : Int32}, ¬ e ≤ 0 → ¬ e = 0 → RC_choiceTrouble σ p p2 p3 = some (e, σ) → (∀ σ1, Fp Ac σ σ1 → Mo_wrongChoices σ1 p p2 p3 = some (e, σ1)) → (∃ (e : Int32) (σc : St), ¬ e ≤ 0 ∧ ¬ e = 0 ∧ RC_choiceTrouble σ p p2 p3 = some (e, σc) ∧ Fp Atk σ σc ∧ ∀ σ1, Fp Ac σ σ1 → ∃ σm, Mo_wrongChoices σ1 p p2 p3 = some (e, σm) ∧ Fp (fun a i => a = 105) σ1 σm) := fun h1 h2 h3 h4 => ⟨_, σ, h1, h2, h3, Fp.rf, fun σ1 F => ⟨σ1, h4 σ1 F, Fp.rf⟩⟩
  rcases within_ex p2 (lo := 0) (hi := 6) 0 6 rfl rfl (by omega) with h2 | ⟨n, _, hn6, rfl, h2⟩
  · left
    refine bad1 (e := 1) (by decide) (by decide) ?_ (fun σ1 F => ?_)
    · unfold RC_choiceTrouble
      rw [h2, bd_s, if_pos rfl]
    · unfold Mo_wrongChoices
      rw [isTray_w]
      rcases within_ex p (lo := 0) (hi := 3) 0 3 rfl rfl (by omega) with h | ⟨t, _, ht, rfl, h⟩
      · rw [h, bd_s, if_pos rfl]
      · rw [h, bd_s, if_neg (by decide), isFrom_w, h2, bd_s, if_pos rfl]
  rcases within_ex p3 (lo := 0) (hi := 2) 0 2 rfl rfl (by omega) with h3 | ⟨mode, _, hmo, rfl, h3⟩
  · left
    refine bad1 (e := 1) (by decide) (by decide) ?_ (fun σ1 F => ?_)
    · unfold RC_choiceTrouble
      rw [h2, bd_s, if_neg (by decide), h3, bd_s, if_pos rfl]
    · unfold Mo_wrongChoices
      rw [isTray_w]
      rcases within_ex p (lo := 0) (hi := 3) 0 3 rfl rfl (by omega) with h | ⟨t, _, ht, rfl, h⟩
      · rw [h, bd_s, if_pos rfl]
      · rw [h, bd_s, if_neg (by decide), isFrom_w, h2, bd_s, if_neg (by decide), isFrom_w, h3, bd_s, if_pos rfl]
  rcases within_ex p (lo := 0) (hi := 3) 0 3 rfl rfl (by omega) with h | ⟨t, _, ht, rfl, h⟩
  · left
    refine bad1 (e := 1) (by decide) (by decide) ?_ (fun σ1 F => ?_)
    · unfold RC_choiceTrouble RC_trayTrouble
      rw [h2, bd_s, if_neg (by decide), h3, bd_s, if_neg (by decide), h, bd_s, if_pos rfl, bd_s, if_neg (by decide)]
    · unfold Mo_wrongChoices
      rw [isTray_w, h, bd_s, if_pos rfl]
  obtain ⟨d1, d2, d3⟩ := tr t (by omega)
  have hxt : ix (nI t) 4 = true := by rw [ix_nI (by omega) (by omega)]
  rcases d3 with d3 | ⟨s0, g1, g2, g3⟩
  · left
    refine bad1 (e := 2) (by decide) (by decide) ?_ (fun σ1 F => ?_)
    · unfold RC_choiceTrouble RC_trayTrouble Ty_isMissing
      rw [h2, bd_s, if_neg (by decide), h3, bd_s, if_neg (by decide), h, bd_s, if_neg (by decide), hxt, chk_true, tn_nI (by omega), rfs_T, d2, d3, if_pos rfl, bd_s, if_neg (by decide), bd_s, if_neg (by decide)]
    · unfold Mo_wrongChoices
      rw [isTray_w, h, bd_s, if_neg (by decide), isFrom_w, h2, bd_s, if_neg (by decide), isFrom_w, h3, bd_s, if_neg (by decide), hxt, chk_true, tn_nI (by omega), show σ1.1 96 t = -1 from (F.i (by unfold Ac; omega)).trans d3, if_pos rfl]
  have trb : RC_trayTrouble σ (nI t) = some 0 := by
    unfold RC_trayTrouble Ty_isMissing
    rw [h, bd_s, if_neg (by decide), hxt, chk_true, tn_nI (by omega), rfs_T, d2, g2, if_neg (nI_m1 (by omega)), bd_s, if_pos rfl]
  have hsz : σ.1 (51 + 2 * t) 2 = nI s0 := d2.trans g2
  have hh : Ty_holds σ (51 + 2 * t) 0 (nI n) = some (if 0 + n ≤ s0 then 1 else 0) := holds_n (p := 0) hsz g1 (by omega) (by omega)
  have preC : RC_choiceTrouble σ (nI t) (nI n) (nI mode) = (if (if 0 + n ≤ s0 then (1 : Int32) else 0) = 0 then (some (3, σ)) else (bd2 (Ch_takeModuli σ (51 + 2 * t) (nI n)) (fun r12 σ13 => if r12 = 0 then (some (5, σ13)) else (bd (Ch_product σ13) (fun r15 => if r15 ≤ 5040 then (some (0, σ13)) else (some (7, σ13))))))) := by
    unfold RC_choiceTrouble
    rw [h2, bd_s, if_neg (by decide), h3, bd_s, if_neg (by decide), trb, bd_s, if_pos rfl, hxt, chk_true, tn_nI (by omega), rfs_T, hh, bd_s, chk_true]
  have preM : ∀ σ1, Fp Ac σ σ1 → Mo_wrongChoices σ1 (nI t) (nI n) (nI mode) = (if nI n ≤ nI s0 then (iter (fun s : (Int64 × Int32 × St) => Mo_wrongChoices_L63 (nI t) (nI n) s.2.2 s.1 s.2.1) FUEL (1, 0, σ1)) else (some (3, σ1))) := fun σ1 F => by
    unfold Mo_wrongChoices
    rw [isTray_w, h, bd_s, if_neg (by decide), isFrom_w, h2, bd_s, if_neg (by decide), isFrom_w, h3, bd_s, if_neg (by decide), hxt, chk_true, tn_nI (by omega), show σ1.1 96 t = nI s0 from (F.i (by unfold Ac; omega)).trans g2, if_neg (nI_m1 (by omega)), chk_true]
  by_cases hle : n ≤ s0
  · have v : Nat → Int64 := fun i => σ.2 (52 + 2 * t) i
    obtain ⟨v, hv⟩ : ∃ v : Nat → Int64, v = fun i => σ.2 (52 + 2 * t) i := ⟨_, rfl⟩
    have hvC : ∀ i, i < s0 → σ.2 (52 + 2 * t) i = v i := fun i _ => by rw [hv]
    have hvM : ∀ σ1, Fp Ac σ σ1 → ∀ i, i < s0 → σ1.2 97 (60 * t + i) = v i := fun σ1 F i hi => by rw [hv]; exact (F.l (by unfold Ac; omega)).trans (g3 i hi).symm
    have tC := takeC (σ := σ) (v := v) (t := t) (by omega) g1 hsz hvC hn6 hle
    have tM := fun σ1 F => wrongM (σ := σ1) (v := v) (t := t) (by omega) g1 (hvM σ1 F) hn6 hle
    rw [if_pos (show 0 + n ≤ s0 by omega), if_neg (by decide)] at preC
    have preM' : ∀ σ1, Fp Ac σ σ1 → Mo_wrongChoices σ1 (nI t) (nI n) (nI mode) = iter (fun s : (Int64 × Int32 × St) => Mo_wrongChoices_L63 (nI t) (nI n) s.2.2 s.1 s.2.1) FUEL (1, 0, σ1) := fun σ1 F => by rw [preM σ1 F, if_pos (by rw [le_nI (by omega) (by omega)]; omega)]
    rcases v_cases v n with hok | ⟨k, hk, hok, hbad⟩
    · obtain ⟨τ, t1, t2, t3, t4⟩ := tC.1 hok
      have hpb := pr_6 (m := vm v) hn6 (fun i hi => (hok i hi).2.1)
      have hp := productC (m := vm v) hn6 (fun i hi => (hok i hi).2.1) t3 t4
      rw [t1, bd2_s, if_neg (by decide), hp, bd_s, show (5040 : Int64) = lN 5040 from rfl] at preC
      by_cases c : pr (vm v) n ≤ 5040
      · right
        rw [if_pos (by rw [pk_lLE (by omega) (by omega)]; exact c)] at preC
        refine ⟨n, mode, vm v, τ, rfl, rfl, ⟨hn6, fun i hi => ⟨(hok i hi).1, (hok i hi).2.1⟩, c⟩, hmo, preC, t2, t3, t4, fun σ1 F => ?_⟩
        obtain ⟨σm, w1, w2, w3⟩ := (tM σ1 F).1 hok
        rw [if_pos c] at w1
        exact ⟨σm, (preM' σ1 F).trans w1, w2, w3⟩
      · left
        rw [if_neg (by rw [pk_lLE (by omega) (by omega)]; exact c)] at preC
        refine ⟨7, τ, by decide, by decide, preC, t2, fun σ1 F => ?_⟩
        obtain ⟨σm, w1, w2, w3⟩ := (tM σ1 F).1 hok
        rw [if_neg c] at w1
        exact ⟨σm, (preM' σ1 F).trans w1, w2⟩
    · left
      obtain ⟨τ, t1, t2⟩ := tC.2 k hk hok hbad
      rw [t1, bd2_s, if_pos rfl] at preC
      refine ⟨5, τ, by decide, by decide, preC, t2, fun σ1 F => ?_⟩
      obtain ⟨σm, w1, w2⟩ := (tM σ1 F).2 k hk hok hbad
      exact ⟨σm, (preM' σ1 F).trans w1, w2⟩
  · left
    refine bad1 (e := 3) (by decide) (by decide) ?_ (fun σ1 F => ?_)
    · rw [preC, if_neg (show ¬ 0 + n ≤ s0 by omega), if_pos rfl]
    · rw [preM σ1 F, if_neg (by rw [le_nI (by omega) (by omega)]; omega)]
theorem call_choices {σ : St} (I : Inv σ) (Z : Z40 σ) (p p2 p3 : Int32) : Call (fun σ => RC_choices σ p p2 p3) (fun σ => Mo_choices σ p p2 p3) σ := by
  rcases trouble I p p2 p3 with ⟨e, σc, e1, e2, e3, e4, e5⟩ | ⟨n, mode, m, σc, rfl, rfl, hM, hmo, e3, e4, c3, c7, e5⟩
  · refine call_v (τ := σc) (r := -1) (v := e) I (e4.mono (fun a i z => by unfold Atk at z; unfold Ac0; omega)) ?_ (fun σ1 F => ?_)
    · show RC_choices σ p p2 p3 = _
      unfold RC_choices
      rw [e3, bd2_s, if_neg e2, RC_refuse_n, bd2_s]
    · obtain ⟨σm, w1, w2⟩ := e5 σ1 F
      refine ⟨σm, w2.mono (fun a i z => by unfold Am0; omega), ?_⟩
      show Mo_choices σ1 p p2 p3 = _
      unfold Mo_choices
      rw [w1, bd2_s, if_neg e1, Mo_refuse_n, bd2_s]
  · obtain ⟨τ, t1, t2, t3⟩ := beginC (mode := mode) hM c3 c7
    have hB : CB τ m (fun _ => 0) (lc m n) 0 := fun w hw j hj => by
      have := (hM.lc (d := n) (Nat.le_refl _)).2
      have ez : τ.2 (40 + 0) w = 0 := (t3.l (by omega)).trans ((e4.l (by unfold Atk; omega)).trans (Z w (by omega)))
      rw [ez, lb_0]; rfl
    obtain ⟨ω, o1, o2⟩ := countC hM hmo t2 hB
    refine call_v (τ := ω) (r := nI (fb_sm (fun x => gd mode m (lc m n) n (de m n (fun _ => 0) x)) (pr m n))) (v := 0) I (((e4.mono (fun a i z => by unfold Atk at z; unfold Ac0; omega)).tr (t3.mono (fun a i z => by unfold Ac0; omega))).tr (o2.mono (fun a i z => by unfold Ac0; omega))) ?_ (fun σ1 F => ?_)
    · show RC_choices σ p (nI n) (nI mode) = _
      unfold RC_choices Ch_countWays
      rw [e3, bd2_s, if_pos rfl, t1, bd_s, o1, bd2_s, bd2_s, RC_answer_n, bd2_s]
    · obtain ⟨σm, w1, w2, w3⟩ := e5 σ1 F
      obtain ⟨υ, u1, u2⟩ := choicesM (r := fun _ => 0) hM hmo w3
      refine ⟨υ, (w2.mono (fun a i z => by unfold Am0; omega)).tr (u2.mono (fun a i z => by unfold Am0; omega)), ?_⟩
      show Mo_choices σ1 p (nI n) (nI mode) = _
      unfold Mo_choices
      rw [w1, bd2_s, if_pos (by decide), u1, bd2_s, Mo_gives_n, bd2_s]
