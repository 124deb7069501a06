section GM2
variable {c od on : Nat} {rs md nm : Nat → Nat}
theorem worth_f {σ : St} {s n : Nat} {f : Nat → Nat} (h : CV σ 7 c od on rs md nm) (w : WF c od on rs md nm) (hs : s < 2 ^ c) (h0 : ¬ spn md s c = 0) (hn : (n = 1 ∧ f = gvl c rs md) ∨ (n = 2 ∧ f = gv1 c rs md)) : (∃ σ', Ga_worth 60 σ 7 (nI s) (nI n) 1 = some (nI (acf (bop true) md c f s c), σ') ∧ Fp Asv σ σ') ∧ ∃ σ', Ga_worth 60 σ 7 (nI s) (nI n - 1) 0 = some (nI (f s), σ') ∧ Fp Asv σ σ' := by
  rcases hn with ⟨rfl, rfl⟩ | ⟨rfl, rfl⟩
  · exact ⟨worth_x (n := 58) h w hs h0, worth_0 (n := 59) h w hs h0⟩
  · exact ⟨worth_2 (n := 57) h w hs h0, worth_m (n := 58) h w hs h0⟩
theorem bestSwitch_n {σ : St} {n : Nat} {f : Nat → Nat} (h : CV σ 7 c od on rs md nm) (w : WF c od on rs md nm) (h0 : ¬ spn md on c = 0) (hf : ∀ s, f s ≤ 5040) (hn : (n = 1 ∧ f = gvl c rs md) ∨ (n = 2 ∧ f = gv1 c rs md)) : ∃ σ', Ga_bestSwitch σ 7 (nI n) = some ((if am (hvl md c f on) (c + 1) < c then nI (am (hvl md c f on) (c + 1)) else -1), σ') ∧ Fp Asv σ σ' := by
  have hc := w.1
  have hp := p2_12 hc
  obtain ⟨⟨τ, a1, a2⟩, _⟩ := worth_f h w w.2.2.1 h0 hn
  have hfin := mx_fin (md := md) (f := f) h0
  obtain ⟨e1, e2, e3⟩ := am_n (f := hvl md c f on) (c + 1) (by omega)
  generalize am (hvl md c f on) (c + 1) = t at e1 e2 e3 ⊢
  have hB := acf_le (op := bop true) (bop_o true) (md := md) (c := c) hf on c
  obtain ⟨⟨r, ω⟩, c1, c2, c3⟩ := iter_cnt (body := fun u : (Int32 × St) => Ga_bestSwitch_L15 7 (nI n) (nI (acf (bop true) md c f on c)) u.2 u.1) (fun k u => u.1 = nI k ∧ Fp Asv σ u.2) (fun e => e.1 = (if t < c then nI t else -1) ∧ Fp Asv σ e.2) (lo := 0) (hi := t) (n := FUEL) (Nat.zero_le _) (fuel (by omega)) (by
    rintro k ⟨k', u⟩ _ hk ⟨rfl, F⟩
    have F' : Fp Asv σ u := F
    have hu : CV u 7 c od on rs md nm := h.keep (F'.sm (fun b i q1 q2 q => by unfold Asv at q; omega))
    have hx : on ^^^ 2 ^ k < 2 ^ c := Nat.xor_lt_two_pow w.2.2.1 (Nat.pow_lt_pow_right (by decide) (by omega))
    have hlt := e3 k hk
    rw [hvl_k (by omega), hfin] at hlt
    have hsp := spn_le md (on ^^^ 2 ^ k) c
    by_cases z : spn md (on ^^^ 2 ^ k) c = 0
    · refine ⟨(nI (k + 1), u), ?_, rfl, F⟩
      show Ga_bestSwitch_L15 7 (nI n) (nI (acf (bop true) md c f on c)) u (nI k) = _
      unfold Ga_bestSwitch_L15
      rw [hu.1, if_neg (by rw [le_nI (by omega) (by omega)]; omega), hu.2.1, shl1 (by omega), xor_nI, bnd_x, spanOf_n hu w (by omega), bd_s, z, if_pos (show nI 0 = 0 from rfl), bnd_x, nI_1]
    · rw [if_neg z] at hlt
      obtain ⟨_, υ, d1, d2⟩ := worth_f hu w hx z hn
      refine ⟨(nI (k + 1), υ), ?_, rfl, F'.tr d2⟩
      show Ga_bestSwitch_L15 7 (nI n) (nI (acf (bop true) md c f on c)) u (nI k) = _
      unfold Ga_bestSwitch_L15
      rw [hu.1, if_neg (by rw [le_nI (by omega) (by omega)]; omega), hu.2.1, shl1 (by omega), xor_nI, bnd_x, spanOf_n hu w (by omega), bd_s, if_neg (by rw [show (0 : Int32) = nI 0 from rfl, eq_nI (by omega) (by omega)]; exact z), d1, bd2_s, if_neg (by rw [eq_nI (by omega) (by omega)]; omega), bnd_x, nI_1]) (by
    rintro ⟨k', u⟩ ⟨rfl, F⟩
    have F' : Fp Asv σ u := F
    have hu : CV u 7 c od on rs md nm := h.keep (F'.sm (fun b i q1 q2 q => by unfold Asv at q; omega))
    by_cases q : t < c
    · have hx : on ^^^ 2 ^ t < 2 ^ c := Nat.xor_lt_two_pow w.2.2.1 (Nat.pow_lt_pow_right (by decide) q)
      rw [hvl_k q, hfin] at e2
      have hsp := spn_le md (on ^^^ 2 ^ t) c
      have z : ¬ spn md (on ^^^ 2 ^ t) c = 0 := fun z => by rw [if_pos z] at e2; omega
      rw [if_neg z] at e2
      obtain ⟨_, υ, d1, d2⟩ := worth_f hu w hx z hn
      refine ⟨(nI t, υ), ?_, (if_pos q).symm, F'.tr d2⟩
      show Ga_bestSwitch_L15 7 (nI n) (nI (acf (bop true) md c f on c)) u (nI t) = _
      unfold Ga_bestSwitch_L15
      rw [hu.1, if_neg (by rw [le_nI (by omega) (by omega)]; omega), hu.2.1, shl1 (by omega), xor_nI, bnd_x, spanOf_n hu w (by omega), bd_s, if_neg (by rw [show (0 : Int32) = nI 0 from rfl, eq_nI (by omega) (by omega)]; exact z), d1, bd2_s, if_pos (by rw [show f (on ^^^ 2 ^ t) = acf (bop true) md c f on c by omega])]
    · refine ⟨(-1, u), ?_, (if_neg q).symm, F⟩
      show Ga_bestSwitch_L15 7 (nI n) (nI (acf (bop true) md c f on c)) u (nI t) = _
      unfold Ga_bestSwitch_L15
      rw [hu.1, if_pos (by rw [le_nI (by omega) (by omega)]; omega)]) (s := (0, τ)) ⟨rfl, a2⟩
  refine ⟨ω, ?_, c3⟩
  have c2' : r = if t < c then nI t else -1 := c2
  unfold Ga_bestSwitch
  rw [h.2.1, a1, bd2_s, c1, c2']
end GM2
theorem Asv.c (a i : Nat) (h : Asv a i) : Ac0 a i := Asv.q a i h
theorem Alb.q (a i : Nat) (h : Alb a i) : Am0 a i := by unfold Alb at h; unfold Am0; omega
theorem call_game {σ : St} (I : Inv σ) (p : Int32) : Call (fun σ => RC_game σ p) (fun σ => Mo_game σ p) σ := by
  obtain ⟨c, od, on, rs, md, nm, hc, hm, w⟩ := I.2.2.2.2.1
  have ho := w.on4
  have hsp := spanOf_n hc w (s := on) (by omega)
  have e00 : (0 : Int32).toInt64 = 0 := rfl
  rcases within_ex p (lo := 0) (hi := 2) 0 2 rfl rfl (by omega) with h | ⟨n, _, hn, rfl, h⟩
  · refine call_s (r := -1) (v := 1) I ?_ (fun σ1 F => ?_)
    · show RC_game σ p = _
      unfold RC_game
      rw [h, bd_s, if_pos rfl, RC_refuse_n, bd2_s]
    · show Mo_game σ1 p = _
      unfold Mo_game Mo_wrongGame
      rw [isFrom_w, e00, h, bd_s, if_pos rfl, bd_s, if_neg (by decide), Mo_refuse_n, bd2_s]
  by_cases h0 : spn md on c = 0
  · refine call_s (r := -1) (v := 7) I ?_ (fun σ1 F => ?_)
    · show RC_game σ (nI n) = _
      unfold RC_game
      rw [h, bd_s, if_neg (by decide), hc.2.1, hsp, bd_s, h0, if_pos (show nI 0 = 0 from rfl), RC_refuse_n, bd2_s]
    · show Mo_game σ1 (nI n) = _
      unfold Mo_game Mo_wrongGame
      rw [isFrom_w, e00, h, bd_s, if_neg (by decide), onSet_n (hm.w F) w, bd_s, spanM_n (hm.w F) w (by omega), if_pos h0, bd_s, if_pos rfl, bd_s, if_neg (by decide), Mo_refuse_n, bd2_s]
  obtain ⟨p1, p2⟩ := spn_pos h0
  have wr : ∀ {σ1 : St}, MV σ1 0 0 c od on rs md nm → Mo_wrongGame σ1 (nI n) 0 = some 0 := fun F => by
    unfold Mo_wrongGame
    rw [isFrom_w, e00, h, bd_s, if_neg (by decide), onSet_n F w, bd_s, spanM_n F w (by omega), if_neg h0, bd_s, if_neg (nI_m1 (by omega))]
  by_cases hz : n = 0
  · subst hz
    obtain ⟨τ, a1, a2⟩ := worth_0 (n := 59) (p := 1) hc w w.2.2.1 h0
    have a1' : Ga_worth 60 σ 7 (nI on) (nI 0) 1 = some (nI (gvl c rs md on), τ) := a1
    refine call_v I (a2.mono Asv.q) (r := nI (gvl c rs md on)) (v := 0) ?_ (fun σ1 F => ?_)
    · show RC_game σ (nI 0) = _
      unfold RC_game
      rw [h, bd_s, if_neg (by decide), hc.2.1, hsp, bd_s, if_neg (by rw [show (0 : Int32) = nI 0 from rfl, eq_nI (by omega) (by omega)]; exact h0), a1', bd2_s, RC_answer_n, bd2_s]
    · have hm1 := hm.w2 F
      obtain ⟨υ, b1, b2⟩ := worthM_n hm1 w w.2.2.1 h0
      refine ⟨υ, b2.mono Aly.q, ?_⟩
      show Mo_game σ1 (nI 0) = _
      unfold Mo_game
      rw [wr hm1, bd_s, if_pos (by decide), if_pos (show nI 0 = 0 from rfl), onSet_n hm1 w, bd_s, b1, bd2_s, Mo_gives_n, bd2_s]
  · obtain ⟨f, hf, hff⟩ : ∃ f : Nat → Nat, ((n = 1 ∧ f = gvl c rs md) ∨ (n = 2 ∧ f = gv1 c rs md)) ∧ ∀ s, f s ≤ 5040 := by
      rcases (show n = 1 ∨ n = 2 by omega) with e | e
      · exact ⟨gvl c rs md, Or.inl ⟨e, rfl⟩, fun _ => gvl_le⟩
      · exact ⟨gv1 c rs md, Or.inr ⟨e, rfl⟩, fun _ => gv1_le⟩
    obtain ⟨⟨τ, a1, a2⟩, _⟩ := worth_f hc w w.2.2.1 h0 hf
    refine call_v I (a2.mono Asv.q) (r := nI (acf (bop true) md c f on c)) (v := 0) ?_ (fun σ1 F => ?_)
    · show RC_game σ (nI n) = _
      unfold RC_game
      rw [h, bd_s, if_neg (by decide), hc.2.1, hsp, bd_s, if_neg (by rw [show (0 : Int32) = nI 0 from rfl, eq_nI (by omega) (by omega)]; exact h0), a1, bd2_s, RC_answer_n, bd2_s]
    · have hm1 := hm.w2 F
      obtain ⟨υ, b1, b2, b3⟩ := mostM_g hm1 w w.2.2.1 h0 hff hf
      refine ⟨υ, b2.mono Alb.q, ?_⟩
      show Mo_game σ1 (nI n) = _
      unfold Mo_game
      rw [wr hm1, bd_s, if_pos (by decide), show (0 : Int32) = nI 0 from rfl, if_neg (by rw [eq_nI (by omega) (by omega)]; exact hz), onSet_n hm1 w, bd_s, b1, bd2_s, Mo_gives_n, bd2_s]
      rfl
theorem call_moveOf {σ : St} (I : Inv σ) (p : Int32) : Call (fun σ => RC_moveOf σ p) (fun σ => Mo_moveOf σ p) σ := by
  obtain ⟨c, od, on, rs, md, nm, hc, hm, w⟩ := I.2.2.2.2.1
  have ho := w.on4
  have hc12 := w.1
  have hsp := spanOf_n hc w (s := on) (by omega)
  have e00 : (1 : Int32).toInt64 = 1 := rfl
  rcases within_ex p (lo := 1) (hi := 2) 1 2 rfl rfl (by omega) with h | ⟨n, hn1, hn, rfl, h⟩
  · refine call_s (r := -1) (v := 1) I ?_ (fun σ1 F => ?_)
    · show RC_moveOf σ p = _
      unfold RC_moveOf
      rw [h, bd_s, if_pos rfl, RC_refuse_n, bd2_s]
    · show Mo_moveOf σ1 p = _
      unfold Mo_moveOf Mo_wrongGame
      rw [isFrom_w, e00, h, bd_s, if_pos rfl, bd_s, if_neg (by decide), Mo_refuse_n, bd2_s]
  by_cases h0 : spn md on c = 0
  · refine call_s (r := -1) (v := 7) I ?_ (fun σ1 F => ?_)
    · show RC_moveOf σ (nI n) = _
      unfold RC_moveOf
      rw [h, bd_s, if_neg (by decide), hc.2.1, hsp, bd_s, h0, if_pos (show nI 0 = 0 from rfl), RC_refuse_n, bd2_s]
    · show Mo_moveOf σ1 (nI n) = _
      unfold Mo_moveOf Mo_wrongGame
      rw [isFrom_w, e00, h, bd_s, if_neg (by decide), onSet_n (hm.w F) w, bd_s, spanM_n (hm.w F) w (by omega), if_pos h0, bd_s, if_pos rfl, bd_s, if_neg (by decide), Mo_refuse_n, bd2_s]
  obtain ⟨p1, p2⟩ := spn_pos h0
  have wr : ∀ {σ1 : St}, MV σ1 0 0 c od on rs md nm → Mo_wrongGame σ1 (nI n) 1 = some 0 := fun F => by
    unfold Mo_wrongGame
    rw [isFrom_w, e00, h, bd_s, if_neg (by decide), onSet_n F w, bd_s, spanM_n F w (by omega), if_neg h0, bd_s, if_neg (nI_m1 (by omega))]
  obtain ⟨f, hf, hff⟩ : ∃ f : Nat → Nat, ((n = 1 ∧ f = gvl c rs md) ∨ (n = 2 ∧ f = gv1 c rs md)) ∧ ∀ s, f s ≤ 5040 := by
    rcases (show n = 1 ∨ n = 2 by omega) with e | e
    · exact ⟨gvl c rs md, Or.inl ⟨e, rfl⟩, fun _ => gvl_le⟩
    · exact ⟨gv1 c rs md, Or.inr ⟨e, rfl⟩, fun _ => gv1_le⟩
  obtain ⟨τ, a1, a2⟩ := bestSwitch_n hc w h0 hff hf
  have hal := am_le (hvl md c f on) (c + 1)
  obtain ⟨ea, _, _⟩ := am_n (f := hvl md c f on) (c + 1) (by omega)
  by_cases q : am (hvl md c f on) (c + 1) < c
  · refine call_v I (a2.mono Asv.q) (r := nI (am (hvl md c f on) (c + 1))) (v := 0) ?_ (fun σ1 F => ?_)
    · show RC_moveOf σ (nI n) = _
      unfold RC_moveOf
      rw [h, bd_s, if_neg (by decide), hc.2.1, hsp, bd_s, if_neg (by rw [show (0 : Int32) = nI 0 from rfl, eq_nI (by omega) (by omega)]; exact h0), a1, bd2_s, if_pos q, orNone_c, if_neg (nI_m1 (by omega)), bd2_s]
    · have hm1 := hm.w2 F
      obtain ⟨υ, b1, b2, b3⟩ := mostM_g hm1 w w.2.2.1 h0 hff hf
      have hm2 : MV υ 0 0 c od on rs md nm := hm1.ly b2 Alb.h
      refine ⟨υ, b2.mono Alb.q, ?_⟩
      show Mo_moveOf σ1 (nI n) = _
      unfold Mo_moveOf
      rw [wr hm1, bd_s, if_pos (by decide), onSet_n hm1 w, bd_s, b1, bd2_s, ix00, chk_true, tn00, hm2.c0, b3, if_neg (by rw [eq_nI (by omega) (by omega)]; omega), Mo_gives_n, bd2_s]
  · refine call_v I (a2.mono Asv.q) (r := -1) (v := 6) ?_ (fun σ1 F => ?_)
    · show RC_moveOf σ (nI n) = _
      unfold RC_moveOf
      rw [h, bd_s, if_neg (by decide), hc.2.1, hsp, bd_s, if_neg (by rw [show (0 : Int32) = nI 0 from rfl, eq_nI (by omega) (by omega)]; exact h0), a1, bd2_s, if_neg q, orNone_c, if_pos rfl, bd2_s]
    · have hm1 := hm.w2 F
      obtain ⟨υ, b1, b2, b3⟩ := mostM_g hm1 w w.2.2.1 h0 hff hf
      have hm2 : MV υ 0 0 c od on rs md nm := hm1.ly b2 Alb.h
      refine ⟨υ, b2.mono Alb.q, ?_⟩
      show Mo_moveOf σ1 (nI n) = _
      unfold Mo_moveOf
      rw [wr hm1, bd_s, if_pos (by decide), onSet_n hm1 w, bd_s, b1, bd2_s, ix00, chk_true, tn00, hm2.c0, b3, if_pos (by rw [show am (hvl md c f on) (c + 1) = c by omega]), Mo_refuse_n, bd2_s]
