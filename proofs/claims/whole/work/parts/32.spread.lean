/-! spread -/
theorem jmax_nI {x y : Nat} (hx : x < 2147483648) (hy : y < 2147483648) : jmax (nI x) (nI y) = nI (max x y) := by
  unfold jmax
  by_cases h : x < y
  · rw [if_pos (by rw [lt_nI hx hy]; exact h), Nat.max_eq_right (by omega)]
  · rw [if_neg (by rw [lt_nI hx hy]; exact h), Nat.max_eq_left (by omega)]
def gm (md : Nat → Nat) : Nat → Nat
  | 0 => 0
  | k + 1 => max (gm md k) (md k)
theorem gm_le {md : Nat → Nat} : ∀ {c : Nat}, (∀ k, k < c → md k ≤ 60) → gm md c ≤ 60
  | 0, _ => by unfold gm; omega
  | c + 1, h => by
    have := gm_le (c := c) (fun k hk => h k (by omega))
    have := h c (by omega)
    unfold gm
    omega
theorem gm_ge {md : Nat → Nat} : ∀ {c k : Nat}, k < c → md k ≤ gm md c
  | 0, _, h => by omega
  | c + 1, k, h => by
    unfold gm
    by_cases e : k = c
    · rw [e]; omega
    · have := gm_ge (md := md) (c := c) (k := k) (by omega); omega
section SPR
variable {σ : St} {a c od on : Nat} {rs md nm : Nat → Nat}
theorem greatest_n (h : CV σ a c od on rs md nm) (hc : c ≤ 12) (hmd : ∀ k, k < c → md k ≤ 60) : Cl_greatestModulus σ a = some (nI (gm md c)) := by
  unfold Cl_greatestModulus
  have key := iter_for (body := fun u : (Int32 × Int32) => Cl_greatestModulus_L4 a σ u.1 u.2) (fun k => (nI (gm md k), nI k)) (lo := 0) (hi := c) (n := FUEL) (e := nI (gm md c)) (Nat.zero_le _) (fuel (by omega)) ?_ ?_
  · exact congrArg (fun o => bd o (fun v => some v)) key
  · intro k _ hk
    show Cl_greatestModulus_L4 a σ (nI (gm md k)) (nI k) = some (.inl (nI (gm md (k + 1)), nI (k + 1)))
    have b := hmd k hk
    have g := gm_le (md := md) (c := k) (fun j hj => hmd j (by omega))
    unfold Cl_greatestModulus_L4
    rw [h.1, if_neg (by rw [le_nI (by omega) (by omega)]; omega), ix_nI (by omega) (by omega), chk_true, tn_nI (by omega), h.2.2.2.2.1 k hk, jmax_nI (by omega) (by omega), bnd_x, bnd_x, nI_1]
    rfl
  · show Cl_greatestModulus_L4 a σ (nI (gm md c)) (nI c) = _
    unfold Cl_greatestModulus_L4
    rw [h.1, if_pos (by rw [le_nI (by omega) (by omega)]; omega)]
def strd (f : Nat → Nat) (n k : Nat) : Nat → Nat := fun j => if j < k then f j * n else f j
theorem strd_step (f : Nat → Nat) (n k j : Nat) : strd f n (k + 1) j = fset (strd f n k) k (f k * n) j := by
  unfold strd fset
  by_cases e : j = k
  · subst e; rw [if_pos (by omega), if_pos rfl]
  · rw [if_neg e]
    by_cases q : j < k
    · rw [if_pos (by omega)]; exact (if_pos q).symm
    · rw [if_neg (by omega)]; exact (if_neg q).symm
theorem strd_at (f : Nat → Nat) (n k : Nat) : strd f n k k = f k := if_neg (by omega)
theorem stretch_n (h : CV σ a c od on rs md nm) (w : WF c od on rs md nm) {n : Nat} (hn : n ≤ 60) : ∃ σ', Cl_stretch σ a (nI n) = some σ' ∧ CV σ' a c od on (strd rs n c) (strd md n c) nm := by
  have hc := w.1
  have key := iter_cnt (body := fun s : (Int32 × St) => Cl_stretch_L2 a (nI n) s.2 s.1) (fun k s => s.1 = nI k ∧ CV s.2 a c od on (strd rs n k) (strd md n k) nm) (fun e => CV e a c od on (strd rs n c) (strd md n c) nm) (lo := 0) (hi := c) (n := FUEL) (Nat.zero_le _) (fuel (by omega)) ?_ ?_ (s := (0, σ)) ⟨rfl, h.cong (fun k _ => if_neg (by omega)) (fun k _ => if_neg (by omega)) (fun _ _ => rfl)⟩
  · obtain ⟨e, h1, h2⟩ := key
    refine ⟨e, ?_, h2⟩
    unfold Cl_stretch
    rw [h1, bd_s]
  · rintro k ⟨x, τ⟩ _ hk ⟨rfl, hv⟩
    refine ⟨(nI (k + 1), wI (wI τ (a + 1) k (nI (rs k * n))) (a + 2) k (nI (md k * n))), ?_, rfl, ((hv.rest (k := k) (v := rs k * n)).mod (k := k) (v := md k * n)).cong (fun j _ => strd_step ..) (fun j _ => strd_step ..) (fun _ _ => rfl)⟩
    show Cl_stretch_L2 a (nI n) τ (nI k) = _
    unfold Cl_stretch_L2
    have hr := hv.2.2.2.1 k hk
    have hd := hv.2.2.2.2.1 k hk
    rw [strd_at] at hr hd
    rw [hv.1, if_neg (by rw [le_nI (by omega) (by omega)]; omega), ix_nI (by omega) (by omega), chk_true, chk_true, tn_nI (by omega), hr, pk_mul, bnd_x, chk_true, chk_true, wI_ne (by omega), hd, pk_mul, bnd_x, bnd_x, nI_1]
  · rintro ⟨x, τ⟩ ⟨rfl, hv⟩
    refine ⟨τ, ?_, hv⟩
    show Cl_stretch_L2 a (nI n) τ (nI c) = _
    unfold Cl_stretch_L2
    rw [hv.1, if_pos (by rw [le_nI (by omega) (by omega)]; omega)]
end SPR
theorem gm_strd {md : Nat → Nat} {n c : Nat} : ∀ k, k ≤ c → gm (strd md n c) k = n * gm md k
  | 0, _ => by unfold gm; omega
  | k + 1, h => by
    unfold gm
    rw [gm_strd k (by omega), show strd md n c k = n * md k from (if_pos (by omega)).trans (Nat.mul_comm _ _), ← Nat.mul_max_mul_left]
def moM (md : Nat → Nat) (n k : Nat) : Int32 := if k = 0 then -1 else nI (n * gm md k)
theorem moM_step {md : Nat → Nat} {n k : Nat} (hg : n * gm md k < 2147483648) (hm : n * md k < 2147483648) : jmax (moM md n k) (nI (n * md k)) = moM md n (k + 1) := by
  unfold moM
  rw [if_neg (show ¬ k + 1 = 0 by omega)]
  by_cases e : k = 0
  · subst e
    rw [if_pos rfl, show gm md (0 + 1) = md 0 from Nat.zero_max _]
    unfold jmax
    rw [if_pos (by rw [Int32.lt_iff_toInt_lt, nI_toInt hm, show (-1 : Int32).toInt = -1 from rfl]; omega)]
  · rw [if_neg e, jmax_nI hg hm, show gm md (k + 1) = max (gm md k) (md k) from rfl, ← Nat.mul_max_mul_left]
section SPM
variable {σ : St} {c od on : Nat} {rs md nm : Nat → Nat}
theorem mostM_n (h : MV σ 0 0 c od on rs md nm) (w : WF c od on rs md nm) {n : Nat} (hn : n ≤ 60) : iter (fun u : (Int32 × Int32) => Mo_spread_L24 (nI n) σ u.1 u.2) FUEL ((-1), 0) = some (moM md n c) := by
  have hc := w.1
  refine iter_for (body := fun u : (Int32 × Int32) => Mo_spread_L24 (nI n) σ u.1 u.2) (fun k => (moM md n k, nI k)) (lo := 0) (hi := c) (n := FUEL) (e := moM md n c) (Nat.zero_le _) (fuel (by omega)) ?_ ?_
  · intro k _ hk
    show Mo_spread_L24 (nI n) σ (moM md n k) (nI k) = some (.inl (moM md n (k + 1), nI (k + 1)))
    obtain ⟨b1, b2, b3⟩ := w.2.2.2.1 k hk
    have g := gm_le (md := md) (c := k) (fun j hj => (w.2.2.2.1 j (by omega)).2.1)
    have z1 : n * gm md k ≤ 60 * 60 := Nat.mul_le_mul hn g
    have z2 : n * md k ≤ 60 * 60 := Nat.mul_le_mul hn b2
    unfold Mo_spread_L24
    rw [ix00, chk_true, tn00, h.c0, if_neg (by rw [le_nI (by omega) (by omega)]; omega), modulusOf_n h w hk, bd_s, pk_mul, moM_step (by omega) (by omega), bnd_x, bnd_x, nI_1]
  · show Mo_spread_L24 (nI n) σ (moM md n c) (nI c) = _
    unfold Mo_spread_L24
    rw [ix00, chk_true, tn00, h.c0, if_pos (by rw [le_nI (by omega) (by omega)]; omega)]
theorem stretchM_n (h : MV σ 0 0 c od on rs md nm) (w : WF c od on rs md nm) {n : Nat} (hn : n ≤ 60) (v : Int32) : ∃ σ', iter (fun s : (Int32 × St) => Mo_spread_L67 (nI n) v s.2 s.1) FUEL (0, σ) = some σ' ∧ MV σ' 0 0 c od on (strd rs n c) (strd md n c) nm ∧ Fp Ms σ σ' := by
  have hc := w.1
  refine iter_cnt (body := fun s : (Int32 × St) => Mo_spread_L67 (nI n) v s.2 s.1) (fun k s => s.1 = nI k ∧ MV s.2 0 0 c od on (strd rs n k) (strd md n k) nm ∧ Fp Ms σ s.2) (fun e => MV e 0 0 c od on (strd rs n c) (strd md n c) nm ∧ Fp Ms σ e) (lo := 0) (hi := c) (n := FUEL) (Nat.zero_le _) (fuel (by omega)) ?_ ?_ (s := (0, σ)) ⟨rfl, h.cong (fun _ _ => rfl) (fun k _ => if_neg (by omega)) (fun k _ => if_neg (by omega)) (fun _ _ => rfl), Fp.rf⟩
  · rintro k ⟨x, τ⟩ _ hk ⟨rfl, hv, hF⟩
    refine ⟨(nI (k + 1), wI (wI τ 93 (4 + 3 * k) (nI (rs k * n))) 93 (5 + 3 * k) (nI (md k * n))), ?_, rfl, ((hv.rest0 (k := k) (v := rs k * n)).mod0 (k := k) (v := md k * n)).cong (fun _ _ => rfl) (fun j _ => strd_step ..) (fun j _ => strd_step ..) (fun _ _ => rfl), (hF.wI (by unfold Ms; omega)).wI (by unfold Ms; omega)⟩
    show Mo_spread_L67 (nI n) v τ (nI k) = _
    unfold Mo_spread_L67
    have hr := hv.r0 hk
    have hd := hv.m0 hk
    rw [strd_at] at hr hd
    rw [ix00, chk_true, tn00, hv.c0, if_neg (by rw [le_nI (by omega) (by omega)]; omega), rowOf_n, bd_s, ix_nI (by omega) (by omega), chk_true, chk_true, tn_nI (by omega), hr, pk_mul, bnd_x, bd_s, nI_1, ix_nI (by omega) (by omega), chk_true, chk_true, tn_nI (by omega), wI_ne (by omega), show 4 + 3 * k + 1 = 5 + 3 * k by omega, hd, pk_mul, bnd_x, bnd_x, nI_1]
  · rintro ⟨x, τ⟩ ⟨rfl, hv, hF⟩
    refine ⟨τ, ?_, hv, hF⟩
    show Mo_spread_L67 (nI n) v τ (nI c) = _
    unfold Mo_spread_L67
    rw [ix00, chk_true, tn00, hv.c0, if_pos (by rw [le_nI (by omega) (by omega)]; omega)]
end SPM
theorem call_spread {σ : St} (I : Inv σ) (p : Int32) : Call (fun σ => RC_spread σ p) (fun σ => Mo_spread σ p) σ := by
  obtain ⟨c, od, on, rs, md, nm, hc, hm, w⟩ := I.2.2.2.2.1
  have hc12 := w.1
  have hmd : ∀ k, k < c → md k ≤ 60 := fun k hk => (w.2.2.2.1 k hk).2.1
  rcases within_ex p (lo := 2) (hi := 60) 2 60 rfl rfl (by omega) with h | ⟨n, hn2, hn, rfl, h⟩
  · refine call_s (r := -1) (v := 1) I ?_ (fun σ1 F => ?_)
    · show RC_spread σ p = _
      unfold RC_spread
      rw [h, bd_s, if_pos rfl, RC_refuse_n, bd2_s]
    · show Mo_spread σ1 p = _
      unfold Mo_spread
      rw [isFrom_w, h, bd_s, if_pos rfl, Mo_refuse_n, bd2_s]
  have hg := gm_le hmd
  have z1 : gm md c * n ≤ 60 * 60 := Nat.mul_le_mul hg hn
  have z2 : n * gm md c = gm md c * n := Nat.mul_comm _ _
  by_cases h0 : c = 0
  · refine call_s (r := -1) (v := 6) I ?_ (fun σ1 F => ?_)
    · show RC_spread σ (nI n) = _
      unfold RC_spread
      rw [h, bd_s, if_neg (by decide), greatest_n hc hc12 hmd, bd_s, pk_mul, if_pos (by rw [show (60 : Int32) = nI 60 from rfl, le_nI (by omega) (by omega)]; subst h0; rw [show gm md 0 = 0 from rfl]; omega), hc.1, if_pos (by rw [h0]; rfl), RC_refuse_n, bd2_s]
    · show Mo_spread σ1 (nI n) = _
      have hm1 := hm.w F
      have ex : iter (fun s : (Int32 × St) => Mo_spread_L67 (nI n) (-1) s.2 s.1) FUEL (0, σ1) = some σ1 := by
        refine iter_for (body := fun s : (Int32 × St) => Mo_spread_L67 (nI n) (-1) s.2 s.1) (fun k => (0, σ1)) (lo := 0) (hi := 0) (n := FUEL) (Nat.le_refl _) (fuel (by omega)) (fun k _ q => by omega) ?_
        show Mo_spread_L67 (nI n) (-1) σ1 0 = _
        unfold Mo_spread_L67
        rw [ix00, chk_true, tn00, hm1.c0, if_pos (by rw [h0]; decide)]
      unfold Mo_spread
      rw [isFrom_w, h, bd_s, if_neg (by decide), mostM_n hm1 w hn, bd_s, show moM md n c = -1 from if_pos h0, if_pos (by decide), ex, bd_s, orNone_m, if_pos rfl, bd2_s]
  have hmo : moM md n c = nI (n * gm md c) := if_neg h0
  by_cases hq : gm md c * n ≤ 60
  · obtain ⟨τ, s1, s2⟩ := stretch_n hc w hn
    have hmd' : ∀ k, k < c → strd md n c k ≤ 60 := fun k hk => by
      rw [show strd md n c k = md k * n from if_pos hk]
      exact Nat.le_trans (Nat.mul_le_mul_right n (gm_ge hk)) hq
    have e1 : RC_spread σ (nI n) = some (nI (n * gm md c), wI τ 0 0 0) := by
      unfold RC_spread
      rw [h, bd_s, if_neg (by decide), greatest_n hc hc12 hmd, bd_s, pk_mul, if_pos (by rw [show (60 : Int32) = nI 60 from rfl, le_nI (by omega) (by omega)]; exact hq), hc.1, if_neg (by rw [show (0 : Int32) = nI 0 from rfl, eq_nI (by omega) (by omega)]; exact h0), s1, bd_s, greatest_n s2 hc12 hmd', bd_s, gm_strd c (Nat.le_refl _), RC_answer_n, bd2_s]
    have F1 := (fp_RC_spread (A := Acs) (Fp.rf (σ := σ)) (by intros; unfold Acs; omega) (by intros; unfold Acs; omega) (by intros; unfold Acs; omega) _ e1).2
    have hmm := hm.ws F1
    obtain ⟨υ, t1, t2, t3⟩ := stretchM_n hmm w hn (nI (n * gm md c))
    refine call_m (v := 0) (σ2 := wI υ 92 2 0) I e1 F1 wI_s (CV.st s2 (by omega) 0) ?_ ?_ wI_s (MV.st t2 0) ⟨w.1, w.2.1, w.2.2.1, fun k hk => ⟨?_, hmd' k hk, ?_⟩, w.2.2.2.2⟩
    · show Mo_spread _ _ = _
      unfold Mo_spread
      rw [isFrom_w, h, bd_s, if_neg (by decide), mostM_n hmm w hn, bd_s, hmo, if_pos (by rw [show (60 : Int32) = nI 60 from rfl, le_nI (by omega) (by omega)]; omega), t1, bd_s, orNone_m, if_neg (nI_m1 (by omega)), bd2_s]
    · exact (t3.mono Ms.q).wI (by unfold Ams; omega)
    · rw [show strd md n c k = md k * n from if_pos hk]
      have := (w.2.2.2.1 k hk).1
      exact Nat.mul_pos (by omega) (by omega)
    · rw [show strd md n c k = md k * n from if_pos hk, show strd rs n c k = rs k * n from if_pos hk]
      exact Nat.mul_lt_mul_of_pos_right (w.2.2.2.1 k hk).2.2 (by omega)
  · refine call_s (r := -1) (v := 7) I ?_ (fun σ1 F => ?_)
    · show RC_spread σ (nI n) = _
      unfold RC_spread
      rw [h, bd_s, if_neg (by decide), greatest_n hc hc12 hmd, bd_s, pk_mul, if_neg (by rw [show (60 : Int32) = nI 60 from rfl, le_nI (by omega) (by omega)]; exact hq), RC_refuse_n, bd2_s]
    · show Mo_spread σ1 (nI n) = _
      unfold Mo_spread
      rw [isFrom_w, h, bd_s, if_neg (by decide), mostM_n (hm.w F) w hn, bd_s, hmo, if_neg (by rw [show (60 : Int32) = nI 60 from rfl, le_nI (by omega) (by omega)]; omega), Mo_refuse_n, bd2_s]
