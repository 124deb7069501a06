theorem iter_cnt {S E : Type} {body : S → Option (S ⊕ E)} (I : Nat → S → Prop) (P : E → Prop) {lo hi n : Nat} (hle : lo ≤ hi) (hn : hi - lo < n) (hb : ∀ k s, lo ≤ k → k < hi → I k s → ∃ s', body s = some (.inl s') ∧ I (k + 1) s') (he : ∀ s, I hi s → ∃ e, body s = some (.inr e) ∧ P e) {s : S} (h0 : I lo s) : ∃ e, iter body n s = some e ∧ P e := by
  obtain ⟨m, hm⟩ : ∃ m, hi - lo = m := ⟨_, rfl⟩
  induction m generalizing lo n s with
  | zero =>
    have : lo = hi := by omega
    subst this
    obtain ⟨n', rfl⟩ : ∃ n', n = n' + 1 := ⟨n - 1, by omega⟩
    obtain ⟨e, h1, h2⟩ := he s h0
    exact ⟨e, iter_exit h1, h2⟩
  | succ m ih =>
    obtain ⟨n', rfl⟩ : ∃ n', n = n' + 1 := ⟨n - 1, by omega⟩
    obtain ⟨s', h1, h2⟩ := hb lo s (Nat.le_refl _) (by omega) h0
    rw [iter_step h1]
    exact ih (by omega) (by omega) (fun k s q1 q2 => hb k s (by omega) q2) h2 (by omega)
theorem CV.cong {σ : St} {a c od on : Nat} {rs md nm rs' md' nm' : Nat → Nat} (h : CV σ a c od on rs md nm) (e1 : ∀ k, k < c → rs' k = rs k) (e2 : ∀ k, k < c → md' k = md k) (e3 : ∀ k, k < c → nm' k = nm k) : CV σ a c od on rs' md' nm' :=
  ⟨h.1, h.2.1, h.2.2.1, fun k hk => by rw [e1 k hk]; exact h.2.2.2.1 k hk, fun k hk => by rw [e2 k hk]; exact h.2.2.2.2.1 k hk, fun k hk => by rw [e3 k hk]; exact h.2.2.2.2.2 k hk⟩
theorem MV.cong {σ : St} {o q c od on on' : Nat} {rs md nm rs' md' nm' : Nat → Nat} (h : MV σ o q c od on rs md nm) (e0 : ∀ k, k < c → on'.testBit k = on.testBit k) (e1 : ∀ k, k < c → rs' k = rs k) (e2 : ∀ k, k < c → md' k = md k) (e3 : ∀ k, k < c → nm' k = nm k) : MV σ o q c od on' rs' md' nm' :=
  ⟨h.1, h.2.1, fun k hk => by rw [e1 k hk]; exact h.2.2.1 k hk, fun k hk => by rw [e2 k hk]; exact h.2.2.2.1 k hk, fun k hk => by rw [e0 k hk]; exact h.2.2.2.2.1 k hk, fun k hk => by rw [e3 k hk]; exact h.2.2.2.2.2 k hk⟩
theorem WF.rs {c od on : Nat} {rs md nm rs' : Nat → Nat} (w : WF c od on rs md nm) (h : ∀ k, k < c → rs' k < md k) : WF c od on rs' md nm :=
  ⟨w.1, w.2.1, w.2.2.1, fun k hk => ⟨(w.2.2.2.1 k hk).1, (w.2.2.2.1 k hk).2.1, h k hk⟩, w.2.2.2.2⟩
/-- where the reference's own system lies -/
def Ms (a i : Nat) : Prop := (a = 93 ∧ (i < 2 ∨ (4 ≤ i ∧ i < 40))) ∨ (a = 94 ∧ i < 12)
theorem Ms.q (a i : Nat) (h : Ms a i) : Ams a i := by unfold Ms at h; unfold Ams; omega
/-! shift -/
def slid (rs md : Nat → Nat) (n k : Nat) : Nat → Nat := fun j => if j < k then (rs j + n) % md j else rs j
theorem slid_lt {c od on : Nat} {rs md nm : Nat → Nat} (w : WF c od on rs md nm) (n k : Nat) : ∀ j, j < c → slid rs md n k j < md j := by
  intro j hj
  obtain ⟨b1, b2, b3⟩ := w.2.2.2.1 j hj
  unfold slid
  split
  · exact Nat.mod_lt _ (by omega)
  · exact b3
theorem slid_step (rs md : Nat → Nat) (n k j : Nat) : slid rs md n (k + 1) j = fset (slid rs md n k) k ((rs k + n) % md k) j := by
  unfold slid fset
  by_cases e : j = k
  · subst e; rw [if_pos (by omega), if_pos rfl]
  · rw [if_neg e]
    by_cases q : j < k
    · rw [if_pos (by omega)]; exact (if_pos q).symm
    · rw [if_neg (by omega)]; exact (if_neg q).symm
theorem slide_n {σ : St} {a c od on : Nat} {rs md nm : Nat → Nat} (h : CV σ a c od on rs md nm) (w : WF c od on rs md nm) {n : Nat} (hn : n ≤ 59) : ∃ σ', Cl_slide σ a (nI n) = some σ' ∧ CV σ' a c od on (slid rs md n c) md nm := by
  have hc := w.1
  have key := iter_cnt (body := fun s : (Int32 × St) => Cl_slide_L2 a (nI n) s.2 s.1) (fun k s => s.1 = nI k ∧ CV s.2 a c od on (slid rs md n k) md nm) (fun e => CV e a c od on (slid rs md n c) md nm) (lo := 0) (hi := c) (n := FUEL) (Nat.zero_le _) (fuel (by omega)) ?_ ?_ (s := (0, σ)) ⟨rfl, h.cong (fun k _ => if_neg (by omega)) (fun _ _ => rfl) (fun _ _ => rfl)⟩
  · obtain ⟨e, h1, h2⟩ := key
    refine ⟨e, ?_, h2⟩
    unfold Cl_slide
    rw [h1, bd_s]
  · rintro k ⟨x, τ⟩ _ hk ⟨rfl, hv⟩
    obtain ⟨b1, b2, b3⟩ := w.2.2.2.1 k hk
    refine ⟨(nI (k + 1), wI τ (a + 1) k (nI ((rs k + n) % md k))), ?_, rfl, (hv.rest (k := k) (v := (rs k + n) % md k)).cong (fun j _ => slid_step ..) (fun _ _ => rfl) (fun _ _ => rfl)⟩
    show Cl_slide_L2 a (nI n) τ (nI k) = _
    unfold Cl_slide_L2
    have hr := hv.2.2.2.1 k hk
    rw [show slid rs md n k k = rs k from if_neg (by omega)] at hr
    rw [hv.1, if_neg (by rw [le_nI (by omega) (by omega)]; omega), ix_nI (by omega) (by omega), chk_true, chk_true, tn_nI (by omega), hr, hv.2.2.2.2.1 k hk, nI_add, leftBy_n (by omega) (by omega) (by omega), bd_s, chk_true, bnd_x, bnd_x, nI_1]
  · rintro ⟨x, τ⟩ ⟨rfl, hv⟩
    refine ⟨τ, ?_, hv⟩
    show Cl_slide_L2 a (nI n) τ (nI c) = _
    unfold Cl_slide_L2
    rw [hv.1, if_pos (by rw [le_nI (by omega) (by omega)]; omega)]
theorem shifts_n {σ : St} {c od on : Nat} {rs md nm : Nat → Nat} (h : MV σ 0 0 c od on rs md nm) (w : WF c od on rs md nm) {n : Nat} (hn : n ≤ 59) : ∃ σ', Mo_shifts σ (nI n) = some σ' ∧ MV σ' 0 0 c od on (slid rs md n c) md nm ∧ Fp Ms σ σ' := by
  have hc := w.1
  have key := iter_cnt (body := fun s : (Int32 × St) => Mo_shifts_L2 (nI n) s.2 s.1) (fun k s => s.1 = nI k ∧ MV s.2 0 0 c od on (slid rs md n k) md nm ∧ Fp Ms σ s.2) (fun e => MV e 0 0 c od on (slid rs md n c) md nm ∧ Fp Ms σ e) (lo := 0) (hi := c) (n := FUEL) (Nat.zero_le _) (fuel (by omega)) ?_ ?_ (s := (0, σ)) ⟨rfl, h.cong (fun _ _ => rfl) (fun k _ => if_neg (by omega)) (fun _ _ => rfl) (fun _ _ => rfl), Fp.rf⟩
  · obtain ⟨e, h1, h2⟩ := key
    refine ⟨e, ?_, h2⟩
    unfold Mo_shifts
    rw [h1, bd_s]
  · rintro k ⟨x, τ⟩ _ hk ⟨rfl, hv, hF⟩
    obtain ⟨b1, b2, b3⟩ := w.2.2.2.1 k hk
    have w' := w.rs (slid_lt w n k)
    refine ⟨(nI (k + 1), wI τ 93 (4 + 3 * k) (nI ((rs k + n) % md k))), ?_, rfl, (hv.rest0 (k := k) (v := (rs k + n) % md k)).cong (fun _ _ => rfl) (fun j _ => slid_step ..) (fun _ _ => rfl) (fun _ _ => rfl), hF.wI (by unfold Ms; omega)⟩
    show Mo_shifts_L2 (nI n) τ (nI k) = _
    unfold Mo_shifts_L2
    rw [ix00, chk_true, tn00, hv.c0, if_neg (by rw [le_nI (by omega) (by omega)]; omega), rowOf_n, bd_s, restOf_n hv w' hk, bd_s, modulusOf_n hv w' hk, bd_s, show slid rs md n k k = rs k from if_neg (by omega), nI_add, rem_nI (by omega) (by omega) (by omega), nz_nI (by omega) (by omega), chk_true, ix_nI (by omega) (by omega), chk_true, tn_nI (by omega), bnd_x, bnd_x, nI_1]
  · rintro ⟨x, τ⟩ ⟨rfl, hv, hF⟩
    refine ⟨τ, ?_, hv, hF⟩
    show Mo_shifts_L2 (nI n) τ (nI c) = _
    unfold Mo_shifts_L2
    rw [ix00, chk_true, tn00, hv.c0, if_pos (by rw [le_nI (by omega) (by omega)]; omega)]
theorem call_shift {σ : St} (I : Inv σ) (p : Int32) : Call (fun σ => RC_shift σ p) (fun σ => Mo_shift σ p) σ := by
  obtain ⟨c, od, on, rs, md, nm, hc, hm, w⟩ := I.2.2.2.2.1
  rcases within_ex p (lo := 0) (hi := 59) 0 59 rfl rfl (by omega) with h | ⟨n, _, hn, rfl, h⟩
  · refine call_s (r := 0) (v := 1) I ?_ (fun σ1 F => ?_)
    · show RC_shift σ p = _
      unfold RC_shift
      rw [h, bd_s, if_pos rfl, RC_deny_n, bd2_s, ckl0, chk_true]
    · show Mo_shift σ1 p = _
      unfold Mo_shift
      rw [isFrom_w, h, bd_s, if_pos rfl, Mo_is_n _ (by decide), bd2_s, ckl0, chk_true]
  · obtain ⟨τ, s1, s2⟩ := slide_n hc w hn
    have e1 : RC_shift σ (nI n) = some (1, wI τ 0 0 0) := by
      unfold RC_shift
      rw [h, bd_s, if_neg (by decide), s1, bd_s, RC_agree_n, bd2_s, ckl1, chk_true]
    have F1 := (fp_RC_shift (A := Acs) (Fp.rf (σ := σ)) (by unfold Acs; omega) (by intro i; unfold Acs; omega) _ e1).2
    have hm1 := hm.ws F1
    obtain ⟨υ, t1, t2, t3⟩ := shifts_n hm1 w hn
    refine call_m (v := 0) (σ2 := wI υ 92 2 0) I e1 F1 wI_s (CV.st s2 (by omega) 0) ?_ ?_ wI_s (MV.st t2 0) (w.rs (slid_lt w n c))
    · show Mo_shift _ _ = _
      unfold Mo_shift
      rw [isFrom_w, h, bd_s, if_neg (by decide), t1, bd_s, Mo_is_0, bd2_s, ckl1, chk_true]
    · exact (t3.mono Ms.q).wI (by unfold Ams; omega)
/-! add -/
theorem append_on {σ : St} {a c od on : Nat} {rs md nm : Nat → Nat} (h : CV σ a c od on rs md nm) (w : WF c od on rs md nm) (hc : c < 12) {r m l : Nat} (hr : r ≤ 60) (hm : 1 ≤ m) (hm2 : m ≤ 60) : ∃ σ', Cl_append σ a (nI r) (nI m) 1 (lN l) = some σ' ∧ CV σ' a (c + 1) od (on ||| 2 ^ c) (fset rs c (r % m)) (fset md c m) (fset nm c l) := by
  obtain ⟨a1, a2, a3, a4, a5, a6⟩ := h
  refine ⟨wI (wI (wL (wI (wI σ (a + 1) c (nI (r % m))) (a + 2) c (nI m)) (a + 3) c (lN l)) a 4 (nI (on ||| 2 ^ c))) a 3 (nI (c + 1)), ?_, wI_s, ?_, ?_, fun k hk => ?_, fun k hk => ?_, fun k hk => ?_⟩
  · unfold Cl_append
    rw [a1, if_neg (by rw [show (12 : Int32) = nI 12 from rfl, le_nI (by omega) (by omega)]; omega), leftBy_n (by omega) (by omega) (by omega), bd_s, ix_nI (by omega) (by omega), chk_true, tn_nI (by omega), bnd_x, wI_ne (by omega), a1, ix_nI (by omega) (by omega), chk_true, tn_nI (by omega), bnd_x, wI_ne (by omega), wI_ne (by omega), a1, ix_nI (by omega) (by omega), chk_true, tn_nI (by omega), bnd_x, if_neg (by decide), wL_1, wI_ne (by omega), wI_ne (by omega), a2, wI_ne (by omega), wI_ne (by omega), a1, shl1 (by omega), or_nI, bnd_x, wI_ne (by omega), wL_1, wI_ne (by omega), wI_ne (by omega), a1, nI_1, bnd_x]
  · rw [wI_ne (by omega), wI_s]
  · rw [wI_ne (by omega), wI_ne (by omega), wL_1, wI_ne (by omega), wI_ne (by omega)]; exact a3
  · rw [wI_ne (by omega), wI_ne (by omega), wL_1, wI_ne (by omega)]
    by_cases e : k = c
    · rw [e, wI_s, fset_1]
    · rw [fset_2 _ _ e, wI_ne (fun q => e q.2)]; exact a4 k (by omega)
  · rw [wI_ne (by omega), wI_ne (by omega), wL_1]
    by_cases e : k = c
    · rw [e, wI_s, fset_1]
    · rw [fset_2 _ _ e, wI_ne (fun q => e q.2), wI_ne (by omega)]; exact a5 k (by omega)
  · rw [wI_2, wI_2]
    by_cases e : k = c
    · rw [e, wL_s, fset_1]
    · rw [fset_2 _ _ e, wL_ne (fun q => e q.2), wI_2, wI_2]; exact a6 k (by omega)
theorem or_bit {on k j : Nat} : (on ||| 2 ^ k).testBit j = (on.testBit j || decide (k = j)) := by
  rw [Nat.testBit_or, Nat.testBit_two_pow]
theorem g8_0 : g8 0 = 0 := rfl
theorem puts_n {σ : St} {c od on on' : Nat} {rs md nm : Nat → Nat} (h : MV σ 0 0 c od on rs md nm) (hc : c < 12) {r m v : Nat} (hs : ∀ j, j < c → on'.testBit j = on.testBit j) (hv : (if on'.testBit c then 1 else 0) = v) : ∃ σ', Mo_puts σ (nI r) (nI m) (nI v) = some σ' ∧ MV σ' 0 0 (c + 1) od on' (fset rs c r) (fset md c m) (fset nm c 0) ∧ Fp Ms σ σ' := by
  have h0 := h.c0
  obtain ⟨a1, a2, a3, a4, a5, a6⟩ := h
  refine ⟨wI (wL (wI (wI (wI σ 93 (4 + 3 * c) (nI r)) 93 (5 + 3 * c) (nI m)) 93 (6 + 3 * c) (nI v)) 94 c 0) 93 0 (nI (c + 1)), ?_, ⟨wI_s, ?_, fun k hk => ?_, fun k hk => ?_, fun k hk => ?_, fun k hk => ?_⟩, ?_⟩
  · unfold Mo_puts
    rw [ix00, chk_true, tn00, h0, bnd_x, rowOf_n, bd_s, ix_nI (by omega) (by omega), chk_true, tn_nI (by omega), bnd_x, bd_s, nI_1, ix_nI (by omega) (by omega), chk_true, tn_nI (by omega), bnd_x, bd_s, show nI (4 + 3 * c) + 2 = nI (6 + 3 * c) by rw [show (2 : Int32) = nI 2 from rfl, nI_add, show 4 + 3 * c + 2 = 6 + 3 * c by omega], ix_nI (by omega) (by omega), chk_true, tn_nI (by omega), bnd_x, ix_nI (by omega) (by omega), chk_true, tn_nI (by omega), bnd_x, chk_true, chk_true, wL_1, wI_ne (by omega), wI_ne (by omega), wI_ne (by omega), h0, nI_1, bnd_x, show 4 + 3 * c + 1 = 5 + 3 * c by omega]
  · rw [wI_ne (by omega), wL_1, wI_ne (by omega), wI_ne (by omega), wI_ne (by omega)]; exact a2
  · rw [wI_ne (by omega), wL_1, wI_ne (by omega), wI_ne (by omega), Nat.zero_add]
    by_cases e : k = c
    · rw [e, wI_s, fset_1]
    · rw [fset_2 _ _ e, wI_ne (by omega)]; have := a3 k (by omega); rwa [Nat.zero_add] at this
  · rw [wI_ne (by omega), wL_1, wI_ne (by omega), Nat.zero_add]
    by_cases e : k = c
    · rw [e, wI_s, fset_1]
    · rw [fset_2 _ _ e, wI_ne (by omega), wI_ne (by omega)]; have := a4 k (by omega); rwa [Nat.zero_add] at this
  · rw [wI_ne (by omega), wL_1, Nat.zero_add]
    by_cases e : k = c
    · rw [e, wI_s, hv]
    · rw [hs k (by omega), wI_ne (by omega), wI_ne (by omega), wI_ne (by omega)]; have := a5 k (by omega); rwa [Nat.zero_add] at this
  · rw [wI_2, Nat.zero_add]
    by_cases e : k = c
    · rw [e, wL_s, fset_1]; rfl
    · rw [fset_2 _ _ e, wL_ne (fun q => e q.2), wI_2, wI_2, wI_2]; have := a6 k (by omega); rwa [Nat.zero_add] at this
  · exact ((((Fp.rf.wI (by unfold Ms; omega)).wI (by unfold Ms; omega)).wI (by unfold Ms; omega)).wL (by unfold Ms; omega)).wI (by unfold Ms; omega)
