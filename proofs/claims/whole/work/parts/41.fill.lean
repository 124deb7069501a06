/-! the sieve filled: bit x of once: some class of the set takes x; of twice: two do -/
def q1 (s : Nat) (rs md : Nat → Nat) (x : Nat) : Nat → Bool
  | 0 => false
  | k + 1 => q1 s rs md x k || (s.testBit k && decide (x % md k = rs k))
def q2 (s : Nat) (rs md : Nat → Nat) (x : Nat) : Nat → Bool
  | 0 => false
  | k + 1 => q2 s rs md x k || (q1 s rs md x k && (s.testBit k && decide (x % md k = rs k)))
theorem words_n {S : Nat} (h1 : 1 ≤ S) (h2 : S ≤ 5040) : RC_wordsFor (nI S) = some (nI ((S + 63) / 64)) := by
  unfold RC_wordsFor
  rw [show nzI 64 = true from by decide, chk_true, show (64 : Int32) = nI 64 from rfl, nI_add, show nI (S + 64) - 1 = nI (S + 63) from sub_nI (a := S + 64) (b := 1) (by omega), div_nI (by omega) (by omega) (by omega)]
  have : (S + 63) / 64 ≤ 79 := by omega
  unfold jmin
  rw [show (79 : Int32) = nI 79 from rfl]
  by_cases e : (S + 63) / 64 < 79
  · rw [if_pos (by rw [lt_nI (by omega) (by omega)]; exact e)]
  · rw [if_neg (by rw [lt_nI (by omega) (by omega)]; exact e), show (S + 63) / 64 = 79 by omega]
def Sq (σ : St) (S : Nat) (f1 f2 : Nat → Bool) : Prop := σ.1 31 3 = nI S ∧ σ.1 31 4 = nI ((S + 63) / 64) ∧ ∀ w, w < (S + 63) / 64 → ∀ j, j < 64 → lb (σ.2 32 w) j = f1 (64 * w + j) ∧ lb (σ.2 33 w) j = f2 (64 * w + j)
section FIL
variable {σ : St} {a c od on : Nat} {rs md nm : Nat → Nat}
theorem fillC_0 (h : CV σ a c od on rs md nm) (w : WF c od on rs md nm) {s : Nat} (hs : s < 4096) (h0 : spn md s c = 0) : Si_fill σ a (nI s) = some (0, σ) := by
  unfold Si_fill
  rw [spanOf_n h w (by omega), bd_s, h0, if_pos (show nI 0 = 0 from rfl)]
theorem fillC_n (h : CV σ a c od on rs md nm) (ha : 34 < a ∨ a + 3 < 31) (w : WF c od on rs md nm) {s : Nat} (hs : s < 4096) (h0 : ¬ spn md s c = 0) : ∃ σ', Si_fill σ a (nI s) = some (1, σ') ∧ Sq σ' (spn md s c) (fun x => q1 s rs md x c) (fun x => q2 s rs md x c) := by
  have hc := w.1
  have hS := spn_le md s c
  obtain ⟨S, hSe⟩ : ∃ S, S = spn md s c := ⟨_, rfl⟩
  rw [← hSe] at hS h0 ⊢
  have hW : (S + 63) / 64 ≤ 79 := by omega
  obtain ⟨τ, a1, a2⟩ := fill_n (σ := wI (wI σ 31 3 (nI S)) 31 4 (nI ((S + 63) / 64))) (a := 32) (n := 79) (v := 0) (by omega)
  obtain ⟨υ, b1, b2⟩ := fill_n (σ := τ) (a := 33) (n := 79) (v := 0) (by omega)
  have F1 : Fp (fun a i => a = 32) _ τ := fp_JA_fill_d0a16 (Fp.rf (σ := wI (wI σ 31 3 (nI S)) 31 4 (nI ((S + 63) / 64)))) (fun _ => rfl) _ a1
  have F2 : Fp (fun a i => a = 33) τ υ := fp_JA_fill_d0a16 Fp.rf (fun _ => rfl) _ b1
  have F3 : Fp (fun a i => 31 ≤ a ∧ a ≤ 34) σ υ := (((Fp.rf (σ := σ)).wI (v := nI S) (a := 31) (i := 3) (by omega)).wI (v := nI ((S + 63) / 64)) (a := 31) (i := 4) (by omega)).tr ((F1.mono (fun a i q => by omega)).tr (F2.mono (fun a i q => by omega)))
  have key := iter_cnt (body := fun u : (Int32 × St) => Si_fill_L47 a (nI s) u.2 u.1) (fun k u => u.1 = nI k ∧ Fp (fun a i => 31 ≤ a ∧ a ≤ 34) σ u.2 ∧ Sq u.2 S (fun x => q1 s rs md x k) (fun x => q2 s rs md x k)) (fun e => Sq e S (fun x => q1 s rs md x c) (fun x => q2 s rs md x c)) (lo := 0) (hi := c) (n := FUEL) (Nat.zero_le _) (fuel (by omega)) ?_ ?_ (s := (0, υ)) ⟨rfl, F3, ?_, ?_, fun w hw j hj => ?_⟩
  · obtain ⟨e, e1, e2⟩ := key
    refine ⟨e, ?_, e2⟩
    unfold Si_fill
    rw [spanOf_n h w (by omega), bd_s, ← hSe, if_neg (by rw [show (0 : Int32) = nI 0 from rfl, eq_nI (by omega) (by omega)]; exact h0), bnd_x, wI_s, words_n (by omega) hS, bd_s, bnd_x, a1, bd_s, b1, bd_s, e1, bd_s]
  · rintro k ⟨x, u⟩ _ hk ⟨rfl, hF, g1, g2, g3⟩
    obtain ⟨m1, m2, m3⟩ := w.2.2.2.1 k hk
    have hv : CV u a c od on rs md nm := h.keep (hF.sm (fun b i z1 z2 z => by omega))
    by_cases hb : s.testBit k = true
    · obtain ⟨ω, l1, l2⟩ := lay_n (σ := u) m1 m2 m3 hW g2
      have Fω : Fp (fun a i => 32 ≤ a ∧ a ≤ 33) u ω := fp_Si_lay Fp.rf (by intros; omega) (by intros; omega) _ l1
      refine ⟨(nI (k + 1), ω), ?_, rfl, hF.tr (Fω.mono (fun a i q => by omega)), ?_, ?_, fun w hw j hj => ?_⟩
      · show Si_fill_L47 a (nI s) u (nI k) = _
        unfold Si_fill_L47
        rw [hv.1, if_neg (by rw [le_nI (by omega) (by omega)]; omega), isIn_b (by omega) (by omega), if_pos hb, bd_s, if_neg (by decide), ix_nI (by omega) (by omega), chk_true, chk_true, tn_nI (by omega), hv.2.2.2.2.1 k hk, hv.2.2.2.1 k hk, l1, bd_s, bnd_x, nI_1]
      · exact (Fω.i (by omega)).trans g1
      · exact (Fω.i (by omega)).trans g2
      · obtain ⟨p1, p2⟩ := l2 w hw j hj
        obtain ⟨r1, r2⟩ := g3 w hw j hj
        show lb (ω.2 32 w) j = q1 s rs md (64 * w + j) (k + 1) ∧ lb (ω.2 33 w) j = q2 s rs md (64 * w + j) (k + 1)
        have r1' : lb (u.2 32 w) j = q1 s rs md (64 * w + j) k := r1
        have r2' : lb (u.2 33 w) j = q2 s rs md (64 * w + j) k := r2
        rw [p1, p2, r1', r2']
        rw [show q1 s rs md (64 * w + j) (k + 1) = (q1 s rs md (64 * w + j) k || (s.testBit k && decide ((64 * w + j) % md k = rs k))) from rfl, show q2 s rs md (64 * w + j) (k + 1) = (q2 s rs md (64 * w + j) k || (q1 s rs md (64 * w + j) k && (s.testBit k && decide ((64 * w + j) % md k = rs k)))) from rfl, hb, Bool.true_and]
        exact ⟨rfl, rfl⟩
    · refine ⟨(nI (k + 1), u), ?_, rfl, hF, g1, g2, fun w hw j hj => ?_⟩
      · show Si_fill_L47 a (nI s) u (nI k) = _
        unfold Si_fill_L47
        rw [hv.1, if_neg (by rw [le_nI (by omega) (by omega)]; omega), isIn_b (by omega) (by omega), if_neg hb, bd_s, if_pos rfl, bnd_x, nI_1]
      · obtain ⟨r1, r2⟩ := g3 w hw j hj
        have hb' : s.testBit k = false := by simpa using hb
        refine ⟨r1.trans ?_, r2.trans ?_⟩
        · show q1 s rs md (64 * w + j) k = (q1 s rs md (64 * w + j) k || (s.testBit k && decide ((64 * w + j) % md k = rs k)))
          rw [hb', Bool.false_and, Bool.or_false]
        · show q2 s rs md (64 * w + j) k = (q2 s rs md (64 * w + j) k || (q1 s rs md (64 * w + j) k && (s.testBit k && decide ((64 * w + j) % md k = rs k))))
          rw [hb', Bool.false_and, Bool.and_false, Bool.or_false]
  · rintro ⟨x, u⟩ ⟨rfl, hF, g⟩
    have hv : CV u a c od on rs md nm := h.keep (hF.sm (fun b i z1 z2 z => by omega))
    refine ⟨u, ?_, g⟩
    show Si_fill_L47 a (nI s) u (nI c) = _
    unfold Si_fill_L47
    rw [hv.1, if_pos (by rw [le_nI (by omega) (by omega)]; omega)]
  · exact (F2.i (by omega)).trans ((F1.i (by omega)).trans ((wI_ne (by omega)).trans wI_s))
  · exact (F2.i (by omega)).trans ((F1.i (by omega)).trans wI_s)
  · show lb (υ.2 32 w) j = false ∧ lb (υ.2 33 w) j = false
    rw [b2 w (by omega), F2.l (by omega), a2 w (by omega), lb_0]
    exact ⟨rfl, rfl⟩
end FIL
