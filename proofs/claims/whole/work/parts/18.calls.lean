def Ac (a i : Nat) : Prop := (a = 0 ∧ i < 3) ∨ (11 ≤ a ∧ a ≤ 14) ∨ (22 ≤ a ∧ a ≤ 46) ∨ a = 49 ∨ a = 50
def Am (a i : Nat) : Prop := (a = 92 ∧ (i = 2 ∨ i = 3 ∨ i = 4 ∨ (20 ≤ i ∧ i ≤ 36))) ∨ (100 ≤ a ∧ a ≤ 109)
theorem Ac.q (a i : Nat) (h : Ac a i) : Aq a i := by unfold Ac at h; unfold Aq; omega
theorem Am.q (a i : Nat) (h : Am a i) : Aq a i := by unfold Am at h; unfold Aq; omega
theorem call_t {α : Type} {f g : St → Option (α × St)} {σ σ1 σ2 : St} {r : α} (I : Inv σ) (hf : f σ = some (r, σ1)) (F1 : Fp Ac σ σ1) (hg : g σ1 = some (r, σ2)) (F2 : Fp Am σ1 σ2) (h1 : σ1.1 0 0 = σ2.1 92 2) (h2 : σ1.2 0 1 = σ2.2 92 3) (h3 : σ1.2 0 2 = σ2.2 92 4) : Call f g σ := by
  refine ⟨r, σ1, σ2, hf, hg, inv_q I ((F1.mono Ac.q).tr (F2.mono Am.q)) ?_ ?_ ?_⟩
  · rw [F2.i (by unfold Am; omega)]; exact h1
  · rw [F2.l (by unfold Am; omega)]; exact h2
  · rw [F2.l (by unfold Am; omega)]; exact h3
def Ac0 (a i : Nat) : Prop := (a = 0 ∧ i = 0) ∨ (11 ≤ a ∧ a ≤ 14) ∨ (22 ≤ a ∧ a ≤ 46) ∨ a = 49 ∨ a = 50
def Am0 (a i : Nat) : Prop := (a = 92 ∧ (i = 2 ∨ (20 ≤ i ∧ i ≤ 36))) ∨ (100 ≤ a ∧ a ≤ 109)
theorem Ac0.q (a i : Nat) (h : Ac0 a i) : Ac a i := by unfold Ac0 at h; unfold Ac; omega
theorem Am0.q (a i : Nat) (h : Am0 a i) : Am a i := by unfold Am0 at h; unfold Am; omega
/-- a call that answers and sets the status alone -/
theorem call_q {α : Type} {f g : St → Option (α × St)} {σ σ1 σ2 : St} {r : α} {v : Int32} (I : Inv σ) (hf : f σ = some (r, σ1)) (F1 : Fp Ac0 σ σ1) (hv : σ1.1 0 0 = v) (hg : g σ1 = some (r, σ2)) (F2 : Fp Am0 σ1 σ2) (hw : σ2.1 92 2 = v) : Call f g σ := by
  refine call_t I hf (F1.mono Ac0.q) hg (F2.mono Am0.q) (hv.trans hw.symm) ?_ ?_
  · rw [F1.l (by unfold Ac0; omega), F2.l (by unfold Am0; omega), F1.l (by unfold Ac0; omega)]; exact I.1.2.1
  · rw [F1.l (by unfold Ac0; omega), F2.l (by unfold Am0; omega), F1.l (by unfold Ac0; omega)]; exact I.1.2.2
theorem Fc_w {σ : St} {v : Int32} : Fp Ac0 σ (wI σ 0 0 v) := Fp.rf.wI (Or.inl ⟨rfl, rfl⟩)
theorem Fm_w {σ : St} {v : Int32} : Fp Am0 σ (wI σ 92 2 v) := Fp.rf.wI (Or.inl ⟨rfl, Or.inl rfl⟩)
theorem call_s {α : Type} {f g : St → Option (α × St)} {σ : St} {r : α} {v : Int32} (I : Inv σ) (hf : f σ = some (r, wI σ 0 0 v)) (hg : ∀ σ1, Fp Ac0 σ σ1 → g σ1 = some (r, wI σ1 92 2 v)) : Call f g σ :=
  call_q I hf Fc_w (wI_1 ..) (hg _ Fc_w) Fm_w (wI_1 ..)
theorem Fc.sm {σ σ1 : St} (F : Fp Ac0 σ σ1) {lo hi : Nat} (h : 51 ≤ lo) : Sm lo hi σ σ1 := F.sm (fun b i q1 q2 q => by unfold Ac0 at q; omega)
theorem RC_refuse_n (σ : St) (v : Int32) : RC_refuse σ v = some (-1, wI σ 0 0 v) := rfl
theorem RC_deny_n (σ : St) (v : Int32) : RC_deny σ v = some (0, wI σ 0 0 v) := rfl
theorem RC_answer_n (σ : St) (v : Int32) : RC_answer σ v = some (v, wI σ 0 0 0) := rfl
theorem RC_agree_n (σ : St) : RC_agree σ = some (1, wI σ 0 0 0) := rfl
theorem Mo_refuse_n (σ : St) (v : Int32) : Mo_refuse σ v = some (-1, wI σ 92 2 v) := rfl
theorem Mo_gives_n (σ : St) (v : Int32) : Mo_gives σ v = some (v, wI σ 92 2 0) := rfl
theorem Mo_is_0 (σ : St) : Mo_is σ 0 = some (1, wI σ 92 2 0) := rfl
theorem Mo_is_n (σ : St) {v : Int32} (h : ¬ v = 0) : Mo_is σ v = some (0, wI σ 92 2 v) := by
  unfold Mo_is
  rw [bnd_x, if_neg h]
theorem within_ex (p : Int32) {lo hi : Int64} (a b : Nat) (ha : lo.toInt = a) (hb : hi.toInt = b) (hb2 : b < 2147483648) : RC_within p.toInt64 lo hi = some 0 ∨ ∃ n, a ≤ n ∧ n ≤ b ∧ p = nI n ∧ RC_within p.toInt64 lo hi = some 1 := by
  unfold RC_within
  have e : p.toInt64.toInt = p.toInt := Int32.toInt_toInt64 p
  by_cases h1 : p.toInt64 < lo
  · left; rw [if_pos h1]
  · rw [if_neg h1]
    by_cases h2 : hi < p.toInt64
    · left; rw [if_pos h2]
    · right
      rw [Int64.lt_iff_toInt_lt] at h1 h2
      refine ⟨p.toInt.toNat, by omega, by omega, ?_, by rw [if_neg (by rw [Int64.lt_iff_toInt_lt]; exact h2)]⟩
      apply Int32.toInt_inj.mp
      rw [nI_toInt (by omega)]
      omega
theorem isFrom_w (x lo hi : Int64) : Mo_isFrom x lo hi = RC_within x lo hi := rfl
theorem MV.w {σ σ1 : St} {o q c od on : Nat} {rs md nm : Nat → Nat} (h : MV σ o q c od on rs md nm) (F : Fp Ac0 σ σ1) : MV σ1 o q c od on rs md nm := h.keep (Fc.sm F (by omega))
/-! caught -/
theorem call_caught {σ : St} (I : Inv σ) (p : Int32) : Call (fun σ => RC_caught σ p) (fun σ => Mo_caught σ p) σ := by
  obtain ⟨c, od, on, rs, md, nm, hc, hm, w⟩ := I.2.2.2.2.1
  rcases within_ex p (lo := 0) (hi := 9999) 0 9999 rfl rfl (by omega) with h | ⟨n, _, hn, rfl, h⟩
  · refine call_s (r := -1) (v := 1) I ?_ (fun σ1 F => ?_)
    · show RC_caught σ p = _
      unfold RC_caught
      rw [h, bd_s, if_pos rfl, RC_refuse_n, bd2_s]
    · show Mo_caught σ1 p = _
      unfold Mo_caught
      rw [isFrom_w, h, bd_s, if_pos rfl, Mo_refuse_n, bd2_s]
  · refine call_s (r := nI (cset c on rs md n)) (v := 0) I ?_ (fun σ1 F => ?_)
    · show RC_caught σ (nI n) = _
      unfold RC_caught
      rw [h, bd_s, if_neg (by decide), catchers_n hc w (by omega), bd_s, RC_answer_n, bd2_s]
    · show Mo_caught σ1 (nI n) = _
      unfold Mo_caught
      rw [isFrom_w, h, bd_s, if_neg (by decide), catchersM_n (hm.w F) w (by omega), bd_s, Mo_gives_n, bd2_s]
/-! classOf -/
theorem call_classOf {σ : St} (I : Inv σ) (p p2 : Int32) : Call (fun σ => RC_classOf σ p p2) (fun σ => Mo_classOf σ p p2) σ := by
  obtain ⟨c, od, on, rs, md, nm, hc, hm, w⟩ := I.2.2.2.2.1
  have hc12 := w.1
  by_cases hx : ix p c = true
  · obtain ⟨k, hk, rfl, hk2⟩ := ix_ex hx
    have h1 := isThere_g hc.1 (by omega) (nI k)
    have h2 : ∀ σ1, Fp Ac0 σ σ1 → Mo_isClass σ1 (nI k) = some 1 := fun σ1 F => by rw [isClass_g (hm.w F) (by omega), if_pos hx]
    rw [if_pos hx] at h1
    by_cases q0 : p2 = 0
    · subst q0
      refine call_s (r := nI (rs k)) (v := 0) I ?_ (fun σ1 F => ?_)
      · show RC_classOf σ (nI k) 0 = _
        unfold RC_classOf
        rw [h1, bd_s, if_neg (by decide), if_pos rfl, ix_nI (by omega) (by omega), chk_true, tn_nI (by omega), hc.2.2.2.1 k hk, RC_answer_n, bd2_s]
      · show Mo_classOf σ1 (nI k) 0 = _
        unfold Mo_classOf
        rw [h2 σ1 F, bd_s, if_neg (by decide), if_neg (by decide), if_neg (by decide), rowOf_n, bd_s, show nI (4 + 3 * k) + 0 = nI (4 + 3 * k) from Int32.add_zero _, ix_nI (by omega) (by omega), chk_true, tn_nI (by omega), (hm.w F).r0 hk, Mo_gives_n, bd2_s]
    · by_cases q1 : p2 = 1
      · subst q1
        refine call_s (r := nI (md k)) (v := 0) I ?_ (fun σ1 F => ?_)
        · show RC_classOf σ (nI k) 1 = _
          unfold RC_classOf
          rw [h1, bd_s, if_neg (by decide), if_neg (by decide), if_pos rfl, ix_nI (by omega) (by omega), chk_true, tn_nI (by omega), hc.2.2.2.2.1 k hk, RC_answer_n, bd2_s]
        · show Mo_classOf σ1 (nI k) 1 = _
          unfold Mo_classOf
          rw [h2 σ1 F, bd_s, if_neg (by decide), if_neg (by decide), if_neg (by decide), rowOf_n, bd_s, nI_1, ix_nI (by omega) (by omega), chk_true, tn_nI (by omega), show 4 + 3 * k + 1 = 5 + 3 * k by omega, (hm.w F).m0 hk, Mo_gives_n, bd2_s]
      · by_cases q2 : p2 = 2
        · subst q2
          refine call_s (r := nI (if on.testBit k then 1 else 0)) (v := 0) I ?_ (fun σ1 F => ?_)
          · show RC_classOf σ (nI k) 2 = _
            unfold RC_classOf
            rw [h1, bd_s, if_neg (by decide), if_neg (by decide), if_neg (by decide), if_pos rfl, isOn_n hc w (by omega), bd_s]
            by_cases hb : on.testBit k = true
            · rw [if_pos hb, if_neg (by decide), RC_answer_n, bd2_s, if_pos hb]; rfl
            · rw [if_neg hb, if_pos rfl, RC_answer_n, bd2_s, if_neg hb]; rfl
          · show Mo_classOf σ1 (nI k) 2 = _
            unfold Mo_classOf
            rw [h2 σ1 F, bd_s, if_neg (by decide), if_neg (by decide), if_neg (by decide), rowOf_n, bd_s, show nI (4 + 3 * k) + 2 = nI (6 + 3 * k) by rw [show (2 : Int32) = nI 2 from rfl, nI_add, show 4 + 3 * k + 2 = 6 + 3 * k by omega], ix_nI (by omega) (by omega), chk_true, tn_nI (by omega), (hm.w F).o0 hk, Mo_gives_n, bd2_s]
        · refine call_s (r := -1) (v := 1) I ?_ (fun σ1 F => ?_)
          · show RC_classOf σ (nI k) p2 = _
            unfold RC_classOf
            rw [h1, bd_s, if_neg (by decide), if_neg q0, if_neg q1, if_neg q2, RC_refuse_n, bd2_s]
          · show Mo_classOf σ1 (nI k) p2 = _
            unfold Mo_classOf
            rw [h2 σ1 F, bd_s, if_neg (by decide)]
            by_cases q3 : p2 < 0
            · rw [if_pos q3, Mo_refuse_n, bd2_s]
            · have q4 : 2 < p2 := by
                rw [Int32.lt_iff_toInt_lt] at q3 ⊢
                have z0 : (0 : Int32).toInt = 0 := rfl
                have z2 : (2 : Int32).toInt = 2 := rfl
                have n0 : ¬ p2.toInt = 0 := fun e => q0 (Int32.toInt_inj.mp e)
                have n1 : ¬ p2.toInt = 1 := fun e => q1 (Int32.toInt_inj.mp e)
                have n2 : ¬ p2.toInt = 2 := fun e => q2 (Int32.toInt_inj.mp e)
                omega
              rw [if_neg q3, if_pos q4, Mo_refuse_n, bd2_s]
  · refine call_s (r := -1) (v := 1) I ?_ (fun σ1 F => ?_)
    · show RC_classOf σ p p2 = _
      unfold RC_classOf
      rw [isThere_g hc.1 (by omega), if_neg hx, bd_s, if_pos rfl, RC_refuse_n, bd2_s]
    · show Mo_classOf σ1 p p2 = _
      unfold Mo_classOf
      rw [isClass_g (hm.w F) (by omega), if_neg hx, bd_s, if_pos rfl, Mo_refuse_n, bd2_s]
/-! lived -/
theorem call_lived {σ : St} (I : Inv σ) (p : Int32) : Call (fun σ => RC_lived σ p) (fun σ => Mo_lived σ p) σ := by
  obtain ⟨l1, l2⟩ := I.2.2.2.2.2.2.1
  have e : ∀ {σ1 : St}, Fp Ac0 σ σ1 → ∀ {b : Nat} (i : Nat), 51 ≤ b → σ1.1 b i = σ.1 b i := fun F b i h => (Fc.sm F (hi := b) h).i (Nat.le_refl _) (Nat.le_refl _) i
  rcases within_ex p (lo := 0) (hi := 4) 0 4 rfl rfl (by omega) with h | ⟨n, _, hn, rfl, h⟩
  · refine call_s (r := -1) (v := 1) I ?_ (fun σ1 F => ?_)
    · show RC_lived σ p = _
      unfold RC_lived
      rw [h, bd_s, if_pos rfl, RC_refuse_n, bd2_s]
    · show Mo_lived σ1 p = _
      unfold Mo_lived
      by_cases q0 : p < 0
      · rw [if_pos q0, Mo_refuse_n, bd2_s]
      · have q1 : ¬ p ≤ 4 := fun q => by
          rw [Int32.lt_iff_toInt_lt] at q0
          rw [Int32.le_iff_toInt_le] at q
          have z0 : (0 : Int32).toInt = 0 := rfl
          have z4 : (4 : Int32).toInt = 4 := rfl
          unfold RC_within at h
          rw [if_neg (by rw [Int64.lt_iff_toInt_lt, Int32.toInt_toInt64]; exact q0), if_neg (by rw [Int64.lt_iff_toInt_lt, Int32.toInt_toInt64]; show ¬ (4 : Int) < _; omega)] at h
          exact absurd (Option.some.inj h) (by decide)
        rw [if_neg q0, if_neg q1, Mo_refuse_n, bd2_s]
  · have q0 : ¬ nI n < 0 := nI_pos (by omega)
    have q1 : nI n ≤ 4 := by rw [show (4 : Int32) = nI 4 from rfl, le_nI (by omega) (by omega)]; exact hn
    by_cases hl : σ.1 92 37 = 0
    · refine call_s (r := -1) (v := 6) I ?_ (fun σ1 F => ?_)
      · show RC_lived σ (nI n) = _
        unfold RC_lived
        rw [h, bd_s, if_neg (by decide), l1, if_pos hl, RC_refuse_n, bd2_s]
      · show Mo_lived σ1 (nI n) = _
        unfold Mo_lived
        rw [if_neg q0, if_pos q1, e F 37 (by omega), if_pos hl, Mo_refuse_n, bd2_s]
    · obtain ⟨a0, a1, a2, a3, a4⟩ := l2 hl
      refine call_s (r := σ.1 110 n) (v := 0) I ?_ (fun σ1 F => ?_)
      · show RC_lived σ (nI n) = _
        unfold RC_lived
        rw [h, bd_s, if_neg (by decide), l1, if_neg hl]
        rcases (show n = 0 ∨ n = 1 ∨ n = 2 ∨ n = 3 ∨ n = 4 by omega) with rfl | rfl | rfl | rfl | rfl
        · rw [if_pos (by decide), RC_answer_n, bd2_s, a0]
        · rw [if_neg (by decide), if_pos (by decide), RC_answer_n, bd2_s, a1]
        · rw [if_neg (by decide), if_neg (by decide), if_pos (by decide), RC_answer_n, bd2_s, a2]
        · rw [if_neg (by decide), if_neg (by decide), if_neg (by decide), if_pos (by decide), RC_answer_n, bd2_s, a3]
        · rw [if_neg (by decide), if_neg (by decide), if_neg (by decide), if_neg (by decide), RC_answer_n, RC_answer_n, bd2_s, bd2_s, ← a4]
          by_cases z : σ.1 47 7 = 0
          · rw [if_pos z, if_pos z]
          · rw [if_neg z, if_neg z]
      · show Mo_lived σ1 (nI n) = _
        unfold Mo_lived
        rw [if_neg q0, if_pos q1, e F 37 (by omega), if_neg hl, ix_nI (by omega) (by omega), chk_true, tn_nI (by omega), e F n (by omega), Mo_gives_n, bd2_s]
