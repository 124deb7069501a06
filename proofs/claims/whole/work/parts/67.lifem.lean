/-! days as they are lived: the reference's -/
section LIM
variable {σ : St} {od n : Nat} {kd te sg wh nu pa : Nat → Nat} {s : Nat × Nat × (Nat → Nat) × (Nat → Nat) × (Nat → Nat)} {q R : Nat → Nat}
def Alf (a i : Nat) : Prop := (a = 93 ∧ (i < 2 ∨ (4 ≤ i ∧ i < 40))) ∨ (a = 94 ∧ i < 12) ∨ (a = 92 ∧ (i = 23 ∨ i = 32)) ∨ a = 101 ∨ a = 109
def MLq (σ : St) (od : Nat) (s : Nat × Nat × (Nat → Nat) × (Nat → Nat) × (Nat → Nat)) (q : Nat → Nat) : Prop := MVt σ od s ∧ σ.1 92 33 = nI (q 5) ∧ (∀ j, j < 5 → σ.1 109 j = nI (q j)) ∧ σ.1 92 32 = nI (q 6)
theorem MLq.keep (h : MLq σ od s q) {σ2 : St} {s2 : Nat × Nat × (Nat → Nat) × (Nat → Nat) × (Nat → Nat)} (hv : MVt σ2 od s2) {A : Nat → Nat → Prop} (F : Fp A σ σ2) (hA : ∀ i, ¬ A 109 i ∧ ¬ A 92 32 ∧ ¬ A 92 33) : MLq σ2 od s2 q := ⟨hv, (F.i (hA 0).2.2).trans h.2.1, fun j hj => (F.i (hA j).1).trans (h.2.2.1 j hj), (F.i (hA 0).2.1).trans h.2.2.2⟩
theorem MLq.j (h : MLq σ od s q) {j : Nat} (hj : j < 5) (x : Nat) : MLq (wI σ 109 j (nI x)) od s (fset q j x) := by
  have F : Fp (fun a i => a = 109) σ (wI σ 109 j (nI x)) := Fp.wI (A := fun a i => a = 109) (Fp.rf (A := fun a i => a = 109)) (show (109 : Nat) = 109 from rfl)
  refine ⟨MV.keep h.1 (F.sm (fun b i q1 q2 q => by omega)), ?_, fun k hk => ?_, ?_⟩
  · rw [fset_2 _ _ (by omega)]; exact (wI_ne (by omega)).trans h.2.1
  · by_cases e : k = j
    · rw [e, fset_1]; exact wI_s
    · rw [fset_2 _ _ e]; exact (wI_ne (by omega)).trans (h.2.2.1 k hk)
  · rw [fset_2 _ _ (by omega)]; exact (wI_ne (by omega)).trans h.2.2.2
theorem MLq.sd (h : MLq σ od s q) (x : Nat) : MLq (wI σ 92 32 (nI x)) od s (fset q 6 x) := by
  have F : Fp (fun a i => a = 92) σ (wI σ 92 32 (nI x)) := Fp.wI (A := fun a i => a = 92) (Fp.rf (A := fun a i => a = 92)) (show (92 : Nat) = 92 from rfl)
  refine ⟨MV.keep h.1 (F.sm (fun b i q1 q2 q => by omega)), ?_, fun k hk => ?_, ?_⟩
  · rw [fset_2 _ _ (by omega)]; exact (wI_ne (by omega)).trans h.2.1
  · rw [fset_2 _ _ (by omega)]; exact (wI_ne (by omega)).trans (h.2.2.1 k hk)
  · rw [fset_1]; exact wI_s
theorem MLq.c (h : MLq σ od s q) (x : Nat) : MLq (wI σ 92 33 (nI x)) od s (fset q 5 x) := by
  have F : Fp (fun a i => a = 92) σ (wI σ 92 33 (nI x)) := Fp.wI (A := fun a i => a = 92) (Fp.rf (A := fun a i => a = 92)) (show (92 : Nat) = 92 from rfl)
  refine ⟨MV.keep h.1 (F.sm (fun b i q1 q2 q => by omega)), ?_, fun k hk => ?_, ?_⟩
  · rw [fset_1]; exact wI_s
  · rw [fset_2 _ _ (by omega)]; exact (wI_ne (by omega)).trans (h.2.2.1 k hk)
  · rw [fset_2 _ _ (by omega)]; exact (wI_ne (by omega)).trans h.2.2.2
theorem isCl1 (h : MVt σ od s) (w : WFt od s) {k : Nat} (hk : k < s.1) : Mo_isClass σ (nI k) = some 1 := by
  have hc : s.1 ≤ 12 := w.1
  rw [isClass_g h (by omega), if_pos (ix_nI hk (by omega))]
theorem isCl0 (h : MVt σ od s) (w : WFt od s) {k : Nat} (hk : ¬ k < s.1) (hk2 : k < 2147483648) : Mo_isClass σ (nI k) = some 0 := by
  have hc : s.1 ≤ 12 := w.1
  rw [isClass_g h (by omega), if_neg (fun y => by
    obtain ⟨m, m1, m2, m3⟩ := ix_ex y
    have : k = m := (eq_nI (by omega) (by omega)).mp m2
    omega)]
theorem row2 (k : Nat) : nI (4 + 3 * k) + 2 = nI (6 + 3 * k) := by rw [show (2 : Int32) = nI 2 from rfl, nI_add, show 4 + 3 * k + 2 = 6 + 3 * k by omega]
theorem switch1 (h : MLq σ od s q) (w : WFt od s) {k : Nat} (hk : k < s.1) {v : Nat} (hv : v = if s.2.1.testBit k then 0 else 1) : ∃ σ', Mo_switches σ (nI k) (nI v) = some (1, σ') ∧ MLq σ' od (pflip s k) (fcnt s k q) ∧ Fp Alf σ σ' := by
  have hc : s.1 ≤ 12 := w.1
  have hb : (s.2.1 ^^^ 2 ^ k).testBit k = !s.2.1.testBit k := by rw [xor_bit]; simp
  have F1 : Fp Alf σ (wI σ 93 (6 + 3 * k) (nI v)) := Fp.wI Fp.rf (by unfold Alf; omega)
  have F1' : Fp (fun a i => a = 93) σ (wI σ 93 (6 + 3 * k) (nI v)) := Fp.wI (A := fun a i => a = 93) (Fp.rf (A := fun a i => a = 93)) (show (93 : Nat) = 93 from rfl)
  have h1 : MLq (wI σ 93 (6 + 3 * k) (nI v)) od (pflip s k) q := h.keep (s2 := pflip s k) (MV.on0 h.1 (fun j hj => xor_bit' hj) (by show (if (s.2.1 ^^^ 2 ^ k).testBit k = true then 1 else 0) = v; rw [hb, hv]; cases s.2.1.testBit k <;> rfl)) F1' (fun i => by omega)
  have hne : ¬ nI (if s.2.1.testBit k then 1 else 0) = nI v := by
    rw [hv]
    cases s.2.1.testBit k <;> decide
  have hv2 : v = 0 ∨ v = 1 := by rw [hv]; cases s.2.1.testBit k <;> simp
  have hj : 2 - nI v = nI (2 - v) := sub_nI (a := 2) (b := v) (by omega)
  have hlt : 2 - v < 5 := by omega
  refine ⟨wI (wI σ 93 (6 + 3 * k) (nI v)) 109 (2 - v) (nI (q (2 - v) + 1)), ?_, ?_, F1.wI (by unfold Alf; omega)⟩
  · unfold Mo_switches
    rw [isCl1 h.1 w hk, bd_s, if_neg (by decide), rowOf_n, bd_s, row2, ix_nI (by omega) (by omega), chk_true, tn_nI (by omega), MV.o0 h.1 hk, if_neg hne, bd_s, row2, ix_nI (by omega) (by omega), chk_true, tn_nI (by omega), bnd_x, hj, ix_nI hlt (by omega), chk_true, chk_true, tn_nI (by omega), h1.2.2.1 _ hlt, nI_1, bnd_x]
  · have := h1.j hlt (q (2 - v) + 1)
    unfold fcnt inc
    by_cases z : s.2.1.testBit k = true
    · rw [if_pos z]
      have e : v = 0 := by rw [hv, if_pos z]
      rw [e] at this ⊢
      exact this
    · rw [if_neg z]
      have e : v = 1 := by rw [hv, if_neg z]
      rw [e] at this ⊢
      exact this
theorem switch0 (h : MLq σ od s q) (w : WFt od s) {k : Nat} (hk : k < 12) {v : Nat} (hv : k < s.1 → v = if s.2.1.testBit k then 1 else 0) : Mo_switches σ (nI k) (nI v) = some (0, σ) := by
  have hc : s.1 ≤ 12 := w.1
  unfold Mo_switches
  by_cases z : k < s.1
  · rw [isCl1 h.1 w z, bd_s, if_neg (by decide), rowOf_n, bd_s, row2, ix_nI (by omega) (by omega), chk_true, tn_nI (by omega), MV.o0 h.1 z, if_pos (by rw [hv z])]
  · rw [isCl0 h.1 w z (by omega), bd_s, if_pos rfl]
theorem shiftM (h : MLq σ od s q) (w : WFt od s) {m : Nat} (hm : m ≤ 59) (h0 : ¬ m = 0) : ∃ σ', Mo_shiftsOn σ (nI m) = some (1, σ') ∧ MLq σ' od (pslide s m) (inc q 3) ∧ Fp Alf σ σ' := by
  obtain ⟨τ, t1, t2, t3⟩ := shifts_n h.1 w hm
  have h1 : MLq τ od (pslide s m) q := h.keep (s2 := pslide s m) t2 t3 (fun i => by unfold Ms; omega)
  refine ⟨wI τ 109 3 (nI (q 3 + 1)), ?_, h1.j (by omega) _, (t3.mono (fun a i z => by unfold Ms at z; unfold Alf; omega)).wI (by unfold Alf; omega)⟩
  unfold Mo_shiftsOn
  rw [if_neg (by rw [show (0 : Int32) = nI 0 from rfl, eq_nI (by omega) (by omega)]; exact h0), t1, bd_s, show ix 3 5 = true from by decide, chk_true, chk_true, show tn 3 = 3 from rfl, h1.2.2.1 3 (by omega), nI_1, bnd_x]
theorem drawM (h : MLq σ od s q) (hq : q 6 < 65536) {m : Nat} (hm1 : 1 ≤ m) (hm : m ≤ 60) : Mo_draw σ (nI m) = some (nI (nxs (q 6) / 8 % m), wI σ 92 32 (nI (nxs (q 6)))) := by
  have hl := nxs_lt (q 6)
  unfold Mo_draw
  rw [show nzI 65536 = true from by decide, chk_true, h.2.2.2, show (3299 : Int32) = nI 3299 from rfl, show (11531 : Int32) = nI 11531 from rfl, show (65536 : Int32) = nI 65536 from rfl, pk_mul, nI_add, rem_nI (by omega) (by omega) (by omega), show (q 6 * 3299 + 11531) % 65536 = nxs (q 6) from rfl, bnd_x, show nzI 8 = true from by decide, chk_true, wI_s, show (8 : Int32) = nI 8 from rfl, div_nI (by omega) (by omega) (by omega), show nzI (nI m) = true from nz_nI (by omega) (by omega), chk_true, rem_nI (by omega) (by omega) (by omega)]
theorem anyM (h : MLq σ od s q) (w : WFt od s) (hq : q 6 < 65536) : ∃ σ', Mo_doesAny σ = some ((if (pany od s q).1 = true then 1 else 0), σ') ∧ MLq σ' od (pany od s q).2.1 (pany od s q).2.2 ∧ Fp Alf σ σ' := by
  have hc : s.1 ≤ 12 := w.1
  have hod : od ≤ 16 := w.2.1
  have hc0 : σ.1 93 0 = nI s.1 := MV.c0 h.1
  unfold pany
  by_cases z : s.1 = 0
  · rw [if_pos z]
    refine ⟨σ, ?_, h, Fp.rf⟩
    unfold Mo_doesAny
    rw [ix00, chk_true, tn00, hc0, if_pos (by rw [z]; rfl)]
    rfl
  · have h1 := h.sd (nxs (q 6))
    have h2 := h1.sd (nxs (nxs (q 6)))
    have d1 := drawM h hq (m := s.1) (by omega) (by omega)
    have d2 := drawM h1 (by rw [fset_1]; exact nxs_lt _) (m := 16) (by omega) (by omega)
    rw [fset_1] at d2
    have hqq : fset (fset q 6 (nxs (q 6))) 6 (nxs (nxs (q 6))) = fset q 6 (nxs (nxs (q 6))) := by
      funext j
      unfold fset
      by_cases e : j = 6
      · rw [if_pos e, if_pos e]
      · rw [if_neg e, if_neg e, if_neg e]
    rw [hqq] at h2
    have d2' : Mo_draw (wI σ 92 32 (nI (nxs (q 6)))) 16 = some (nI (nxs (nxs (q 6)) / 8 % 16), wI (wI σ 92 32 (nI (nxs (q 6)))) 92 32 (nI (nxs (nxs (q 6))))) := d2
    have F2 : Fp Alf σ (wI (wI σ 92 32 (nI (nxs (q 6)))) 92 32 (nI (nxs (nxs (q 6))))) := Fp.wI (A := Alf) (Fp.wI (A := Alf) (Fp.rf (A := Alf)) (by unfold Alf; omega)) (by unfold Alf; omega)
    obtain ⟨σ2, hσ2⟩ : ∃ σ2, σ2 = wI (wI σ 92 32 (nI (nxs (q 6)))) 92 32 (nI (nxs (nxs (q 6)))) := ⟨_, rfl⟩
    rw [← hσ2] at h2 d2' F2
    have hod2 : σ2.1 93 1 = nI od := by have := h2.1.2.1; rwa [Nat.zero_add] at this
    have hpre : Mo_doesAny σ = (if nI od ≤ nI (nxs (nxs (q 6)) / 8 % 16) then (bd2 (Mo_shiftsOn σ2 1) (fun r11 σ12 => chk (ckz r11) (some (r11, σ12)))) else (bd (Mo_isOn σ2 (nI (nxs (q 6) / 8 % s.1))) (fun r15 => if r15 = 0 then (bd2 (Mo_switches σ2 (nI (nxs (q 6) / 8 % s.1)) 1) (fun r17 σ18 => chk (ckz r17) (some (r17, σ18)))) else (bd2 (Mo_switches σ2 (nI (nxs (q 6) / 8 % s.1)) 0) (fun r21 σ22 => chk (ckz r21) (some (r21, σ22))))))) := by
      unfold Mo_doesAny
      rw [ix00, chk_true, tn00, hc0, if_neg (by rw [show (0 : Int32) = nI 0 from rfl, eq_nI (by omega) (by omega)]; exact z), chk_true, d1, bd2_s, d2', bd2_s, show ix 1 2060 = true from by decide, chk_true, show tn 1 = 1 from rfl, hod2]
    have hm16 : nxs (nxs (q 6)) / 8 % 16 < 16 := Nat.mod_lt _ (by omega)
    rw [if_neg z]
    by_cases y : nxs (nxs (q 6)) / 8 % 16 < od
    · rw [if_pos y]
      have hk : nxs (q 6) / 8 % s.1 < s.1 := Nat.mod_lt _ (by omega)
      obtain ⟨τ, t1, t2, t3⟩ := switch1 h2 w hk (v := if s.2.1.testBit (nxs (q 6) / 8 % s.1) then 0 else 1) rfl
      refine ⟨τ, ?_, t2, F2.tr t3⟩
      rw [hpre, if_neg (by rw [le_nI (by omega) (by omega)]; omega), isOnM_n h2.1 w hk, bd_s]
      by_cases x : s.2.1.testBit (nxs (q 6) / 8 % s.1) = true
      · rw [if_pos x] at t1
        have t1' : Mo_switches σ2 (nI (nxs (q 6) / 8 % s.1)) 0 = some (1, τ) := t1
        rw [if_pos x, if_neg (by decide), t1', bd2_s, ckl1, chk_true]
        rfl
      · rw [if_neg x] at t1
        have t1' : Mo_switches σ2 (nI (nxs (q 6) / 8 % s.1)) 1 = some (1, τ) := t1
        rw [if_neg x, if_pos rfl, t1', bd2_s, ckl1, chk_true]
        rfl
    · rw [if_neg y]
      obtain ⟨τ, t1, t2, t3⟩ := shiftM h2 w (m := 1) (by omega) (by omega)
      have t1' : Mo_shiftsOn σ2 1 = some (1, τ) := t1
      refine ⟨τ, ?_, t2, F2.tr t3⟩
      rw [hpre, if_pos (by rw [le_nI (by omega) (by omega)]; omega), t1', bd2_s, ckl1, chk_true]
      rfl
theorem splitM (h : MLq σ od s q) (w : WFt od s) {k m : Nat} (hk : k < 12) (hm : 2 ≤ m) (hm7 : m ≤ 7) : ∃ σ', Mo_splitsOn σ (nI k) (nI m) = some ((if (pact od 17 k m s q).1 = true then 1 else 0), σ') ∧ MLq σ' od (pact od 17 k m s q).2.1 (pact od 17 k m s q).2.2 ∧ Fp Alf σ σ' := by
  have hc : s.1 ≤ 12 := w.1
  have ep : pact od 17 k m s q = if k < s.1 ∧ s.1 + m - 1 ≤ 12 ∧ s.2.2.2.1 k * m ≤ 60 then (true, psplit s k m, q) else (false, s, q) := rfl
  rw [ep]
  unfold Mo_splitsOn
  by_cases z1 : k < s.1
  · have hwn := whyNot_n h.1 w z1 (n := m) (by omega) hm7
    rw [isCl1 h.1 w z1, bd_s, if_neg (by decide), hwn, bd_s]
    by_cases z2 : s.1 + m - 1 ≤ 12
    · by_cases z3 : s.2.2.2.1 k * m ≤ 60
      · obtain ⟨τ, t1, t2, t3⟩ := splits_n h.1 w z1 hm hm7 z2 z3
        rw [if_pos z2, if_pos z3, if_pos (show k < s.1 ∧ s.1 + m - 1 ≤ 12 ∧ s.2.2.2.1 k * m ≤ 60 from ⟨z1, z2, z3⟩), if_pos (by decide), t1, bd_s]
        exact ⟨τ, rfl, h.keep (s2 := psplit s k m) t2 t3 (fun i => by unfold Ms; omega), t3.mono (fun a i z => by unfold Ms at z; unfold Alf; omega)⟩
      · rw [if_pos z2, if_neg z3, if_neg (show ¬ (k < s.1 ∧ s.1 + m - 1 ≤ 12 ∧ s.2.2.2.1 k * m ≤ 60) from fun y => z3 y.2.2), if_neg (by decide)]
        exact ⟨σ, rfl, h, Fp.rf⟩
    · rw [if_neg z2, if_neg (show ¬ (k < s.1 ∧ s.1 + m - 1 ≤ 12 ∧ s.2.2.2.1 k * m ≤ 60) from fun y => z2 y.2.1), if_neg (by decide)]
      exact ⟨σ, rfl, h, Fp.rf⟩
  · rw [isCl0 h.1 w z1 (by omega), bd_s, if_pos rfl, if_neg (show ¬ (k < s.1 ∧ s.1 + m - 1 ≤ 12 ∧ s.2.2.2.1 k * m ≤ 60) from fun y => z1 y.1)]
    exact ⟨σ, rfl, h, Fp.rf⟩
end LIM
