section FOLd
variable {od n : Nat} {kd te sg wh nu pa : Nat → Nat} {a0 a1 : Nat} {s : Nat × Nat × (Nat → Nat) × (Nat → Nat) × (Nat → Nat)} {q R : Nat → Nat}
theorem LA.f (h : LA a0 a1) : 46 < a0 ∧ a0 < 50 ∧ a1 < 12 ∧ 6 < a1 := by unfold LA at h; omega
theorem folKeep {σ : St} {t : Nat} (hA : LA a0 a1) (hq' : CQ σ a0 a1 od s q) (v : Int32) : CQ (wI σ (a0 + 1) t v) a0 a1 od s q := by
  obtain ⟨l1, l2, l3, l4⟩ := hA.f
  have F1 : Fp (fun a i => a = a0 + 1) σ (wI σ (a0 + 1) t v) := Fp.wI (A := fun a i => a = a0 + 1) (Fp.rf (A := fun a i => a = a0 + 1)) (show a0 + 1 = a0 + 1 from rfl)
  exact hq'.keep (hq'.1.keep (F1.sm (fun b i z1 z2 z => by omega))) (fun i => wI_ne (by omega))
theorem folEnd {σ : St} {t : Nat} (hq' : CQ σ a0 a1 od s q) (hA : LA a0 a1) (i1 : WFt od s) (hr' : ∀ j, j < n → opn kd pa t j → kd j = 23 → σ.1 (a0 + 1) j = nI (R j)) (D : DVc σ 15 n kd te sg wh nu pa) (wd : WD n kd te sg wh nu pa) (ht' : t < n) (i5' : ∀ j, j < n → opn kd pa t j → kd j = 23 → 1 ≤ R j ∧ R j ≤ 99) (k24 : kd t = 24) : ∃ σ', Li_follow σ a0 a1 15 (nI t) = some (nI (stp od n kd te sg wh nu pa (t, s, q, R)).1, σ') ∧ CL σ' a0 a1 od n kd pa (stp od n kd te sg wh nu pa (t, s, q, R)) := by
  have hn := wd.1
  obtain ⟨l1, l2, l3, l4⟩ := hA.f
  have d1' : σ.1 (15 + 1) t = nI (kd t) := (D.2.2 t ht').1
  have ep : σ.1 (15 + 6) t = nI (pa t) := (D.2.2 t ht').2.2.2.2.2 (by unfold wantsP; omega)
  obtain ⟨e1, e2, e3, e4⟩ := (wd.2 t ht').2.2.2.2.2.2.2.2.2 k24
  have hpn : pa t < n := by omega
  have ek : σ.1 (15 + 1) (pa t) = nI (kd (pa t)) := (D.2.2 (pa t) hpn).1
  have hop : opn kd pa t (pa t) := (o_end wd ht' k24 hpn).2.2 rfl
  unfold stp
  show ∃ σ', Li_follow σ a0 a1 15 (nI t) = _ ∧ _
  rw [if_pos k24]
  have hf : Li_follow σ a0 a1 15 (nI t) = bd2 (Li_behindEnd σ a0 15 (nI t)) (fun r68 σ69 => some (r68, σ69)) := by
    unfold Li_follow
    rw [ix_nI (by omega) (by omega), chk_true, tn_nI (by omega), d1', bnd_x, k24, if_pos (show nI 24 = 24 from rfl)]
  by_cases k23 : kd (pa t) = 23
  · obtain ⟨r1, r2⟩ := i5' (pa t) hpn hop k23
    have hR := hr' (pa t) hpn hop k23
    rw [if_pos k23]
    have hb : Li_behindEnd σ a0 15 (nI t) = some (nI (if 1 < R (pa t) then pa t + 1 else t + 1), wI σ (a0 + 1) (pa t) (nI (R (pa t) - 1))) := by
      unfold Li_behindEnd
      rw [ix_nI (by omega) (by omega), chk_true, tn_nI (by omega), ep, bnd_x, if_neg (nI_pos (by omega)), ix_nI (by omega) (by omega), chk_true, tn_nI (by omega), ek, k23, if_pos (show nI 23 = 23 from rfl), chk_true, chk_true, hR, show nI (R (pa t)) - 1 = nI (R (pa t) - 1) from sub_nI (a := R (pa t)) (b := 1) r1, bnd_x, chk_true, wI_s, nI_1, nI_1]
      by_cases z : 1 < R (pa t)
      · rw [show (0 : Int32) = nI 0 from rfl, if_neg (by rw [le_nI (by omega) (by omega)]; omega), if_pos z]
      · rw [show (0 : Int32) = nI 0 from rfl, if_pos (by rw [le_nI (by omega) (by omega)]; omega), if_neg z]
    refine ⟨wI σ (a0 + 1) (pa t) (nI (R (pa t) - 1)), by rw [hf, hb, bd2_s], folKeep hA hq' _, fun j hj ho hk => ?_⟩
    show (wI σ (a0 + 1) (pa t) (nI (R (pa t) - 1))).1 (a0 + 1) j = nI (fset R (pa t) (R (pa t) - 1) j)
    by_cases e : j = pa t
    · rw [e, wI_s, fset_1]
    · rw [wI_ne (by omega), fset_2 _ _ e]
      refine hr' j hj ?_ hk
      have ho' : opn kd pa (if 1 < R (pa t) then pa t + 1 else t + 1) j := ho
      by_cases z : 1 < R (pa t)
      · rw [if_pos z] at ho'; exact (o_end wd ht' k24 hj).2.1.mp ho'
      · rw [if_neg z] at ho'; exact ((o_end wd ht' k24 hj).1.mp ho').1
  · rw [if_neg k23]
    have hl : kd (pa t) < 100 := by omega
    have hb : Li_behindEnd σ a0 15 (nI t) = some (nI (t + 1), σ) := by
      unfold Li_behindEnd
      rw [ix_nI (by omega) (by omega), chk_true, tn_nI (by omega), ep, bnd_x, if_neg (nI_pos (by omega)), ix_nI (by omega) (by omega), chk_true, tn_nI (by omega), ek, show (23 : Int32) = nI 23 from rfl, if_neg (by rw [eq_nI (by omega) (by omega)]; exact k23), nI_1]
    refine ⟨σ, by rw [hf, hb, bd2_s], hq', fun j hj ho hk => ?_⟩
    exact hr' j hj ((o_end wd ht' k24 hj).1.mp ho).1 hk
theorem folNone (wd : WD n kd te sg wh nu pa) {j : Nat} (hj : j < n) : ¬ opn kd pa n j := fun ho' => by
  obtain ⟨p1, p2, p3, p4⟩ := (wd.2 j hj).2.2.2.2.2.2.2.2.1 ho'.2.2
  unfold opn at ho'; omega
theorem folCut {σ : St} {t : Nat} (hq' : CQ σ a0 a1 od s q) (hA : LA a0 a1) (i1 : WFt od s) (hr' : ∀ j, j < n → opn kd pa t j → kd j = 23 → σ.1 (a0 + 1) j = nI (R j)) (D : DVc σ 15 n kd te sg wh nu pa) (wd : WD n kd te sg wh nu pa) (ht' : t < n) (k24 : ¬ kd t = 24) (k300 : 300 ≤ q 5) (i3' : q 5 ≤ 300) : ∃ σ', Li_follow σ a0 a1 15 (nI t) = some (nI (stp od n kd te sg wh nu pa (t, s, q, R)).1, σ') ∧ CL σ' a0 a1 od n kd pa (stp od n kd te sg wh nu pa (t, s, q, R)) := by
  have hn := wd.1
  obtain ⟨l1, l2, l3, l4⟩ := hA.f
  have d1' : σ.1 (15 + 1) t = nI (kd t) := (D.2.2 t ht').1
  have hkl : kd t < 100 := by have := (wd.2 t ht').1; omega
  have n24 : ¬ nI (kd t) = 24 := by rw [show (24 : Int32) = nI 24 from rfl, eq_nI (by omega) (by omega)]; exact k24
  have h7 : CQ (wI σ a0 7 (nI 1)) a0 a1 od s (fset q 4 1) := hq'.c7 hA 1
  have hd : (wI σ a0 7 (nI 1)).1 15 6 = nI n := (wI_ne (by omega)).trans D.2.1
  unfold stp
  show ∃ σ', Li_follow σ a0 a1 15 (nI t) = _ ∧ _
  rw [if_neg k24, if_pos k300]
  refine ⟨wI σ a0 7 (nI 1), ?_, h7, fun j hj ho hk => absurd ho (folNone wd hj)⟩
  unfold Li_follow
  rw [ix_nI (by omega) (by omega), chk_true, tn_nI (by omega), d1', bnd_x, if_neg n24, hq'.2.1, show (300 : Int32) = nI 300 from rfl, if_neg (by rw [lt_nI (by omega) (by omega)]; omega), bnd_x, show (1 : Int32) = nI 1 from rfl, hd]
end FOLd
